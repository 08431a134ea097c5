theorem ap_cov_mk {m : Nat → Nat} {s k : Nat} : ∀ n, n ≤ k → aj_cov (aj_mk m k s) n = aj_cov m n
  | 0, _ => rfl
  | n + 1, h => by rw [aj_cov, aj_cov, ap_cov_mk n (by omega), aj_mk_lt (by omega)]
theorem ap_pk_mk {m : Nat → Nat} {s k : Nat} : ∀ n, n ≤ k → ap_pk (aj_mk m k s) n = ap_pk m n
  | 0, _ => rfl
  | n + 1, h => by rw [ap_pk, ap_pk, ap_pk_mk n (by omega), aj_mk_lt (by omega)]
theorem ap_low1 : ∀ s, s < 64 → 0 < s → nI s &&& (nI s - 1) = nI (s &&& (s - 1)) ∧ aj_sz (s &&& (s - 1)) 6 + 1 = aj_sz s 6 ∧ s &&& (s - 1) ≤ s := by decide +kernel
theorem ap_pow1 : ∀ j, j < 6 → aj_sz (2 ^ j) 6 = 1 := by decide +kernel
theorem ap_and64 {y : Nat} (hy : y < 64) (w : Int32) : ∃ j, j < 64 ∧ nI y &&& w = nI j := by
  have e : nI y &&& 63 = nI y := by rw [al_and63, Nat.mod_eq_of_lt hy]
  obtain ⟨j, hj, ej⟩ := pk_andE (nI y &&& w) (m := 63) 6 (by decide)
  refine ⟨j, hj, ?_⟩
  rw [← ej, Int32.and_assoc, Int32.and_comm w 63, ← Int32.and_assoc, e]
theorem ap_pic_add {V D AL n s : Nat} {m : Nat → Nat} {sc sx : Nat → Int32} {M : Nat → Int64} (hp : ap_pic V D AL n m sc sx M) (hA : n < AL) (h0 : 0 < s) (h1 : s < 2 ^ V) (h2 : aj_sz s 6 < 4) : ap_pic V D AL (n + 1) (aj_mk m n s) (upd sc n (nI s)) sx M := by
  obtain ⟨⟨b1, b2, b3, b4, b5, b6⟩, hs, h3, h4⟩ := hp
  refine ⟨⟨b1, b2, b3, b4, b5, by omega⟩, aj_scp_add hs h0 h1 h2, fun a ha r hr => ?_, fun a ha => h4 a (by omega)⟩
  by_cases e : a = n
  · subst e
    obtain ⟨z1, z2⟩ := h4 a (Nat.le_refl a) (by omega) r hr
    rw [z1, z2]
    exact ⟨⟨fun y => absurd rfl y, fun y => absurd y (by decide)⟩, fun y => absurd y (by decide)⟩
  · rw [aj_mk_lt (by omega)]
    exact h3 a (by omega) r hr
def ap_par (V par : Nat) : Prop := par = 0 ∨ (0 < par ∧ par < 2 ^ V ∧ aj_sz par 6 < 4)
section
variable {post : Int32 → Prop} {L : Nat} {xs : Nat → Int32} {J99 : Int32 → Int32 → Int64 → Int64 → Int64 → Int64 → Int64 → Int64 → Int64 → Int32 → Int32 → Int32 → Int32 → Int32 → Int32 → Int32 → Int32 → (Nat → Int32) → (Nat → Int32) → (Nat → Int32) → (Nat → Int32) → (Nat → Int32) → Prop} {J169 : Int32 → Int32 → Int64 → Int32 → Int32 → Int32 → Int32 → Int32 → Int32 → Int32 → (Nat → Int32) → (Nat → Int32) → (Nat → Int32) → (Nat → Int32) → (Nat → Int32) → Prop}
variable {V D AL n g rd : Nat} {m : Nat → Nat} {x6 fR rs x24 x25 x26 x27 x28 : Int32} {sc sx an lv ps : Nat → Int32} {M : Nat → Int64} {kc ks : Nat}
theorem al_332 {s : Nat} (hp : ap_pic V D AL n m sc sx M) (hA : n < AL) (h0 : 0 < s) (h1 : s < 2 ^ V) (h2 : aj_sz s 6 < 4) (k : ap_pic V D AL (n + 1) (aj_mk m n s) (upd sc n (nI s)) sx M → J169 (nI (n + 1)) (nI (aj_cov (aj_mk m n s) (n + 1))) (lN (ap_pk (aj_mk m n s) (n + 1))) (nI V) (nI D) (nI AL) fR (nI (n + 1)) (nI 0) rs (upd sc n (nI s)) sx an lv ps) : wL_law_332 post L xs J99 J169 (nI V) (nI D) (nI AL) x6 (nI g) (nI n) (nI (aj_cov m n)) (lN (ap_pk m n)) (M 0) (M 1) (M 2) (M 3) (M 4) (M 5) x24 x25 x26 x27 (nI s) kc ks (nI V) (nI D) (nI AL) fR (nI n) (nI 0) rs sc sx an lv ps := by
  have b2 := hp.1.2.1
  have hn6 : n < 6 := by have := hp.1; omega
  have hs64 : s < 64 := Nat.lt_of_lt_of_le h1 (aj_p2 b2)
  have hpk := ap_pk_lt n (ap_m64 hp)
  have h36 := ap_pk_36 (by omega) (ap_m64 hp)
  have hk := k (ap_pic_add hp hA h0 h1 h2)
  unfold wL_law_332
  refine aq_addAtom b2 (by have := hp.1; omega) hA h0 h1 h2 (br_t rfl (aq_scope (by omega) (by omega) ?_))
  rw [pk_us]
  refine br_t rfl (nm_r (e' := lN (ap_pk (aj_mk m n s) (n + 1))) ?_ (nm_r (e' := nI (aj_cov (aj_mk m n s) (n + 1))) ?_ (nm_r (nI_1 n) hk)))
  · have hb : s * 2 ^ (6 * n) < 2 ^ 36 := by
      have h3 : 2 ^ (6 * n) ≤ 2 ^ 30 := Nat.pow_le_pow_right (by decide) (by omega)
      have h4 : s * 2 ^ (6 * n) ≤ 63 * 2 ^ 30 := Nat.mul_le_mul (by omega) h3
      have h5 : 63 * 2 ^ 30 < 2 ^ 36 := by decide
      omega
    have e64 : 64 ^ n = 2 ^ (6 * n) := by rw [Nat.pow_mul]
    have hor : s * 2 ^ (6 * n) ||| ap_pk m n = s * 2 ^ (6 * n) + ap_pk m n := by
      rw [← Nat.shiftLeft_eq, Nat.shiftLeft_add_eq_or_of_lt (by rw [← e64]; exact hpk)]
    rw [show (6 : Int32) * nI n = nI (6 * n) from pk_mul 6 n, nI_l (by omega), wb_shl s (by omega), wb_or (by omega) (by omega), Nat.or_comm, hor, ap_pk, ap_pk_mk n (Nat.le_refl n), aj_mk_n, e64, Nat.add_comm]
  · rw [aj_or, aj_cov, ap_cov_mk n (Nat.le_refl n), aj_mk_n]
theorem al_274 {par kk s : Nat} (hL : L ≤ 260) (hkk : kk < 1000) (hp : ap_pic V D AL n m sc sx M) (hA : n < AL) (hpar : ap_par V par) (hs : s < 2 ^ V) (k : ∀ s, 0 < s → ap_pic V D AL (n + 1) (aj_mk m n s) (upd sc n (nI s)) sx M → J169 (nI (n + 1)) (nI (aj_cov (aj_mk m n s) (n + 1))) (lN (ap_pk (aj_mk m n s) (n + 1))) (nI V) (nI D) (nI AL) fR (nI (n + 1)) (nI 0) rs (upd sc n (nI s)) sx an lv ps) : ∃ fu, wL_law_274 post L xs J99 J169 (nI V) (nI D) (nI AL) x6 (nI g) (nI n) (nI (aj_cov m n)) (lN (ap_pk m n)) (M 0) (M 1) (M 2) (M 3) (M 4) (M 5) x24 x25 x26 x27 (nI kk) (nI par) kc ks (nI V) (nI D) (nI AL) fR (nI n) (nI 0) rs sc sx an lv ps fu (nI s) 0 := by
  have b2 := hp.1.2.1
  have hV64 := aj_p2 b2
  refine loop_0 (fun n' i s => wL_law_274 post L xs J99 J169 (nI V) (nI D) (nI AL) x6 (nI g) (nI n) (nI (aj_cov m n)) (lN (ap_pk m n)) (M 0) (M 1) (M 2) (M 3) (M 4) (M 5) x24 x25 x26 x27 (nI kk) (nI par) kc ks (nI V) (nI D) (nI AL) fR (nI n) (nI 0) rs sc sx an lv ps n' (nI s) (nI i)) (fun i s => s < 2 ^ V ∧ (aj_sz s 6 ≤ 3 ∨ aj_sz s 6 + i ≤ 6)) 3 s ⟨hs, Or.inr (aj_sz_le s 6)⟩ ?_ ?_
  · intro n' s hI
    have h3 : aj_sz s 6 < 4 := by have := hI.2; omega
    refine pk_le 3 3 (fun _ => pk_eq s 0 (fun _ => ?_) (fun z => al_332 hp hA (by omega) hI.1 h3 (k s (by omega))) rfl rfl (by have := hI.1; omega)) (fun z => absurd z (by omega))
    have hpl : par < 2 ^ 31 := by rcases hpar with z | z <;> omega
    refine pk_eq par 0 (fun _ => ?_) (fun z => ?_)
    · refine al_pick hL (kk + 3) (nI_add kk 3) (by omega) V rfl (by have := hp.1; omega) (by omega) fun j hj => ?_
      rw [aj_shV j (by omega)]
      exact al_332 hp hA (Nat.two_pow_pos j) (Nat.pow_lt_pow_right (by decide) hj) (by rw [ap_pow1 j (by omega)]; decide) (k (2 ^ j) (Nat.two_pow_pos j))
    · rcases hpar with y | ⟨y1, y2, y3⟩
      · exact absurd y z
      · exact al_332 hp hA y1 y2 y3 (k par y1)
  · intro n' i s hi hI hw
    have hz := aj_sz_le s 6
    refine pk_le 3 i (fun z => absurd z (by omega)) (fun _ => al_bits rfl (by have := hI.1; omega) (pk_le (aj_sz s 6) 3 (fun z => nm_r (nI_1 i) (hw s ⟨hI.1, Or.inl z⟩)) (fun z => ?_)))
    have hs0 : 0 < s := Nat.pos_of_ne_zero fun e => by
      subst e
      exact absurd z (by decide)
    obtain ⟨l1, l2, l3⟩ := ap_low1 s (by have := hI.1; omega) hs0
    exact nm_r l1 (nm_r (nI_1 i) (hw _ ⟨by have := hI.1; omega, Or.inr (by have := hI.2; omega)⟩))
theorem al_214 {par kk : Nat} (hL : L ≤ 260) (hkk : kk < 1000) (hp : ap_pic V D AL n m sc sx M) (hA : n < AL) (hpar : ap_par V par) (k : ∀ s, 0 < s → ap_pic V D AL (n + 1) (aj_mk m n s) (upd sc n (nI s)) sx M → J169 (nI (n + 1)) (nI (aj_cov (aj_mk m n s) (n + 1))) (lN (ap_pk (aj_mk m n s) (n + 1))) (nI V) (nI D) (nI AL) fR (nI (n + 1)) (nI 0) rs (upd sc n (nI s)) sx an lv ps) : wL_law_214 post L xs J99 J169 (nI V) (nI D) (nI AL) x6 (nI g) (nI n) (nI (aj_cov m n)) (lN (ap_pk m n)) (M 0) (M 1) (M 2) (M 3) (M 4) (M 5) x24 x25 x26 x27 (nI kk) (nI par) kc ks (nI V) (nI D) (nI AL) fR (nI n) (nI 0) rs sc sx an lv ps := by
  have b2 := hp.1.2.1
  have f263 : ∀ z, z < 64 → wL_law_263 post L xs J99 J169 (nI V) (nI D) (nI AL) x6 (nI g) (nI n) (nI (aj_cov m n)) (lN (ap_pk m n)) (M 0) (M 1) (M 2) (M 3) (M 4) (M 5) x24 x25 x26 x27 (nI kk) (nI par) (nI z) kc ks (nI V) (nI D) (nI AL) fR (nI n) (nI 0) rs sc sx an lv ps := fun z hz => by
    have hV := Nat.two_pow_pos V
    have e : nI z &&& (((1 : Int32) <<< (nI V &&& 31)) - 1) = nI (z % 2 ^ V) := by
      rw [aj_shV V (by omega), show nI (2 ^ V) - 1 = nI (2 ^ V - 1) from pk_sub (b := 1) (by omega), nx_and, Nat.and_two_pow_sub_one_eq_mod]
    exact nm_r e (al_274 hL hkk hp hA hpar (Nat.mod_lt _ hV) k)
  unfold wL_law_214
  refine al_pick hL (kk + 1) (nI_add kk 1) (by omega) 64 rfl (by decide) (by decide) fun x hx => al_pick hL (kk + 2) (nI_add kk 2) (by omega) 64 rfl (by decide) (by decide) fun y hy => br_c (fun _ => f263 x hx) (fun _ => ?_)
  obtain ⟨j, hj, ej⟩ := ap_and64 hy (nI (aj_cov m n) ^^^ (-1))
  rw [ej, nx_and, aj_or]
  exact f263 _ (Nat.or_lt_two_pow (n := 6) (Nat.and_lt_two_pow (n := 6) par hx) hj)
theorem al_169 {base c goal : Nat} (hL : L ≤ 260) (hc : c < 2) (hb : base < 300) (hg : g ≤ 4) (hgo : 0 < goal) (hgo2 : goal < 100) (hAL : 3 ≤ AL) (k : ∀ n m sc sx' M' ph rs' an' lv' ps', 0 < n → ap_pic V D AL n m sc sx' M' → ph ≠ 0 → ph ≤ 2 → J99 (nI n) (nI (aj_cov m n)) (lN (ap_pk m n)) (M' 0) (M' 1) (M' 2) (M' 3) (M' 4) (M' 5) (nI (rd + 1)) (nI V) (nI D) (nI AL) fR (nI n) (nI ph) rs' sc sx' an' lv' ps') : ∀ d n m sc, AL - n < d → ap_pic V D AL n m sc sx M → wL_law_169 post L xs J99 (nI V) (nI D) (nI AL) x6 (nI g) (M 0) (M 1) (M 2) (M 3) (M 4) (M 5) (nI rd) (nI base) (nI c) (nI goal) kc ks d (nI n) (nI (aj_cov m n)) (lN (ap_pk m n)) (nI V) (nI D) (nI AL) fR (nI n) (nI 0) rs sc sx an lv ps := by
  intro d
  induction d with
  | zero => exact fun n m sc h => absurd h (Nat.not_lt_zero _)
  | succ d ih =>
    intro n m sc hd hp
    have hn : n ≤ 6 := by have := hp.1; omega
    have hgn : g * n ≤ 24 := Nat.mul_le_mul hg hn
    have f385 : 0 < n → wL_law_385 post L xs J99 (nI V) (nI D) (nI AL) x6 (nI g) (nI n) (nI (aj_cov m n)) (lN (ap_pk m n)) (M 0) (M 1) (M 2) (M 3) (M 4) (M 5) (nI rd) (nI base) (nI c) kc ks (nI V) (nI D) (nI AL) fR (nI n) (nI 0) rs sc sx an lv ps := fun hn0 => by
      unfold wL_law_385
      refine al_pick hL (base + 1) (nI_add base 1) (by omega) 13 rfl (by decide) (by decide) fun j hj => nm_r (e' := nI (g * n + j)) (by rw [pk_mul g n, nI_add]) ?_
      exact al_406 hL hc hb hg (by omega) hn0 hp fun sx' M' ph rs' an' lv' ps' h1 h2 h3 => k n m sc sx' M' ph rs' an' lv' ps' hn0 h1 h2 h3
    refine pk_le goal n (fun z => f385 (by omega)) (fun z1 => pk_le AL n (fun z => f385 (by omega)) (fun z2 => ?_) rfl rfl (by have := hp.1; omega))
    refine nm_r (e' := nI (8 + 4 * n)) (by rw [show (4 : Int32) * nI n = nI (4 * n) from pk_mul 4 n]; exact nI_add 8 _) (pk_eq n 0 (fun _ => ?_) (fun hn0 => ?_))
    · exact al_214 (par := 0) hL (by omega) hp z2 (Or.inl rfl) fun s _ h => ih (n + 1) _ _ (by omega) h
    · refine al_pick hL (8 + 4 * n) rfl (by omega) n rfl (by omega) (by omega) fun j hj => al_scopeAt hn (ap_m64 hp) rfl (by omega) ?_
      rw [ap_sc_lt hj]
      obtain ⟨_, q1, q2, q3⟩ := hp.2.1 j hj
      exact al_214 hL (by omega) hp z2 (Or.inr ⟨q1, q2, q3⟩) fun s _ h => ih (n + 1) _ _ (by omega) h
end
section
variable {post : Int32 → Prop} {L : Nat} {xs : Nat → Int32} {V D AL g : Nat} {x6 fR : Int32} {kc ks : Nat}
theorem ap_cx : ∀ j, j < 2 → ∀ rd, rd < 3 → nI j ^^^ (nI rd &&& 1) = nI ((j + rd) % 2) := by decide +kernel
theorem al_99 (hL : L ≤ 260) (hg : g ≤ 4) (hAL : 3 ≤ AL) (h1 : post 1) : ∀ d rd, rd + d = 3 → ∀ n m sc sx M ph rs an lv ps, ap_pic V D AL n m sc sx M → ph ≤ 2 → (rd = 0 → ph = 0) → (rd ≠ 0 → ph ≠ 0 ∧ 0 < n) → wL_law_99 post L xs (nI V) (nI D) (nI AL) x6 (nI g) kc ks (d + 1) (nI n) (nI (aj_cov m n)) (lN (ap_pk m n)) (M 0) (M 1) (M 2) (M 3) (M 4) (M 5) (nI rd) (nI V) (nI D) (nI AL) fR (nI n) (nI ph) rs sc sx an lv ps := by
  intro d
  induction d with
  | zero =>
    intro rd hrd n m sc sx M ph rs an lv ps _ _ _ _
    exact pk_le 3 rd (fun _ => h1) (fun z => absurd z (by omega))
  | succ d ih =>
    intro rd hrd n m sc sx M ph rs an lv ps hp hph h0 hne
    refine pk_le 3 rd (fun z => absurd z (by omega)) (fun _ => nm_r (e' := nI (56 + 96 * rd)) (by rw [show (96 : Int32) * nI rd = nI (96 * rd) from pk_mul 96 rd]; exact nI_add 56 _) (al_pick hL 6 rfl (by decide) 2 rfl (by decide) (by decide) fun j hj => nm_r (ap_cx j hj rd (by omega)) ?_))
    have hcc : (j + rd) % 2 < 2 := Nat.mod_lt _ (by decide)
    have hALn := hp.1
    have go : wL_law_140 post L xs (wL_law_99 post L xs (nI V) (nI D) (nI AL) x6 (nI g) kc ks (d + 1)) (nI V) (nI D) (nI AL) x6 (nI g) (nI n) (nI (aj_cov m n)) (lN (ap_pk m n)) (M 0) (M 1) (M 2) (M 3) (M 4) (M 5) (nI rd) (nI (56 + 96 * rd)) (nI ((j + rd) % 2)) kc ks (nI V) (nI D) (nI AL) fR (nI n) (nI 0) rs sc sx an lv ps := by
      have key : ∀ goal, 0 < goal → goal < 100 → ∃ fu, wL_law_169 post L xs (wL_law_99 post L xs (nI V) (nI D) (nI AL) x6 (nI g) kc ks (d + 1)) (nI V) (nI D) (nI AL) x6 (nI g) (M 0) (M 1) (M 2) (M 3) (M 4) (M 5) (nI rd) (nI (56 + 96 * rd)) (nI ((j + rd) % 2)) (nI goal) kc ks fu (nI n) (nI (aj_cov m n)) (lN (ap_pk m n)) (nI V) (nI D) (nI AL) fR (nI n) (nI 0) rs sc sx an lv ps := fun goal g1 g2 => ⟨AL + 1, al_169 hL hcc (by omega) hg g1 g2 hAL (fun n' m' sc' sx' M' ph' rs' an' lv' ps' hn' hp' hq1 hq2 => ih (rd + 1) (by omega) n' m' sc' sx' M' ph' rs' an' lv' ps' hp' hq2 (fun z => absurd z (by omega)) (fun _ => ⟨hq1, hn'⟩)) (AL + 1) n m sc (by omega) hp⟩
      refine pk_eq rd 0 (fun _ => ?_) (fun hr => ?_)
      · refine al_pick hL 4 rfl (by decide) 3 rfl (by decide) (by decide) fun i hi => nm_r (pk_sub (show i ≤ AL by omega)) (key (AL - i) (by omega) (by omega))
      · refine al_pick hL (56 + 96 * rd) rfl (by omega) 2 rfl (by decide) (by decide) fun i hi => nm_r (nI_add n i) (key (n + i) (by have := (hne hr).2; omega) (by omega))
    refine pk_le rd 0 (fun z => ?_) (fun z => ?_)
    · rw [h0 (by omega)]
      exact go
    · exact aq_reopen (hne (by omega)).1 hph go
end
theorem al_clamp {post : Int32 → Prop} {k lo hi : Nat} (h1 : lo ≤ k) (h2 : k ≤ hi) (hh : hi < 2 ^ 31) (h : post (nI k)) : wpX_clamp post () (nI k) (nI lo) (nI hi) := br_t (nI_le h1 (by omega)) (br_t (nI_le h2 hh) h)
theorem i_vc (xs : Nat → Int32) (L : Nat) (hL : L ≤ 260) : wpL_law (fun r => r = 1) L xs := by
  refine al_pick hL 0 rfl (by decide) 4 rfl (by decide) (by decide) fun a ha => nm_r (nI_add 3 a) (al_pick hL 1 rfl (by decide) 3 rfl (by decide) (by decide) fun b hb => nm_r (nI_add 2 b) (al_pick hL 2 rfl (by decide) 4 rfl (by decide) (by decide) fun c hc => nm_r (nI_add 3 c) (al_pick hL 3 rfl (by decide) 7 rfl (by decide) (by decide) fun d hd => ⟨5, 4872, by decide, by decide, by decide, by decide, by decide, by decide, by decide, by decide, by decide, by decide, by decide, by decide, ?_⟩)))
  rw [show (2 : Int32) + nI d = nI (2 + d) from nI_add 2 d]
  refine al_clamp (lo := 3) (hi := 6) (by omega) (by omega) (by decide) (al_clamp (lo := 2) (hi := 4) (by omega) (by omega) (by decide) (al_clamp (lo := 3) (hi := 6) (by omega) (by omega) (by decide) (al_clamp (lo := 2) (hi := 8) (by omega) (by omega) (by decide) (ax_put (n := 0) ?_))))
  refine al_pick hL 5 rfl (by decide) 4 rfl (by decide) (by decide) fun md _ => al_pick hL 7 rfl (by decide) 5 rfl (by decide) (by decide) fun g hg => ⟨4, ?_⟩
  exact al_99 (post := fun r => r = 1) (V := 3 + a) (D := 2 + b) (AL := 3 + c) (g := g) hL (by omega) (by omega) rfl 3 0 rfl 0 (fun _ => 0) (fun _ => 0) (fun _ => 0) (fun _ => 0) 0 0 (fun _ => 0) (fun _ => 0) _ ⟨⟨by omega, by omega, by omega, by omega, by omega, by omega⟩, lt_0, lt_0, fun a _ _ r _ => ⟨rfl, al_z r⟩⟩ (by decide) (fun _ => rfl) (fun z => absurd rfl z)
