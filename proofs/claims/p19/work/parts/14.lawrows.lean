theorem ap_kx_D {k D c : Nat} (hD : 0 < D) : ∀ v, (∀ w, w < v → k.testBit w = true → aj_val c w < D) → ∀ j, aj_kx k c v / 4 ^ j % 4 < D
  | 0, _, j => by rw [aj_kx, Nat.zero_div]; exact hD
  | v + 1, h, j => by
    have ih := ap_kx_D (k := k) (c := c) hD v (fun w hw => h w (by omega)) j
    have hl := aj_kx_lt k c v
    rw [aj_kx]
    by_cases hb : k.testBit v = true
    · rw [if_pos hb]
      have hd := h v (by omega) hb
      have hv := aj_val_lt c v
      rcases Nat.lt_trichotomy j (aj_sz k v) with z | z | z
      · obtain ⟨d, hd2⟩ : ∃ d, aj_sz k v = j + (d + 1) := ⟨aj_sz k v - j - 1, by omega⟩
        have e2 : aj_val c v * 4 ^ aj_sz k v = (aj_val c v * 4 ^ d * 4) * 4 ^ j := by
          rw [hd2, Nat.pow_add, Nat.pow_succ, Nat.mul_assoc, Nat.mul_assoc, Nat.mul_comm (4 ^ j), Nat.mul_assoc]
        rw [e2, Nat.add_mul_div_right _ _ (Nat.pow_pos (by decide)), Nat.add_mul_mod_self_right]
        exact ih
      · rw [z, Nat.add_mul_div_right _ _ (Nat.pow_pos (by decide)), Nat.div_eq_of_lt hl, Nat.zero_add, Nat.mod_eq_of_lt hv]
        exact hd
      · have h1 : aj_val c v * 4 ^ aj_sz k v ≤ 3 * 4 ^ aj_sz k v := Nat.mul_le_mul_right _ (by omega)
        have h2 : 4 ^ (aj_sz k v + 1) ≤ 4 ^ j := Nat.pow_le_pow_right (by decide) z
        rw [Nat.pow_succ] at h2
        rw [Nat.div_eq_of_lt (by omega)]
        exact hD
    · rw [if_neg hb]
      exact ih
theorem ap_shl2 {p j : Nat} (hp : p < 1024) (hj : j < 4) : (nI p <<< ((2 : Int32) &&& 31)) ||| nI j = nI (p * 4 + j) := by
  have h1 : p * 2 ^ 2 ||| j = p * 2 ^ 2 + j := by rw [← Nat.shiftLeft_eq, Nat.shiftLeft_add_eq_or_of_lt hj]
  rw [pk_shlN _ 2 (by decide) (by omega), aj_or, h1]
def ap_digs (D v p : Nat) : Prop := p < 4 ^ v ∧ ∀ i, i < v → p / 4 ^ i % 4 < D
theorem ap_digs_s {D v p j : Nat} (hD : D ≤ 4) (h : ap_digs D v p) (hj : j < D) : ap_digs D (v + 1) (p * 4 + j) := by
  refine ⟨by rw [Nat.pow_succ]; have := h.1; omega, fun i hi => ?_⟩
  cases i with
  | zero =>
    rw [Nat.pow_zero, Nat.div_one]
    omega
  | succ i =>
    have e : (p * 4 + j) / 4 ^ (i + 1) = p / 4 ^ i := by
      rw [Nat.pow_succ, Nat.mul_comm (4 ^ i) 4, ← Nat.div_div_eq_div_mul, show (p * 4 + j) / 4 = p by omega]
    rw [e]
    exact h.2 i (by omega)
theorem ap_digs_ok {V D AL n p a : Nat} {m : Nat → Nat} {sc sx : Nat → Int32} {M : Nat → Int64} (hp : ap_pic V D AL n m sc sx M) (h : ap_digs D V p) (ha : a < n) : ap_ok D (aj_sz (m a) 6) (aj_kx (m a) (ap_up6 V p) V) := by
  obtain ⟨⟨b1, b2, b3, b4, b5, b6⟩, hs, _⟩ := hp
  have e := ap_kx_6 (c := ap_up6 V p) (hs a ha).2.2.1 b2
  have hd := ap_kx_D (k := m a) (c := ap_up6 V p) (D := D) (by omega) V fun w hw _ => by
    rw [ap_dig b1 b2 hw, Nat.pow_mul]
    exact h.2 (V - 1 - w) (by omega)
  refine ⟨by rw [← e]; exact aj_kx_lt _ _ 6, ?_, ?_, ?_⟩
  · have := hd 0
    rw [Nat.pow_zero, Nat.div_one] at this
    exact this
  · exact hd 1
  · exact hd 2
theorem ap_uL {f : Nat → Int64} {k : Nat} {x : Int64} : vp_updL f k x k = x := if_pos rfl
theorem ap_uN {f : Nat → Int64} {k j : Nat} {x : Int64} (h : j ≠ k) : vp_updL f k x j = f j := if_neg h
theorem ap_pic_upd {V D AL n a r : Nat} {m : Nat → Nat} {sc sx : Nat → Int32} {M : Nat → Int64} {y : Int64} {z : Int32} (hp : ap_pic V D AL n m sc sx M) (ha : a < n) (hok : ap_ok D (aj_sz (m a) 6) r) (hy : ∀ i, i < 64 → i ≠ r → al_b y i = al_b (M a) i) (hz : ¬ z = 0 ↔ al_b y r = true) : ap_pic V D AL n m sc (upd sx (a * 64 + r) z) (vp_updL M a y) := by
  obtain ⟨hb, hs, h1, h2⟩ := hp
  have hr := ap_ok64 (hs a ha).2.2.2 hok
  refine ⟨hb, hs, fun b hbn i hi => ?_, fun b hbn hb6 i hi => ?_⟩
  · by_cases e : b = a
    · subst e
      rw [ap_uL]
      by_cases e2 : i = r
      · subst e2
        rw [pk_us]
        exact ⟨hz, fun _ => hok⟩
      · rw [pk_un (by omega), hy i hi e2]
        exact h1 b hbn i hi
    · rw [ap_uN e, pk_un (by omega)]
      exact h1 b hbn i hi
  · rw [ap_uN (by omega), pk_un (by omega)]
    exact h2 b hbn hb6 i hi
section
variable {post : Int32 → Prop} {L : Nat} {xs : Nat → Int32} {J99 : Int32 → Int32 → Int64 → Int64 → Int64 → Int64 → Int64 → Int64 → Int64 → Int32 → Int32 → Int32 → Int32 → Int32 → Int32 → Int32 → Int32 → (Nat → Int32) → (Nat → Int32) → (Nat → Int32) → (Nat → Int32) → (Nat → Int32) → Prop} {J406 : Int64 → Int64 → Int64 → Int64 → Int64 → Int64 → Int32 → Int32 → Int32 → Int32 → Int32 → Int32 → Int32 → Int32 → (Nat → Int32) → (Nat → Int32) → (Nat → Int32) → (Nat → Int32) → (Nat → Int32) → Prop}
variable {V D AL n g rd t : Nat} {m : Nat → Nat} {x6 fR rs x24 x25 x26 x28 : Int32} {sc sx an lv ps : Nat → Int32} {M E : Nat → Int64} {kc ks : Nat}
theorem al_689ok {a r : Nat} {x36 : Int32} (ha : a < 6) (k : ∀ y, (x36 = 0 → y = M a ||| ((1 : Int64) <<< ((nI r).toInt64 &&& 63))) → (¬ x36 = 0 → y = M a &&& (((1 : Int64) <<< ((nI r).toInt64 &&& 63)) ^^^ (-1))) → J406 (vp_updL M a y 0) (vp_updL M a y 1) (vp_updL M a y 2) (vp_updL M a y 3) (vp_updL M a y 4) (vp_updL M a y 5) (nI (t + 1)) (nI V) (nI D) (nI AL) fR (nI n) (nI 0) rs sc sx an lv ps) : wL_law_689 post L xs J99 J406 (nI V) (nI D) (nI AL) x6 (nI g) (nI n) (nI (aj_cov m n)) (lN (ap_pk m n)) (M 0) (M 1) (M 2) (M 3) (M 4) (M 5) x24 x25 x26 x28 (nI t) (nI a) x36 (nI r) 0 kc ks (nI V) (nI D) (nI AL) fR (nI n) (nI 0) rs sc sx an lv ps := by
  have pt : ∀ (post' : Int64 → Prop), (∀ y, (x36 = 0 → y = M a ||| ((1 : Int64) <<< ((nI r).toInt64 &&& 63))) → (¬ x36 = 0 → y = M a &&& (((1 : Int64) <<< ((nI r).toInt64 &&& 63)) ^^^ (-1))) → post' y) → wpL_put post' () (M a) (nI r) x36 := fun post' H => br_c (fun z => H _ (fun _ => rfl) (fun y => absurd z y)) (fun z => H _ (fun y => absurd y z) (fun _ => rfl))
  have e : a = 0 ∨ a = 1 ∨ a = 2 ∨ a = 3 ∨ a = 4 ∨ a = 5 := by omega
  refine br_t rfl ?_
  rcases e with e | e | e | e | e | e <;> subst e
  · exact br_t rfl (pt _ fun y h1 h2 => nm_r (nI_1 t) (k y h1 h2))
  · exact br_f (by decide) (br_t rfl (pt _ fun y h1 h2 => nm_r (nI_1 t) (k y h1 h2)))
  · exact br_f (by decide) (br_f (by decide) (br_t rfl (pt _ fun y h1 h2 => nm_r (nI_1 t) (k y h1 h2))))
  · exact br_f (by decide) (br_f (by decide) (br_f (by decide) (br_t rfl (pt _ fun y h1 h2 => nm_r (nI_1 t) (k y h1 h2)))))
  · exact br_f (by decide) (br_f (by decide) (br_f (by decide) (br_f (by decide) (br_t rfl (pt _ fun y h1 h2 => nm_r (nI_1 t) (k y h1 h2))))))
  · exact br_f (by decide) (br_f (by decide) (br_f (by decide) (br_f (by decide) (br_f (by decide) (pt _ fun y h1 h2 => nm_r (nI_1 t) (k y h1 h2))))))
theorem al_567 {a fr wd : Nat} {x31 x34 x36 : Int32} (hL : L ≤ 260) (hp : ap_pic V D AL n m sc sx M) (ha : a < n) (hfr : fr < 1000) (hwd : 0 < wd) (hwd6 : wd ≤ 6) (h34 : x34 = -1 ∨ ∃ e, e < 10000 ∧ x31 = nI e) (k : ∀ sx' M', ap_pic V D AL n m sc sx' M' → J406 (M' 0) (M' 1) (M' 2) (M' 3) (M' 4) (M' 5) (nI (t + 1)) (nI V) (nI D) (nI AL) fR (nI n) (nI 0) rs sc sx' an lv ps) : ∃ fu, wL_law_567 post L xs J99 J406 (nI V) (nI D) (nI AL) x6 (nI g) (nI n) (nI (aj_cov m n)) (lN (ap_pk m n)) (M 0) (M 1) (M 2) (M 3) (M 4) (M 5) x24 x25 x26 x28 (nI t) (nI a) x31 (nI fr) (nI wd) x34 x36 kc ks (nI V) (nI D) (nI AL) fR (nI n) (nI 0) rs sc sx an lv ps fu 0 0 := by
  have b1 := hp.1.1
  have b2 := hp.1.2.1
  have b3 := hp.1.2.2.1
  have b4 := hp.1.2.2.2.1
  have hn : n ≤ 6 := by have := hp.1; omega
  refine loop_0 (fun n' v p => wL_law_567 post L xs J99 J406 (nI V) (nI D) (nI AL) x6 (nI g) (nI n) (nI (aj_cov m n)) (lN (ap_pk m n)) (M 0) (M 1) (M 2) (M 3) (M 4) (M 5) x24 x25 x26 x28 (nI t) (nI a) x31 (nI fr) (nI wd) x34 x36 kc ks (nI V) (nI D) (nI AL) fR (nI n) (nI 0) rs sc sx an lv ps n' (nI p) (nI v)) (fun v p => ap_digs D v p) V 0 ⟨by decide, fun i hi => absurd hi (Nat.not_lt_zero i)⟩ ?_ ?_
  · intro n' p hI
    have h4' := ap_4V b1 b2 hI.1
    have hok := ap_digs_ok hp hI ha
    have h64 := ap_ok64 (hp.2.1 a ha).2.2.2 hok
    refine pk_le V V (fun _ => al_scopeAt hn (ap_m64 hp) rfl (by omega) ?_) (fun z => absurd z (by omega))
    rw [ap_sc_lt ha]
    refine al_proj b1 b2 h4' (ap_m64 hp a ha) (hp.2.1 a ha).2.2.2 ?_
    rw [(ap_d3 _ h64).1, (ap_d3 _ h64).2.1, (ap_d3 _ h64).2.2]
    refine nm_e (nm_e (nm_e (br_c (fun z => ?_) (fun z => ?_))))
    · refine aq_addRow b2 hn b4 hp.2.1 ha hok (al_689ok (by omega) fun y h1 h2 => k _ _ (ap_pic_upd hp ha hok (fun i hi e => ?_) ?_)) (fun rc hrc => br_f hrc (nm_r (nI_1 t) (k sx M hp)))
      · rw [h1 z, al_or h64 hi, decide_eq_false (fun y => e y.symm), Bool.or_false]
      · rw [h1 z, al_or h64 h64, decide_eq_true rfl, Bool.or_true]
        exact ⟨fun _ => rfl, fun _ => by decide⟩
    · refine aq_dropRow b2 hn b4 hp.2.1 ha hok (al_689ok (by omega) fun y h1 h2 => k _ _ (ap_pic_upd hp ha hok (fun i hi e => ?_) ?_)) (fun rc hrc => br_f hrc (nm_r (nI_1 t) (k sx M hp)))
      · rw [h2 z, al_andn h64 hi, decide_eq_false (fun y => e y.symm), Bool.not_false, Bool.and_true]
      · rw [h2 z, al_andn h64 h64, decide_eq_true rfl, Bool.not_true, Bool.and_false]
        exact ⟨fun y => absurd rfl y, fun y => absurd y (by decide)⟩
  · intro n' v p hv hI hw
    have hp4 : p < 1024 := by
      have h1 := hI.1
      have h2 : 4 ^ v ≤ 4 ^ 5 := Nat.pow_le_pow_right (by decide) (by omega)
      have h3 : 4 ^ 5 = 1024 := rfl
      omega
    have nx : ∀ j, j < D → wL_law_567 post L xs J99 J406 (nI V) (nI D) (nI AL) x6 (nI g) (nI n) (nI (aj_cov m n)) (lN (ap_pk m n)) (M 0) (M 1) (M 2) (M 3) (M 4) (M 5) x24 x25 x26 x28 (nI t) (nI a) x31 (nI fr) (nI wd) x34 x36 kc ks (nI V) (nI D) (nI AL) fR (nI n) (nI 0) rs sc sx an lv ps n' (nI (p * 4 + j)) (nI (v + 1)) := fun j hj => hw _ (ap_digs_s b4 hI hj)
    refine pk_le V v (fun z => absurd z (by omega)) (fun _ => br_c (fun z => ?_) (fun z => ⟨aj_n0 (by omega) (by omega), ?_⟩))
    · rcases h34 with e | ⟨e, he, e31⟩
      · exact absurd (z.trans e) (aj_nm1 (by omega))
      · exact al_pick hL (e + 4) (by rw [e31]; exact nI_add e 4) (by omega) D rfl (by omega) (by omega) fun j hj => nm_r (ap_shl2 hp4 (by omega)) (nm_r (nI_1 v) (nx j hj))
    · have hmod := Nat.mod_lt v hwd
      exact al_pick hL (fr + v % wd) (by rw [pk_rem (by omega) hwd (by omega), nI_add]) (by omega) D rfl (by omega) (by omega) fun j hj => nm_r (ap_shl2 hp4 (by omega)) (nm_r (nI_1 v) (nx j hj))
theorem al_504 {a e kd : Nat} {z0 : Int32} (hL : L ≤ 260) (hp : ap_pic V D AL n m sc sx M) (ha : a < n) (hg : g ≤ 4) (he : e < 900) (hkd : kd < 4) (k : ∀ sx' M', ap_pic V D AL n m sc sx' M' → J406 (M' 0) (M' 1) (M' 2) (M' 3) (M' 4) (M' 5) (nI (t + 1)) (nI V) (nI D) (nI AL) fR (nI n) (nI 0) rs sc sx' an lv ps) : wL_law_504 post L xs J99 J406 (nI V) (nI D) (nI AL) x6 (nI g) (nI n) (nI (aj_cov m n)) (lN (ap_pk m n)) (M 0) (M 1) (M 2) (M 3) (M 4) (M 5) x24 x25 x26 x28 (nI t) (nI a) (nI e) 6 (-1) 0 (nI kd) z0 kc ks (nI V) (nI D) (nI AL) fR (nI n) (nI 0) rs sc sx an lv ps := by
  have b1 := hp.1.1
  have b2 := hp.1.2.1
  have f547 : ∀ fr wd, fr < 1000 → 0 < wd → wd ≤ 6 → wL_law_547 post L xs J99 J406 (nI V) (nI D) (nI AL) x6 (nI g) (nI n) (nI (aj_cov m n)) (lN (ap_pk m n)) (M 0) (M 1) (M 2) (M 3) (M 4) (M 5) x24 x25 x26 x28 (nI t) (nI a) (nI e) (nI fr) (nI wd) (-1) 0 z0 (nI kd) kc ks (nI V) (nI D) (nI AL) fR (nI n) (nI 0) rs sc sx an lv ps := fun fr wd h1 h2 h3 => pk_le kd 1 (fun _ => al_567 hL hp ha h1 h2 h3 (Or.inl rfl) k) (fun _ => al_pick hL (e + 3) (nI_add e 3) (by omega) V rfl (by omega) (by omega) fun j _ => al_567 hL hp ha h1 h2 h3 (Or.inr ⟨e, by omega, rfl⟩) k)
  have f517 : wL_law_517 post L xs J99 J406 (nI V) (nI D) (nI AL) x6 (nI g) (nI n) (nI (aj_cov m n)) (lN (ap_pk m n)) (M 0) (M 1) (M 2) (M 3) (M 4) (M 5) x24 x25 x26 x28 (nI t) (nI a) (nI e) (-1) 0 z0 (nI kd) kc ks (nI V) (nI D) (nI AL) fR (nI n) (nI 0) rs sc sx an lv ps := nm_r (nI_add e 2) (f547 (e + 2) 3 (by omega) (by decide) (by decide))
  refine pk_eq g 0 (fun _ => f517) (fun hg0 => pk_eq kd 1 (fun _ => f517) (fun _ => ?_))
  refine al_pick hL (e + 2) (nI_add e 2) (by omega) g rfl (by omega) (by omega) fun j hj => nm_r (e' := nI (32 + 6 * j)) ?_ (f547 (32 + 6 * j) 6 (by omega) (by decide) (by decide))
  rw [show (6 : Int32) * nI j = nI (6 * j) from pk_mul 6 j]
  exact nI_add 32 (6 * j)
theorem al_406 {base c steps : Nat} (hL : L ≤ 260) (hc : c < 2) (hb : base < 300) (hg : g ≤ 4) (hst : steps ≤ 40) (hn0 : 0 < n) (hp : ap_pic V D AL n m sc sx M) (k : ∀ sx' M' ph rs' an' lv' ps', ap_pic V D AL n m sc sx' M' → ph ≠ 0 → ph ≤ 2 → J99 (nI n) (nI (aj_cov m n)) (lN (ap_pk m n)) (M' 0) (M' 1) (M' 2) (M' 3) (M' 4) (M' 5) (nI (rd + 1)) (nI V) (nI D) (nI AL) fR (nI n) (nI ph) rs' sc sx' an' lv' ps') : ∃ fu, wL_law_406 post L xs J99 (nI V) (nI D) (nI AL) x6 (nI g) (nI n) (nI (aj_cov m n)) (lN (ap_pk m n)) (nI rd) (nI base) (nI c) (nI steps) kc ks fu (M 0) (M 1) (M 2) (M 3) (M 4) (M 5) 0 (nI V) (nI D) (nI AL) fR (nI n) (nI 0) rs sc sx an lv ps := by
  have hn : n ≤ 6 := by have := hp.1; omega
  refine loop_0 (fun n' t (s : (Nat → Int32) × (Nat → Int64)) => wL_law_406 post L xs J99 (nI V) (nI D) (nI AL) x6 (nI g) (nI n) (nI (aj_cov m n)) (lN (ap_pk m n)) (nI rd) (nI base) (nI c) (nI steps) kc ks n' (s.2 0) (s.2 1) (s.2 2) (s.2 3) (s.2 4) (s.2 5) (nI t) (nI V) (nI D) (nI AL) fR (nI n) (nI 0) rs sc s.1 an lv ps) (fun _ s => ap_pic V D AL n m sc s.1 s.2) steps (sx, M) hp ?_ ?_
  · rintro n' ⟨sx', M'⟩ hI
    dsimp only at hI ⊢
    have hm := ap_m64 hI
    refine pk_le steps steps (fun _ => aq_compile hn (by omega) (aj_msk_of hI.1.2.1 hI.2.1) (fun K hres hK => ?_) (fun hres a1 l1 hA hV => ?_)) (fun z => absurd z (by omega))
    · have h64 := hres.1.1
      refine al_tree hn0 hn hm hres (fun z => absurd z hK) (fun _ => br_t rfl (br_t rfl (br_f (by decide) (br_f (aj_n0 hK (by omega)) (nm_r (nI_1 rd) ?_)))))
      exact k sx' M' 2 _ _ _ _ hI (by decide) (by decide)
    · refine al_tree hn0 hn hm hres (fun _ => br_f (by decide) (br_t rfl (al_pick hL (base + 2) (nI_add base 2) (by omega) 4 rfl (by decide) (by decide) fun j hj => ?_))) (fun z => absurd rfl z)
      have e : c = 0 ∨ c = 1 := by omega
      exact al_869 hL hc (by omega) hj hn0 hI hA hV ap_ps0 (by rcases e with e | e <;> subst e <;> rfl) fun ps' => k sx' M' 1 _ _ _ ps' hI (by decide) (by decide)
  · rintro n' t ⟨sx', M'⟩ ht hI hw
    dsimp only at hI ⊢
    have hz := aj_n0 (show n ≠ 0 by omega) (show n < 2 ^ 31 by omega)
    have hmod := Nat.mod_lt t hn0
    have hdiv := Nat.div_le_self t n
    have egn : nI g * nI n = nI (g * n) := pk_mul g n
    have hgn : g * n ≤ 24 := Nat.mul_le_mul hg hn
    refine pk_le steps t (fun z => absurd z (by omega)) (fun _ => ⟨hz, ?_⟩)
    rw [pk_rem (by omega) hn0 (by omega), pk_div (by omega) hn0 (by omega), egn]
    refine nm_e (nm_e ⟨hz, nm_r (e' := nI (32 + 6 * (t / n))) (by rw [show (6 : Int32) * nI (t / n) = nI (6 * (t / n)) from pk_mul 6 _]; exact nI_add 32 _) (pk_lt t (g * n) (fun _ => ?_) (fun hge => ?_))⟩)
    · exact al_567 hL hI hmod (by omega) (by decide) (by decide) (Or.inl rfl) fun sx2 M2 h2 => hw (sx2, M2) h2
    · have e31 : (nI base + 3) + 5 * (nI t - nI (g * n)) = nI (base + 3 + 5 * (t - g * n)) := by
        rw [pk_sub hge, show (5 : Int32) * nI (t - g * n) = nI (5 * (t - g * n)) from pk_mul 5 _, show nI base + 3 = nI (base + 3) from nI_add base 3, nI_add]
      rw [e31]
      have hlt : base + 3 + 5 * (t - g * n) < 900 := by omega
      refine al_pick hL (base + 3 + 5 * (t - g * n) + 1) (nI_add _ 1) (by omega) 4 rfl (by decide) (by decide) fun kd hkd => al_pick hL (base + 3 + 5 * (t - g * n)) rfl (by omega) n rfl hn0 (by omega) fun a ha => ?_
      exact br_c (fun _ => al_504 hL hI ha hg hlt hkd fun sx2 M2 h2 => hw (sx2, M2) h2) (fun _ => al_504 hL hI ha hg hlt hkd fun sx2 M2 h2 => hw (sx2, M2) h2)
end
