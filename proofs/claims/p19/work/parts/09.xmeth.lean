theorem aj_dec (x : Int32) : x < 0 ∨ ∃ j : Nat, j < 2 ^ 31 ∧ x = nI j := by
  by_cases h : x < 0
  · exact Or.inl h
  · exact Or.inr (nI_of h)
theorem aj_nm1 {k : Nat} (h : k < 2 ^ 31) : ¬ nI k = -1 := fun e => by
  have := nI_pos h
  rw [e] at this
  exact this (by decide)
theorem aj_n0 {k : Nat} (h0 : k ≠ 0) (h : k < 2 ^ 31) : ¬ nI k = 0 := nI_ne0 (by omega) h
theorem aj_bo {D j : Nat} {A B : Prop} (hD : D < 2 ^ 31) (hj : j < D) (h : A) : (nI j < 0 → B) ∧ (¬ nI j < 0 → ((nI j < nI D → A) ∧ (¬ nI j < nI D → B))) := br_f (nI_pos (by omega)) (br_t (nI_lt hj hD) h)
theorem aj_shV : ∀ V, V < 7 → (1 : Int32) <<< (nI V &&& 31) = nI (2 ^ V) := by decide +kernel
theorem aj_fstE (an : Nat → Int32) : ∀ d F, F + d = 4096 → ∃ q, aj_fst an F q := by
  intro d
  induction d with
  | zero => exact fun F h => ⟨F, Nat.le_refl _, by omega, fun c h1 h2 => absurd h2 (by omega), fun z => absurd z (by omega)⟩
  | succ d ih =>
    intro F h
    by_cases z : an F = 0
    · obtain ⟨q, q1, q2, q3, q4⟩ := ih (F + 1) (by omega)
      refine ⟨q, by omega, q2, fun c h1 h2 => ?_, q4⟩
      by_cases e : c = F
      · rw [e, z]
      · exact q3 c (by omega) h2
    · exact ⟨F, Nat.le_refl _, by omega, fun c h1 h2 => absurd h2 (by omega), fun _ => z⟩
theorem aj_sk : ∀ p, p < 4096 → ∀ w, w < 6 → (p / 2 ^ (10 - 2 * w) + 1) * 2 ^ (10 - 2 * w) ≤ 4096 := by
  intro p hp w hw
  have e : w = 0 ∨ w = 1 ∨ w = 2 ∨ w = 3 ∨ w = 4 ∨ w = 5 := by omega
  rcases e with e | e | e | e | e | e <;> subst e <;> simp only [Nat.reduceSub, Nat.reduceMul, Nat.reducePow] <;> omega
theorem aj_skF {p w : Nat} (hp : p < 4096) (hw : w < 6) : ((nI p >>> ((10 : Int32) - nI w * 2 &&& 31)) + 1) <<< ((10 : Int32) - nI w * 2 &&& 31) = nI ((p / 2 ^ (10 - 2 * w) + 1) * 2 ^ (10 - 2 * w)) := by
  have := aj_sk p hp w hw
  rw [pk_shrN (by omega) _ _ (aj_shc w hw), nI_1, pk_shlN _ _ (aj_shc w hw) (by omega)]
/-- a row of k digits below D -/
def ap_ok (D k r : Nat) : Prop := r < 4 ^ k ∧ r % 4 < D ∧ r / 4 % 4 < D ∧ r / 16 % 4 < D
/-- the cursors stand at the start, on an assignment, or behind the last -/
def ap_ps (ps : Nat → Int32) : Prop := ∀ i, i < 2 → ps i = -1 ∨ ∃ p, p ≤ 4096 ∧ ps i = nI p
theorem ap_ps_upd {ps : Nat → Int32} {i q : Nat} (h : ap_ps ps) (hq : q ≤ 4096) : ap_ps (upd ps i (nI q)) := by
  intro j hj
  by_cases e : j = i
  · subst e
    rw [pk_us]
    exact Or.inr ⟨q, hq, rfl⟩
  · rw [pk_un e]
    exact h j hj
theorem ap_ps_rew {ps : Nat → Int32} {i : Nat} (h : ap_ps ps) : ap_ps (upd ps i (-1)) := by
  intro j hj
  by_cases e : j = i
  · subst e
    rw [pk_us]
    exact Or.inl rfl
  · rw [pk_un e]
    exact h j hj
theorem ap_ps0 {ps : Nat → Int32} : ap_ps (upd (upd ps 0 (-1)) 1 (-1)) := by
  intro i hi
  have e : i = 0 ∨ i = 1 := by omega
  rcases e with e | e <;> subst e <;> exact Or.inl rfl
section
variable {V D AL n : Nat} {fV fD fA fR fp rs : Int32} {sc sx an lv ps : Nat → Int32} {m : Nat → Nat}
theorem aq_okA {post : Int32 → Prop} {a : Nat} (hn : n ≤ 6) (hb : a < n) (h : post 0) : wpX_isBadAtom post (fV, fD, fA, fR, nI n, fp, rs, sc, sx, an, lv, ps) (nI a) := aj_bo (by omega) hb h
theorem aq_okV {post : Int32 → Prop} {a : Nat} (hn : D ≤ 4) (hb : a < D) (h : post 0) : wpX_isBadValue post (fV, nI D, fA, fR, nI n, fp, rs, sc, sx, an, lv, ps) (nI a) := aj_bo (by omega) hb h
theorem aq_okC {post : Int32 → Prop} {i : Nat} (h : i < 2) (hp : post 0) : wpX_isBadCursor post () (nI i) := br_f (nI_pos (by omega)) (br_t (nI_lt (b := 2) h (by decide)) hp)
theorem aq_okW {post : Int32 → Prop} {w : Nat} (hV : V ≤ 6) (hb : w < V) (h : post 0) : wpX_isBadVariable post (nI V, fD, fA, fR, nI n, fp, rs, sc, sx, an, lv, ps) (nI w) := aj_bo (by omega) hb h
theorem aq_addAtom {post : Int32 → St2 → Prop} {s : Nat} (hV : V ≤ 6) (hA : AL ≤ 6) (hn : n < AL) (h0 : 0 < s) (h1 : s < 2 ^ V) (h2 : aj_sz s 6 < 4) (h : post (nI n) (nI V, fD, nI AL, fR, nI (n + 1), nI 0, rs, upd sc n (nI s), sx, an, lv, ps)) : wpX_addAtom post (nI V, fD, nI AL, fR, nI n, nI 0, rs, sc, sx, an, lv, ps) (nI s) := by
  have hV' := aj_p2 hV
  have h2' : ¬ (1 : Int32) <<< (nI V &&& 31) ≤ nI s := by
    rw [aj_shV V (by omega)]
    exact nI_ge (by omega) (by omega)
  exact br_t rfl (br_f (nI_nlt (b := 1) (by omega) (by omega)) (br_f h2' (ax_sizeOf rfl (by omega) (br_t (nI_le (b := 3) (by omega) (by decide)) (br_t rfl (br_t (nI_lt hn (by omega)) ⟨pk_in n 6 (by omega), nm_r (by rw [nI_clamp (show n < 2 ^ 31 by omega)]) (nm_r (nI_1 n) h)⟩))))))
theorem aq_scope {post : Int32 → Prop} {a : Nat} (hn : n ≤ 6) (ha : a < n) (h : post (sc a)) : wpX_scope post (fV, fD, fA, fR, nI n, fp, rs, sc, sx, an, lv, ps) (nI a) := by
  unfold wpX_scope
  dsimp only
  exact aq_okA hn ha (br_t rfl ⟨pk_in a 6 (by omega), by rw [aj_at sc (show a < 2 ^ 31 by omega)]; exact h⟩)
theorem aq_slot {post : Int32 → Prop} {a r : Nat} (hV : V ≤ 6) (hn : n ≤ 6) (hD : D ≤ 4) (hs : aj_scp m V n sc) (ha : a < n) (hok : ap_ok D (aj_sz (m a) 6) r) (h : post (nI (a * 64 + r))) : wpX_slotOfRow post (fV, nI D, fA, fR, nI n, fp, rs, sc, sx, an, lv, ps) (nI a) (nI (r % 4)) (nI (r / 4 % 4)) (nI (r / 16 % 4)) := by
  obtain ⟨e, p0, p1, p2⟩ := hs a ha
  obtain ⟨hr, d0, d1, d2⟩ := hok
  have h64 : m a < 64 := Nat.lt_of_lt_of_le p1 (aj_p2 hV)
  have hz := aj_sz_1 (m a) h64 p0
  have hat : sc (nI a).toNatClampNeg = nI (m a) := (aj_at sc (by omega)).trans e
  refine ⟨pk_in a 6 (by omega), ax_sizeOf hat h64 (aq_okV hD d0 (br_t rfl ?_))⟩
  have es : aj_sz (m a) 6 = 1 ∨ aj_sz (m a) 6 = 2 ∨ aj_sz (m a) 6 = 3 := by omega
  rcases es with s1 | s1 | s1
  · rw [s1] at hr ⊢
    have hr' : r < 4 := hr
    refine br_t (by decide) (br_t (by decide) ?_)
    rw [aj_ix, Nat.mod_eq_of_lt hr']
    exact h
  · rw [s1] at hr ⊢
    have hr' : r < 16 := hr
    refine br_f (by decide) (aq_okV hD d1 (br_t rfl (nm_r (aj_or2 _ (by omega) _ (by omega)) (br_t (by decide) ?_))))
    rw [aj_ix, show r % 4 + r / 4 % 4 * 4 = r by omega]
    exact h
  · rw [s1] at hr ⊢
    have hr' : r < 64 := hr
    refine br_f (by decide) (aq_okV hD d1 (br_t rfl (nm_r (aj_or2 _ (by omega) _ (by omega)) (br_f (by decide) (aq_okV hD d2 (br_t rfl (nm_r (aj_or3 _ (by omega) _ (by omega)) ?_)))))))
    rw [aj_ix, show r % 4 + r / 4 % 4 * 4 + r / 16 % 4 * 16 = r by omega]
    exact h
theorem ap_ok64 {k r : Nat} (hk : k < 4) (h : ap_ok D k r) : r < 64 := Nat.lt_of_lt_of_le h.1 (aj_p4 hk)
theorem aq_addRow {post : Int32 → St2 → Prop} {a r : Nat} (hV : V ≤ 6) (hn : n ≤ 6) (hD : D ≤ 4) (hs : aj_scp m V n sc) (ha : a < n) (hok : ap_ok D (aj_sz (m a) 6) r) (h0 : post 0 (fV, nI D, fA, fR, nI n, nI 0, rs, sc, upd sx (a * 64 + r) 1, an, lv, ps)) (h1 : ∀ rc : Int32, ¬ rc = 0 → post rc (fV, nI D, fA, fR, nI n, nI 0, rs, sc, sx, an, lv, ps)) : wpX_addRow post (fV, nI D, fA, fR, nI n, nI 0, rs, sc, sx, an, lv, ps) (nI a) (nI (r % 4)) (nI (r / 4 % 4)) (nI (r / 16 % 4)) := by
  have hr := ap_ok64 (hs a ha).2.2.2 hok
  refine br_t rfl (aq_okA hn ha (br_t rfl (aq_slot hV hn hD hs ha hok (br_f (aj_nm1 (by omega)) ⟨pk_in (a * 64 + r) 384 (by omega), br_c (fun _ => ax_rows (by omega) (br_c (fun _ => ⟨pk_in (a * 64 + r) 384 (by omega), nm_r (by rw [nI_clamp (show a * 64 + r < 2 ^ 31 by omega)]) h0⟩) (fun _ => h1 _ (by decide)))) (fun _ => h1 _ (by decide))⟩))))
theorem aq_dropRow {post : Int32 → St2 → Prop} {a r : Nat} (hV : V ≤ 6) (hn : n ≤ 6) (hD : D ≤ 4) (hs : aj_scp m V n sc) (ha : a < n) (hok : ap_ok D (aj_sz (m a) 6) r) (h0 : post 0 (fV, nI D, fA, fR, nI n, nI 0, rs, sc, upd sx (a * 64 + r) 0, an, lv, ps)) (h1 : ∀ rc : Int32, ¬ rc = 0 → post rc (fV, nI D, fA, fR, nI n, nI 0, rs, sc, sx, an, lv, ps)) : wpX_dropRow post (fV, nI D, fA, fR, nI n, nI 0, rs, sc, sx, an, lv, ps) (nI a) (nI (r % 4)) (nI (r / 4 % 4)) (nI (r / 16 % 4)) := by
  have hr := ap_ok64 (hs a ha).2.2.2 hok
  refine br_t rfl (aq_okA hn ha (br_t rfl (aq_slot hV hn hD hs ha hok (br_f (aj_nm1 (by omega)) ⟨pk_in (a * 64 + r) 384 (by omega), br_c (fun _ => h1 _ (by decide)) (fun _ => ⟨pk_in (a * 64 + r) 384 (by omega), nm_r (by rw [nI_clamp (show a * 64 + r < 2 ^ 31 by omega)]) h0⟩)⟩))))
theorem aq_compile {post : Int32 → St2 → Prop} (hn : n ≤ 6) (hz : n ≠ 0) (hm : aj_msk m n sc) (h2 : ∀ K, aj_res m n K → K ≠ 0 → post 2 (fV, fD, fA, fR, nI n, nI 2, nI K, sc, sx, an, lv, upd (upd ps 0 (-1)) 1 (-1))) (h1 : aj_res m n 0 → ∀ a1 l1, aj_rdA m n sx a1 4096 → aj_rdL m n sx l1 4096 → post 1 (fV, fD, fA, fR, nI n, nI 1, nI 0, sc, sx, a1, l1, upd (upd ps 0 (-1)) 1 (-1))) : wpX_compile post (fV, fD, fA, fR, nI n, nI 0, rs, sc, sx, an, lv, ps) := by
  refine br_t rfl (br_f (aj_n0 hz (by omega)) (ax_put (ax_cov hn hm (ax_residue hn hm fun K hres => ?_))))
  have h64 := hres.1.1
  refine pk_eq K 0 (fun e => ?_) (fun e => h2 K hres e)
  subst e
  exact ax_find hn hm fun a1 l1 hA hL => h1 hres a1 l1 hA hL
theorem aq_reopen {post : Int32 → St2 → Prop} {ph : Nat} (hp : ph ≠ 0) (h2 : ph ≤ 2) (h : post 0 (fV, fD, fA, fR, nI n, nI 0, rs, sc, sx, an, lv, ps)) : wpX_reopen post (fV, fD, fA, fR, nI n, nI ph, rs, sc, sx, an, lv, ps) := br_f (aj_n0 hp (by omega)) h
theorem aq_next {post : Int32 → St2 → Prop} {i F q : Nat} (hi : i < 2) (hp : ps i + 1 = nI F) (hF : F ≤ 4096) (hq : aj_fst an F q) (h : post (aj_out1 q) (fV, fD, fA, fR, nI n, nI 1, rs, sc, sx, an, lv, upd ps i (nI q))) : wpX_next post (fV, fD, fA, fR, nI n, nI 1, rs, sc, sx, an, lv, ps) (nI i) := by
  have hne : ¬ ps i = 4096 := fun e => by
    rw [e] at hp
    have : nI 4097 = nI F := hp
    rw [nI_eq (by decide) (by omega)] at this
    omega
  refine br_t rfl (aq_okC hi (br_t rfl ⟨pk_in i 2 hi, ?_⟩))
  rw [aj_at ps (show i < 2 ^ 31 by omega)]
  exact nm_e (br_f hne (ax_move hp hi hq h))
theorem aq_nextE {post : Int32 → St2 → Prop} {i : Nat} (hi : i < 2) (hp : ps i = 4096) (h : post (-8) (fV, fD, fA, fR, nI n, nI 1, rs, sc, sx, an, lv, ps)) : wpX_next post (fV, fD, fA, fR, nI n, nI 1, rs, sc, sx, an, lv, ps) (nI i) := by
  refine br_t rfl (aq_okC hi (br_t rfl ⟨pk_in i 2 hi, ?_⟩))
  rw [aj_at ps (show i < 2 ^ 31 by omega)]
  exact nm_e (br_t hp h)
theorem aq_nextN {post : Int32 → St2 → Prop} {i : Nat} (hi : i < 2) (hp : ap_ps ps) (h : ∀ r ps', ap_ps ps' → (∀ j, j ≠ i → ps' j = ps j) → post r (fV, fD, fA, fR, nI n, nI 1, rs, sc, sx, an, lv, ps')) : wpX_next post (fV, fD, fA, fR, nI n, nI 1, rs, sc, sx, an, lv, ps) (nI i) := by
  rcases hp i hi with e | ⟨p, p1, e⟩
  · obtain ⟨q, hq⟩ := aj_fstE an 4096 0 rfl
    exact aq_next (F := 0) hi (by rw [e]; rfl) (by omega) hq (h _ _ (ap_ps_upd hp hq.2.1) fun j hj => pk_un hj)
  · by_cases z : p = 4096
    · subst z
      exact aq_nextE hi e (h _ _ hp fun _ _ => rfl)
    · obtain ⟨q, hq⟩ := aj_fstE an (4096 - (p + 1)) (p + 1) (by omega)
      exact aq_next (F := p + 1) hi (by rw [e, nI_1]) (by omega) hq (h _ _ (ap_ps_upd hp hq.2.1) fun j hj => pk_un hj)
theorem aq_skipN {post : Int32 → St2 → Prop} {i w : Nat} (hV : V ≤ 6) (hw : w < V) (hi : i < 2) (hp : ap_ps ps) (h : ∀ r ps', ap_ps ps' → (∀ j, j ≠ i → ps' j = ps j) → post r (nI V, fD, fA, fR, nI n, nI 1, rs, sc, sx, an, lv, ps')) : wpX_skip post (nI V, fD, fA, fR, nI n, nI 1, rs, sc, sx, an, lv, ps) (nI i) (nI w) := by
  refine br_t rfl (aq_okC hi (br_t rfl (aq_okW hV hw (br_t rfl ⟨pk_in i 2 hi, ?_⟩))))
  rw [aj_at ps (show i < 2 ^ 31 by omega)]
  rcases hp i hi with e | ⟨p, p1, e⟩
  · obtain ⟨q, hq⟩ := aj_fstE an 4096 0 rfl
    rw [e]
    exact nm_e (br_f (by decide) (br_t rfl (ax_move (F := 0) rfl hi hq (h _ _ (ap_ps_upd hp hq.2.1) fun j hj => pk_un hj))))
  · rw [e]
    by_cases z : p = 4096
    · subst z
      exact nm_e (br_t rfl (h _ _ hp fun _ _ => rfl))
    · have hne : ¬ nI p = 4096 := fun y => z ((nI_eq (b := 4096) (by omega) (by decide)).mp y)
      obtain ⟨q, hq⟩ := aj_fstE an (4096 - (p / 2 ^ (10 - 2 * w) + 1) * 2 ^ (10 - 2 * w)) _ (by
        have := aj_sk p (by omega) w (by omega)
        exact Nat.add_sub_of_le this)
      exact nm_e (br_f hne (br_f (aj_nm1 (by omega)) (nm_e (nm_e (ax_move (aj_skF (by omega) (by omega)) hi hq (h _ _ (ap_ps_upd hp hq.2.1) fun j hj => pk_un hj))))))
theorem aq_rewind {post : Int32 → St2 → Prop} {i : Nat} (hi : i < 2) (h : post 0 (fV, fD, fA, fR, nI n, nI 1, rs, sc, sx, an, lv, upd ps i (-1))) : wpX_rewind post (fV, fD, fA, fR, nI n, nI 1, rs, sc, sx, an, lv, ps) (nI i) :=
  br_t rfl (aq_okC hi (br_t rfl ⟨pk_in i 2 hi, nm_r (by rw [nI_clamp (show i < 2 ^ 31 by omega)]) h⟩))
theorem aq_value {post : Int32 → Prop} {i w p : Nat} (hV : V ≤ 6) (hw : w < V) (hi : i < 2) (hp : ps i = nI p) (h4 : p < 4096) (h : post (nI (aj_val p w))) : wpX_value post (nI V, fD, fA, fR, nI n, nI 1, rs, sc, sx, an, lv, ps) (nI i) (nI w) := by
  refine br_t rfl (aq_okC hi (br_t rfl (aq_okW hV hw (br_t rfl ⟨pk_in i 2 hi, ?_⟩))))
  rw [aj_at ps (show i < 2 ^ 31 by omega), hp]
  exact nm_e (br_f (aj_nm1 (by omega)) (br_f (fun y => by have := (nI_eq (b := 4096) (by omega) (by decide)).mp y; omega) (ax_valueIn h4 (by omega) h)))
theorem aq_live {post : Int32 → Prop} {a : Nat} (hn : n ≤ 6) (ha : a < n) (h : post (nI (aj_cn (fun i => lv (a * 64 + i)) 64))) : wpX_live post (fV, fD, fA, fR, nI n, nI 1, rs, sc, sx, an, lv, ps) (nI a) :=
  br_t rfl (aq_okA hn ha (br_t rfl (ax_rows (by omega) h)))
theorem aq_count {post : Int32 → Prop} (h : post (nI (aj_cn an 4096))) : wpX_count post (fV, fD, fA, fR, nI n, nI 1, rs, sc, sx, an, lv, ps) := br_t rfl (ax_count h)
theorem aq_rowState {post : Int32 → Prop} {a r : Nat} (hV : V ≤ 6) (hn : n ≤ 6) (hD : D ≤ 4) (hs : aj_scp m V n sc) (ha : a < n) (hok : ap_ok D (aj_sz (m a) 6) r) (hx : ¬ sx (a * 64 + r) = 0) (h0 : lv (a * 64 + r) = 0 → post 3) (h1 : ¬ lv (a * 64 + r) = 0 → post 2) : wpX_rowState post (fV, nI D, fA, fR, nI n, nI 1, rs, sc, sx, an, lv, ps) (nI a) (nI (r % 4)) (nI (r / 4 % 4)) (nI (r / 16 % 4)) := by
  have hr := ap_ok64 (hs a ha).2.2.2 hok
  unfold wpX_rowState
  dsimp only
  refine aq_okA hn ha (br_t rfl (aq_slot hV hn hD hs ha hok (br_f (aj_nm1 (by omega)) ⟨pk_in (a * 64 + r) 384 (by omega), ?_⟩)))
  rw [aj_at sx (show a * 64 + r < 2 ^ 31 by omega), aj_at lv (show a * 64 + r < 2 ^ 31 by omega)]
  exact br_f hx (br_t rfl ⟨pk_in (a * 64 + r) 384 (by omega), br_c h0 h1⟩)
end
