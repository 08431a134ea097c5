theorem ap_sh4 : ∀ V, V < 7 → (1 : Int32) <<< (2 * nI V &&& 31) = nI (4 ^ V) := by decide +kernel
theorem ap_up_4 {V : Nat} (h3 : 3 ≤ V) (h6 : V ≤ 6) : ap_up6 V (4 ^ V) = 4096 := by
  rcases ap_V h3 h6 with e | e | e | e <;> subst e <;> rfl
theorem ap_u6s {V p : Nat} : ap_up6 V (p + 1) = ap_up6 V p + 4 ^ (6 - V) := by
  unfold ap_up6
  rw [Nat.succ_mul]
theorem ap_up_lt {V p : Nat} (h3 : 3 ≤ V) (h6 : V ≤ 6) (h : p < 4 ^ V) : ap_up6 V (p + 1) ≤ 4096 := by
  have := ap_up_4 h3 h6
  unfold ap_up6 at this ⊢
  rw [← this]
  exact Nat.mul_le_mul_right _ h
theorem ap_4V {V p : Nat} (h3 : 3 ≤ V) (h6 : V ≤ 6) (h : p < 4 ^ V) : p < 4096 := by
  have : 4 ^ V ≤ 4 ^ 6 := Nat.pow_le_pow_right (by decide) h6
  have e : 4 ^ 6 = 4096 := rfl
  omega
theorem ap_gap {V p y : Nat} (h3 : 3 ≤ V) (h6 : V ≤ 6) (h1 : ap_up6 V p < y) (h2 : y < ap_up6 V (p + 1)) : ¬ y % 2 ^ (12 - 2 * V) = 0 := by
  unfold ap_up6 at h1 h2
  rcases ap_V h3 h6 with e | e | e | e <;> subst e <;> simp only [Nat.reduceSub, Nat.reduceMul, Nat.reducePow] at h1 h2 ⊢ <;> omega
theorem ap_p1 {V : Nat} : 1 ≤ 4 ^ (6 - V) := Nat.pow_pos (by decide)
theorem aj_cn_gap {f : Nat → Int32} {a : Nat} : ∀ d, (∀ y, a ≤ y → y < a + d → f y = 0) → aj_cn f (a + d) = aj_cn f a
  | 0, _ => rfl
  | d + 1, h => by
    rw [← Nat.add_assoc, aj_cn_z (h (a + d) (by omega) (by omega))]
    exact aj_cn_gap d fun y h1 h2 => h y h1 (by omega)
section
variable {post : Int32 → Prop} {L : Nat} {xs : Nat → Int32} {J99 : Int32 → Int32 → Int64 → Int64 → Int64 → Int64 → Int64 → Int64 → Int64 → Int32 → Int32 → Int32 → Int32 → Int32 → Int32 → Int32 → Int32 → (Nat → Int32) → (Nat → Int32) → (Nat → Int32) → (Nat → Int32) → (Nat → Int32) → Prop}
variable {V D AL n g rd : Nat} {m : Nat → Nat} {x6 fR rs : Int32} {sc sx an lv ps : Nat → Int32} {M E : Nat → Int64} {kc ks : Nat}
/-- what holds when the law looks at p -/
def ap_at (V n : Nat) (m : Nat → Nat) (sx an : Nat → Int32) (c p seen : Nat) (E : Nat → Int64) (ps : Nat → Int32) : Prop :=
  seen = aj_cn an (ap_up6 V p) ∧ (∀ a, a < n → ∀ r, r < 64 → (al_b (E a) r = true ↔ ∃ x, x < ap_up6 V p ∧ aj_ans m n sx x ∧ aj_kx (m a) x 6 = r)) ∧ (∃ F, F ≤ ap_up6 V p ∧ ps c + 1 = nI F ∧ ∀ x, F ≤ x → x < ap_up6 V p → an x = 0) ∧ ap_ps ps
theorem ap_an_gap {AL p y : Nat} (hp : ap_pic V D AL n m sc sx M) (hA : aj_rdA m n sx an 4096) (h4 : p < 4 ^ V) (h1 : ap_up6 V p < y) (h2 : y < ap_up6 V (p + 1)) : an y = 0 := by
  have hl := ap_up_lt hp.1.1 hp.1.2.1 h4
  exact (hA y (by omega)).mpr fun H => ap_gap hp.1.1 hp.1.2.1 h1 h2 (aj_unc_mod hp.1.1 hp.1.2.1 (fun a ha => (hp.2.1 a ha).2.2.1) H.1)
theorem ap_at_no {c p seen : Nat} (hp : ap_pic V D AL n m sc sx M) (hA : aj_rdA m n sx an 4096) (h4 : p < 4 ^ V) (h : ap_at V n m sx an c p seen E ps) (hno : ¬ aj_ans m n sx (ap_up6 V p)) : ap_at V n m sx an c (p + 1) seen E ps := by
  obtain ⟨h1, h2, ⟨F, f1, f2, f3⟩, h5⟩ := h
  have hl := ap_up_lt hp.1.1 hp.1.2.1 h4
  have hs := ap_u6s (V := V) (p := p)
  have hp1 := ap_p1 (V := V)
  have hz : ∀ y, ap_up6 V p ≤ y → y < ap_up6 V (p + 1) → an y = 0 := fun y y1 y2 => by
    by_cases e : y = ap_up6 V p
    · subst e
      exact (hA _ (by omega)).mpr hno
    · exact ap_an_gap hp hA h4 (by omega) y2
  refine ⟨?_, fun a ha r hr => ?_, ⟨F, by omega, f2, fun x x1 x2 => ?_⟩, h5⟩
  · rw [h1, hs]
    exact (aj_cn_gap _ fun y y1 y2 => hz y y1 (by omega)).symm
  · rw [h2 a ha r hr]
    constructor
    · exact fun ⟨x, x1, x2⟩ => ⟨x, by omega, x2⟩
    · intro ⟨x, x1, x2, x3⟩
      by_cases e : x < ap_up6 V p
      · exact ⟨x, e, x2, x3⟩
      · exact absurd x2 ((hA x (by omega)).mp (hz x (by omega) x1))
  · by_cases e : x < ap_up6 V p
    · exact f3 x x1 e
    · exact hz x (by omega) x2
/-- the marks of an answer, as the law makes them -/
def ap_nE (m : Nat → Nat) (V n p : Nat) (E : Nat → Int64) : Nat → Int64 := fun a => E a ||| ((1 : Int64) <<< ((nI (aj_kx (ap_sc m n a) (ap_up6 V p) V)).toInt64 &&& 63))
theorem ap_at_yes {c p seen : Nat} {ps' : Nat → Int32} (hp : ap_pic V D AL n m sc sx M) (hA : aj_rdA m n sx an 4096) (h4 : p < 4 ^ V) (h : ap_at V n m sx an c p seen E ps) (hy : aj_ans m n sx (ap_up6 V p)) (hps : ap_ps ps') : ap_at V n m sx an c (p + 1) (seen + 1) (ap_nE m V n p E) (upd ps' c (nI (ap_up6 V p))) := by
  obtain ⟨h1, h2, ⟨F, f1, f2, f3⟩, h5⟩ := h
  have hl := ap_up_lt hp.1.1 hp.1.2.1 h4
  have hs := ap_u6s (V := V) (p := p)
  have hp1 := ap_p1 (V := V)
  have hz : ∀ y, ap_up6 V p + 1 ≤ y → y < ap_up6 V (p + 1) → an y = 0 := fun y y1 y2 => ap_an_gap hp hA h4 (by omega) y2
  refine ⟨?_, fun a ha r hr => ?_, ⟨ap_up6 V p + 1, by omega, by rw [pk_us, nI_1], hz⟩, ap_ps_upd hps (by omega)⟩
  · have e : ap_up6 V (p + 1) = ap_up6 V p + 1 + (4 ^ (6 - V) - 1) := by omega
    rw [e, aj_cn_gap _ fun y y1 y2 => hz y y1 (by omega), aj_cn_p fun z => (hA _ (by omega)).mp z hy, h1]
  · have h64 := aj_kx_64 (c := ap_up6 V p) (hp.2.1 a ha).2.2.2
    have e6 := ap_kx_6 (c := ap_up6 V p) (hp.2.1 a ha).2.2.1 hp.1.2.1
    unfold ap_nE
    rw [ap_sc_lt ha, ← e6, al_or h64 hr, Bool.or_eq_true, h2 a ha r hr]
    constructor
    · rintro (⟨x, x1, x2⟩ | z)
      · exact ⟨x, by omega, x2⟩
      · exact ⟨ap_up6 V p, by omega, hy, of_decide_eq_true z⟩
    · intro ⟨x, x1, x2, x3⟩
      by_cases e : x < ap_up6 V p
      · exact Or.inl ⟨x, e, x2, x3⟩
      · by_cases e2 : x = ap_up6 V p
        · subst e2
          exact Or.inr (decide_eq_true x3)
        · exact absurd x2 ((hA x (by omega)).mp (hz x (by omega) x1))
theorem ap_sc64 (hp : ap_pic V D AL n m sc sx M) (a : Nat) : ap_sc m n a < 64 ∧ aj_sz (ap_sc m n a) 6 < 4 := by
  by_cases h : a < n
  · rw [ap_sc_lt h]
    exact ⟨ap_m64 hp a h, (hp.2.1 a h).2.2.2⟩
  · rw [ap_sc, if_neg h]
    decide
theorem al_1206 {J990 : Int32 → Int64 → Int64 → Int64 → Int64 → Int64 → Int64 → Int32 → Int32 → Int32 → Int32 → Int32 → Int32 → Int32 → Int32 → (Nat → Int32) → (Nat → Int32) → (Nat → Int32) → (Nat → Int32) → (Nat → Int32) → Prop} {c p seen : Nat} {x24 x25 : Int32} (hc : c < 2) (hp : ap_pic V D AL n m sc sx M) (h4 : p < 4 ^ V) (hq : ps c = nI (ap_up6 V p))
    (k : J990 (nI (seen + 1)) (ap_nE m V n p E 0) (ap_nE m V n p E 1) (ap_nE m V n p E 2) (ap_nE m V n p E 3) (ap_nE m V n p E 4) (ap_nE m V n p E 5) (nI (p + 1)) (nI V) (nI D) (nI AL) fR (nI n) (nI 1) rs sc sx an lv ps) : ∃ fu, wL_law_1206 post L xs J99 J990 (nI V) (nI D) (nI AL) x6 (nI g) (nI n) (nI (aj_cov m n)) (lN (ap_pk m n)) (M 0) (M 1) (M 2) (M 3) (M 4) (M 5) x24 x25 (nI c) (nI seen) (nI (ap_sc m n 0)) (nI (ap_sc m n 1)) (nI (ap_sc m n 2)) (nI (ap_sc m n 3)) (nI (ap_sc m n 4)) (nI (ap_sc m n 5)) (E 0) (E 1) (E 2) (E 3) (E 4) (E 5) (nI p) kc ks (nI V) (nI D) (nI AL) fR (nI n) (nI 1) rs sc sx an lv ps fu 0 := by
  have b1 := hp.1.1
  have b2 := hp.1.2.1
  have h4' := ap_4V b1 b2 h4
  have hl := ap_up_lt b1 b2 h4
  have hs := ap_u6s (V := V) (p := p)
  have hp1 := ap_p1 (V := V)
  refine loop_0 (fun n' w (_ : Unit) => wL_law_1206 post L xs J99 J990 (nI V) (nI D) (nI AL) x6 (nI g) (nI n) (nI (aj_cov m n)) (lN (ap_pk m n)) (M 0) (M 1) (M 2) (M 3) (M 4) (M 5) x24 x25 (nI c) (nI seen) (nI (ap_sc m n 0)) (nI (ap_sc m n 1)) (nI (ap_sc m n 2)) (nI (ap_sc m n 3)) (nI (ap_sc m n 4)) (nI (ap_sc m n 5)) (E 0) (E 1) (E 2) (E 3) (E 4) (E 5) (nI p) kc ks (nI V) (nI D) (nI AL) fR (nI n) (nI 1) rs sc sx an lv ps n' (nI w)) (fun _ _ => True) V () trivial ?_ ?_
  · intro n' _ _
    refine pk_le V V (fun _ => ?_) (fun z => absurd z (by omega))
    have q := ap_sc64 hp
    exact al_proj b1 b2 h4' (q 0).1 (q 0).2 (nm_e (al_proj b1 b2 h4' (q 1).1 (q 1).2 (nm_e (al_proj b1 b2 h4' (q 2).1 (q 2).2 (nm_e (al_proj b1 b2 h4' (q 3).1 (q 3).2 (nm_e (al_proj b1 b2 h4' (q 4).1 (q 4).2 (nm_e (al_proj b1 b2 h4' (q 5).1 (q 5).2 (nm_e (nm_r (nI_1 seen) (nm_r (nI_1 p) k)))))))))))))
  · intro n' w _ hw _ hk
    exact pk_le V w (fun z => absurd z (by omega)) (fun _ => aq_value b2 hw hc hq (by omega) (al_dig b1 b2 h4' hw (br_t rfl (nm_r (nI_1 w) (hk () trivial)))))
theorem al_1190 {J990 : Int32 → Int64 → Int64 → Int64 → Int64 → Int64 → Int64 → Int32 → Int32 → Int32 → Int32 → Int32 → Int32 → Int32 → Int32 → (Nat → Int32) → (Nat → Int32) → (Nat → Int32) → (Nat → Int32) → (Nat → Int32) → Prop} {c p seen F : Nat} {x24 x25 : Int32} (hc : c < 2) (hp : ap_pic V D AL n m sc sx M) (hA : aj_rdA m n sx an 4096) (h4 : p < 4 ^ V) (hy : aj_ans m n sx (ap_up6 V p)) (f1 : F ≤ ap_up6 V p) (f2 : ps c + 1 = nI F) (f3 : ∀ x, F ≤ x → x < ap_up6 V p → an x = 0)
    (k : J990 (nI (seen + 1)) (ap_nE m V n p E 0) (ap_nE m V n p E 1) (ap_nE m V n p E 2) (ap_nE m V n p E 3) (ap_nE m V n p E 4) (ap_nE m V n p E 5) (nI (p + 1)) (nI V) (nI D) (nI AL) fR (nI n) (nI 1) rs sc sx an lv (upd ps c (nI (ap_up6 V p)))) : wL_law_1190 post L xs J99 J990 (nI V) (nI D) (nI AL) x6 (nI g) (nI n) (nI (aj_cov m n)) (lN (ap_pk m n)) (M 0) (M 1) (M 2) (M 3) (M 4) (M 5) x24 x25 (nI c) (nI seen) (nI (ap_sc m n 0)) (nI (ap_sc m n 1)) (nI (ap_sc m n 2)) (nI (ap_sc m n 3)) (nI (ap_sc m n 4)) (nI (ap_sc m n 5)) (E 0) (E 1) (E 2) (E 3) (E 4) (E 5) (nI p) kc ks (nI V) (nI D) (nI AL) fR (nI n) (nI 1) rs sc sx an lv ps := by
  have hl := ap_up_lt hp.1.1 hp.1.2.1 h4
  have hs := ap_u6s (V := V) (p := p)
  have hp1 := ap_p1 (V := V)
  unfold wL_law_1190
  refine aq_next hc f2 (by omega) (q := ap_up6 V p) ⟨f1, by omega, f3, fun z y => (hA _ z).mp y hy⟩ ?_
  rw [aj_out1_t (show ap_up6 V p < 4096 by omega)]
  exact br_t rfl (al_1206 hc hp h4 pk_us k)
theorem al_990 {c base : Nat} (hL : L ≤ 260) (hc : c < 2) (hb : base < 1000) (hn0 : 0 < n) (hp : ap_pic V D AL n m sc sx M) (hA : aj_rdA m n sx an 4096) (hV : aj_rdL m n sx lv 4096) (hps : ap_ps ps) (hq : ps c = -1) (k : ∀ ps', J99 (nI n) (nI (aj_cov m n)) (lN (ap_pk m n)) (M 0) (M 1) (M 2) (M 3) (M 4) (M 5) (nI (rd + 1)) (nI V) (nI D) (nI AL) fR (nI n) (nI 1) rs sc sx an lv ps') : ∃ fu, wL_law_990 post L xs J99 (nI V) (nI D) (nI AL) x6 (nI g) (nI n) (nI (aj_cov m n)) (lN (ap_pk m n)) (M 0) (M 1) (M 2) (M 3) (M 4) (M 5) (nI rd) (nI base) (nI c) (nI (ap_sc m n 0)) (nI (ap_sc m n 1)) (nI (ap_sc m n 2)) (nI (ap_sc m n 3)) (nI (ap_sc m n 4)) (nI (ap_sc m n 5)) kc ks fu 0 0 0 0 0 0 0 0 (nI V) (nI D) (nI AL) fR (nI n) (nI 1) rs sc sx an lv ps := by
  have b1 := hp.1.1
  have b2 := hp.1.2.1
  have hn : n ≤ 6 := by have := hp.1; omega
  refine loop_0 (fun n' p (s : Nat × (Nat → Int64) × (Nat → Int32)) => wL_law_990 post L xs J99 (nI V) (nI D) (nI AL) x6 (nI g) (nI n) (nI (aj_cov m n)) (lN (ap_pk m n)) (M 0) (M 1) (M 2) (M 3) (M 4) (M 5) (nI rd) (nI base) (nI c) (nI (ap_sc m n 0)) (nI (ap_sc m n 1)) (nI (ap_sc m n 2)) (nI (ap_sc m n 3)) (nI (ap_sc m n 4)) (nI (ap_sc m n 5)) kc ks n' (nI s.1) (s.2.1 0) (s.2.1 1) (s.2.1 2) (s.2.1 3) (s.2.1 4) (s.2.1 5) (nI p) (nI V) (nI D) (nI AL) fR (nI n) (nI 1) rs sc sx an lv s.2.2) (fun p s => ap_at V n m sx an c p s.1 s.2.1 s.2.2) (4 ^ V) (0, (fun _ => 0), ps) ⟨?_, fun a ha r hr => ?_, ⟨0, Nat.zero_le _, by show ps c + 1 = nI 0; rw [hq]; rfl, fun x _ h2 => ?_⟩, hps⟩ ?_ ?_
  · rw [ap_up6, Nat.zero_mul]
    rfl
  · (try dsimp only)
    rw [al_z, ap_up6, Nat.zero_mul]
    exact ⟨fun z => absurd z (by decide), fun ⟨x, h, _⟩ => absurd h (Nat.not_lt_zero x)⟩
  · rw [ap_up6, Nat.zero_mul] at h2
    exact absurd h2 (Nat.not_lt_zero x)
  · rintro n' ⟨seen, E, q⟩ ⟨h1, h2, h3, h5⟩
    (try dsimp only at h1 h2 h3 h5 ⊢)
    rw [ap_up_4 b1 b2] at h1 h2 h3
    have hcn := aj_cn_le an 4096
    refine br_t (by rw [ap_sh4 V (by omega)]; exact Int32.le_refl _) (aq_count (br_t (by rw [h1]) (al_1354 hc hp (fun a ha r hr => ?_) (fun a ha => ?_) (by omega) h3 k)))
    · rw [h2 a ha r hr, hV a ha r hr]
      exact ⟨fun z y => y z, fun z => Classical.byContradiction z⟩
    · rw [h1, aj_cn_0, aj_cn_0]
      constructor
      · intro z x hx
        refine (hA x hx).mpr fun H => ?_
        have h64 := aj_kx_64 (c := x) (hp.2.1 a ha).2.2.2
        exact (hV a ha _ h64).mp (z _ h64) ⟨x, hx, H, rfl⟩
      · intro z r hr
        exact (hV a ha r hr).mpr fun ⟨x, x1, x2, _⟩ => (hA x x1).mp (z x x1) x2
  · rintro n' p ⟨seen, E, q⟩ hp4 hI hw
    (try dsimp only at hI ⊢)
    have h4' := ap_4V b1 b2 hp4
    have hcov : aj_cov m n < 64 := aj_cov_lt (k := 6) n (ap_m64 hp)
    have hiff := ap_ansL (p := p) hp
    have no : ¬ aj_ans m n sx (ap_up6 V p) → wL_law_990 post L xs J99 (nI V) (nI D) (nI AL) x6 (nI g) (nI n) (nI (aj_cov m n)) (lN (ap_pk m n)) (M 0) (M 1) (M 2) (M 3) (M 4) (M 5) (nI rd) (nI base) (nI c) (nI (ap_sc m n 0)) (nI (ap_sc m n 1)) (nI (ap_sc m n 2)) (nI (ap_sc m n 3)) (nI (ap_sc m n 4)) (nI (ap_sc m n 5)) kc ks n' (nI seen) (E 0) (E 1) (E 2) (E 3) (E 4) (E 5) (nI (p + 1)) (nI V) (nI D) (nI AL) fR (nI n) (nI 1) rs sc sx an lv q := fun hno => hw (seen, E, q) (ap_at_no hp hA hp4 hI hno)
    have q64 := ap_sc64 hp
    have hs1 : seen ≤ 4096 := by
      have h1 := hI.1
      have h2 := aj_cn_le an (ap_up6 V p)
      have h3 := ap_up_lt b1 b2 hp4
      have h4 := ap_u6s (V := V) (p := p)
      have h5 := ap_p1 (V := V)
      omega
    have hno6 : ∀ a, a < 6 → ¬ (ap_sc m n a = 0 ∨ al_b (M a) (aj_kx (ap_sc m n a) (ap_up6 V p) V) = true) → ¬ aj_ans m n sx (ap_up6 V p) := fun a ha z H => z ((hiff.mp H).2 a ha)
    refine br_f (by rw [ap_sh4 V (by omega)]; exact nI_ge hp4 (by have := ap_up_4 b1 b2; have e : 4 ^ V ≤ 4 ^ 6 := Nat.pow_le_pow_right (by decide) b2; have e6 : 4 ^ 6 = 4096 := rfl; omega)) (al_legal b1 b2 hp.1.2.2.2.1 h4' hcov (fun hl => br_f (by decide) ?_) (fun hl => br_t rfl (nm_r (nI_1 p) (no fun H => hl (hiff.mp H).1))))
    refine al_has b1 b2 h4' (q64 0).1 (q64 0).2 (fun h0 => br_f (by decide) ?_) (fun z => br_t rfl (nm_r (nI_1 p) (no (hno6 0 (by decide) z))))
    refine al_has b1 b2 h4' (q64 1).1 (q64 1).2 (fun h1 => br_f (by decide) ?_) (fun z => br_t rfl (nm_r (nI_1 p) (no (hno6 1 (by decide) z))))
    refine al_has b1 b2 h4' (q64 2).1 (q64 2).2 (fun h2 => br_f (by decide) ?_) (fun z => br_t rfl (nm_r (nI_1 p) (no (hno6 2 (by decide) z))))
    refine al_has b1 b2 h4' (q64 3).1 (q64 3).2 (fun h3 => br_f (by decide) ?_) (fun z => br_t rfl (nm_r (nI_1 p) (no (hno6 3 (by decide) z))))
    refine al_has b1 b2 h4' (q64 4).1 (q64 4).2 (fun h4 => br_f (by decide) ?_) (fun z => br_t rfl (nm_r (nI_1 p) (no (hno6 4 (by decide) z))))
    refine al_has b1 b2 h4' (q64 5).1 (q64 5).2 (fun h5 => br_f (by decide) ?_) (fun z => br_t rfl (nm_r (nI_1 p) (no (hno6 5 (by decide) z))))
    have hy : aj_ans m n sx (ap_up6 V p) := hiff.mpr ⟨hl, fun a ha => by
      have e : a = 0 ∨ a = 1 ∨ a = 2 ∨ a = 3 ∨ a = 4 ∨ a = 5 := by omega
      rcases e with e | e | e | e | e | e <;> subst e <;> assumption⟩
    obtain ⟨F, f1, f2, f3⟩ := hI.2.2.1
    have go : ∀ q', ap_ps q' → q' c = q c → wL_law_1190 post L xs J99 (wL_law_990 post L xs J99 (nI V) (nI D) (nI AL) x6 (nI g) (nI n) (nI (aj_cov m n)) (lN (ap_pk m n)) (M 0) (M 1) (M 2) (M 3) (M 4) (M 5) (nI rd) (nI base) (nI c) (nI (ap_sc m n 0)) (nI (ap_sc m n 1)) (nI (ap_sc m n 2)) (nI (ap_sc m n 3)) (nI (ap_sc m n 4)) (nI (ap_sc m n 5)) kc ks n') (nI V) (nI D) (nI AL) x6 (nI g) (nI n) (nI (aj_cov m n)) (lN (ap_pk m n)) (M 0) (M 1) (M 2) (M 3) (M 4) (M 5) (nI rd) (nI base) (nI c) (nI seen) (nI (ap_sc m n 0)) (nI (ap_sc m n 1)) (nI (ap_sc m n 2)) (nI (ap_sc m n 3)) (nI (ap_sc m n 4)) (nI (ap_sc m n 5)) (E 0) (E 1) (E 2) (E 3) (E 4) (E 5) (nI p) kc ks (nI V) (nI D) (nI AL) fR (nI n) (nI 1) rs sc sx an lv q' := fun q' h1 h2 =>
      al_1190 hc hp hA hp4 hy f1 (by rw [h2]; exact f2) f3 (hw (seen + 1, ap_nE m V n p E, upd q' c (nI (ap_up6 V p))) (ap_at_yes hp hA hp4 hI hy h1))
    have h1c : (1 : Int32) - nI c = nI (1 - c) := pk_sub (a := 1) (by omega)
    have hoc : ∀ j, j ≠ 1 - c → j = c ∨ True := fun j _ => Or.inr trivial
    obtain ⟨j31, hj31, e31⟩ := pk_andE (nI seen) (m := 31) 5 (by decide)
    refine al_pick hL (base + 64 + j31) (by rw [e31, show (nI base + 64 : Int32) = nI (base + 64) from nI_add base 64, nI_add]) (by omega) 8 rfl (by decide) (by decide) fun j hj => ?_
    rw [h1c]
    refine pk_eq j 0 (fun _ => aq_rewind (by omega) (go _ (ap_ps_rew hI.2.2.2) (pk_un (by omega)))) (fun _ => pk_lt 2 j (fun _ => pk_lt 5 j (fun _ => pk_le 32 seen (fun _ => go q hI.2.2.2 rfl) (fun _ => ⟨aj_n0 (by omega) (by omega), ?_⟩)) (fun _ => aq_nextN (by omega) hI.2.2.2 fun r q' g1 g2 => go q' g1 (g2 c (by omega)))) (fun _ => ⟨aj_n0 (by omega) (by omega), ?_⟩))
    · rw [pk_rem (by omega) hn0 (by omega)]
      exact aq_live hn (Nat.mod_lt _ hn0) (go q hI.2.2.2 rfl)
    · rw [pk_rem (by omega) (by omega) (by omega)]
      exact aq_skipN b2 (Nat.mod_lt _ (by omega)) (by omega) hI.2.2.2 fun r q' g1 g2 => go q' g1 (g2 c (by omega))
theorem al_921 {c base : Nat} (hL : L ≤ 260) (hc : c < 2) (hb : base < 1000) (hn0 : 0 < n) (hp : ap_pic V D AL n m sc sx M) (hA : aj_rdA m n sx an 4096) (hV : aj_rdL m n sx lv 4096) (hps : ap_ps ps) (hq : ps c = -1) (k : ∀ ps', J99 (nI n) (nI (aj_cov m n)) (lN (ap_pk m n)) (M 0) (M 1) (M 2) (M 3) (M 4) (M 5) (nI (rd + 1)) (nI V) (nI D) (nI AL) fR (nI n) (nI 1) rs sc sx an lv ps') : wL_law_921 post L xs J99 (nI V) (nI D) (nI AL) x6 (nI g) (nI n) (nI (aj_cov m n)) (lN (ap_pk m n)) (M 0) (M 1) (M 2) (M 3) (M 4) (M 5) (nI rd) (nI base) (nI c) 0 kc ks (nI V) (nI D) (nI AL) fR (nI n) (nI 1) rs sc sx an lv ps := by
  have hn : n ≤ 6 := by have := hp.1; omega
  have hm := ap_m64 hp
  unfold wL_law_921
  exact al_scopeAt (a := 0) hn hm rfl (by decide) (al_scopeAt (a := 1) hn hm rfl (by decide) (al_scopeAt (a := 2) hn hm rfl (by decide) (al_scopeAt (a := 3) hn hm rfl (by decide) (al_scopeAt (a := 4) hn hm rfl (by decide) (al_scopeAt (a := 5) hn hm rfl (by decide) (al_990 hL hc hb hn0 hp hA hV hps hq k))))))
theorem al_869 {c base pre : Nat} (hL : L ≤ 260) (hc : c < 2) (hb : base < 1000) (hpre : pre < 4) (hn0 : 0 < n) (hp : ap_pic V D AL n m sc sx M) (hA : aj_rdA m n sx an 4096) (hV : aj_rdL m n sx lv 4096) (hps : ap_ps ps) (hq : ps c = -1) (k : ∀ ps', J99 (nI n) (nI (aj_cov m n)) (lN (ap_pk m n)) (M 0) (M 1) (M 2) (M 3) (M 4) (M 5) (nI (rd + 1)) (nI V) (nI D) (nI AL) fR (nI n) (nI 1) rs sc sx an lv ps') : ∃ fu, wL_law_869 post L xs J99 (nI V) (nI D) (nI AL) x6 (nI g) (nI n) (nI (aj_cov m n)) (lN (ap_pk m n)) (M 0) (M 1) (M 2) (M 3) (M 4) (M 5) (nI rd) (nI base) (nI c) (nI pre) 0 kc ks fu 0 (nI V) (nI D) (nI AL) fR (nI n) (nI 1) rs sc sx an lv ps := by
  have b2 := hp.1.2.1
  refine loop_0 (fun n' i (q : Nat → Int32) => wL_law_869 post L xs J99 (nI V) (nI D) (nI AL) x6 (nI g) (nI n) (nI (aj_cov m n)) (lN (ap_pk m n)) (M 0) (M 1) (M 2) (M 3) (M 4) (M 5) (nI rd) (nI base) (nI c) (nI pre) 0 kc ks n' (nI i) (nI V) (nI D) (nI AL) fR (nI n) (nI 1) rs sc sx an lv q) (fun i q => ap_ps q ∧ (i = 0 → q c = -1)) pre ps ⟨hps, fun _ => hq⟩ ?_ ?_
  · intro n' q hI
    refine pk_le pre pre (fun _ => pk_le pre 0 (fun z => al_921 hL hc hb hn0 hp hA hV hI.1 (hI.2 (by omega)) k) (fun _ => aq_rewind hc (al_921 hL hc hb hn0 hp hA hV (ap_ps_rew hI.1) pk_us k))) (fun z => absurd z (by omega))
  · intro n' i q hi hI hw
    refine pk_le pre i (fun z => absurd z (by omega)) (fun _ => pk_eq i 1 (fun _ => aq_skipN (w := 0) b2 (by have := hp.1; omega) hc hI.1 fun r q' g1 _ => nm_r (nI_1 i) (hw q' ⟨g1, fun z => absurd z (by omega)⟩)) (fun _ => aq_nextN hc hI.1 fun r q' g1 _ => nm_r (nI_1 i) (hw q' ⟨g1, fun z => absurd z (by omega)⟩)))
end
