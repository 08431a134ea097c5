/-! the picture between the class and the law's own sets of rows -/
def ap_pic (V D AL n : Nat) (m : Nat → Nat) (sc sx : Nat → Int32) (M : Nat → Int64) : Prop :=
  (3 ≤ V ∧ V ≤ 6 ∧ 2 ≤ D ∧ D ≤ 4 ∧ AL ≤ 6 ∧ n ≤ AL) ∧ aj_scp m V n sc ∧ (∀ a, a < n → ∀ r, r < 64 → (¬ sx (a * 64 + r) = 0 ↔ al_b (M a) r = true) ∧ (al_b (M a) r = true → ap_ok D (aj_sz (m a) 6) r)) ∧ ∀ a, n ≤ a → a < 6 → ∀ r, r < 64 → sx (a * 64 + r) = 0 ∧ al_b (M a) r = false
theorem ap_m64 {V D AL n : Nat} {m : Nat → Nat} {sc sx : Nat → Int32} {M : Nat → Int64} (h : ap_pic V D AL n m sc sx M) : ∀ b, b < n → m b < 64 := fun b hb => (aj_msk_of h.1.2.1 h.2.1 b hb).2.1
theorem aj_cn_0 {f : Nat → Int32} : ∀ n, aj_cn f n = 0 ↔ ∀ i, i < n → f i = 0
  | 0 => ⟨fun _ i hi => absurd hi (Nat.not_lt_zero i), fun _ => rfl⟩
  | n + 1 => by
    have ih := aj_cn_0 (f := f) n
    by_cases z : f n = 0
    · rw [aj_cn_z z, ih]
      exact ⟨fun h => lt_s h z, fun h i hi => h i (by omega)⟩
    · rw [aj_cn_p z]
      exact ⟨fun h => by omega, fun h => absurd (h n (by omega)) z⟩
theorem ap_kx_dig {m c v : Nat} (hb : m.testBit v = true) : ∀ k, v < k → aj_kx m c k / 4 ^ aj_sz m v % 4 = aj_val c v
  | 0, h => absurd h (Nat.not_lt_zero v)
  | k + 1, h => by
    rw [aj_kx]
    by_cases e : v = k
    · subst e
      have hl := aj_kx_lt m c v
      rw [if_pos hb, Nat.add_mul_div_right _ _ (Nat.pow_pos (by decide)), Nat.div_eq_of_lt hl, Nat.zero_add, Nat.mod_eq_of_lt (aj_val_lt c v)]
    · have ih := ap_kx_dig (c := c) hb k (by omega)
      by_cases hk : m.testBit k = true
      · rw [if_pos hk]
        have hs := aj_sz_mono m (a := v + 1) k (by omega)
        rw [aj_sz_t hb] at hs
        obtain ⟨d, hd⟩ : ∃ d, aj_sz m k = aj_sz m v + (d + 1) := ⟨aj_sz m k - aj_sz m v - 1, by omega⟩
        have e2 : aj_val c k * 4 ^ aj_sz m k = (aj_val c k * 4 ^ d * 4) * 4 ^ aj_sz m v := by
          rw [hd, Nat.pow_add, Nat.pow_succ, Nat.mul_assoc, Nat.mul_assoc, Nat.mul_comm (4 ^ aj_sz m v), Nat.mul_assoc]
        rw [e2, Nat.add_mul_div_right _ _ (Nat.pow_pos (by decide)), Nat.add_mul_mod_self_right, ih]
      · rw [if_neg hk]
        exact ih
/-- an answer, as the law finds it -/
theorem ap_ansL {V D AL n p : Nat} {m : Nat → Nat} {sc sx : Nat → Int32} {M : Nat → Int64} (h : ap_pic V D AL n m sc sx M) : aj_ans m n sx (ap_up6 V p) ↔ ap_leg V D (aj_cov m n) (ap_up6 V p) ∧ ∀ a, a < 6 → (ap_sc m n a = 0 ∨ al_b (M a) (aj_kx (ap_sc m n a) (ap_up6 V p) V) = true) := by
  obtain ⟨⟨b1, b2, b3, b4, b5, b6⟩, hs, hM, hM0⟩ := h
  have hkx : ∀ a, a < n → aj_kx (m a) (ap_up6 V p) 6 = aj_kx (m a) (ap_up6 V p) V := fun a ha => ap_kx_6 (hs a ha).2.2.1 b2
  have h64 : ∀ a, a < n → aj_kx (m a) (ap_up6 V p) 6 < 64 := fun a ha => aj_kx_64 (hs a ha).2.2.2
  constructor
  · intro ⟨hu, hr⟩
    refine ⟨fun v hv => ?_, fun a ha => ?_⟩
    · cases hc : (aj_cov m n).testBit v
      · rw [hu v (by omega) hc]
        exact ⟨by omega, fun z => absurd z (by decide)⟩
      · refine ⟨?_, fun _ => rfl⟩
        obtain ⟨a, ha, hma⟩ := (ap_cov_bit n).mp hc
        obtain ⟨o1, o2, o3, o4⟩ := (hM a ha _ (h64 a ha)).2 ((hM a ha _ (h64 a ha)).1.mp (hr a ha))
        have hd := ap_kx_dig (c := ap_up6 V p) hma 6 (by omega)
        have hz := aj_sz_mono (m a) (a := v + 1) 6 (by omega)
        rw [aj_sz_t hma] at hz
        have h4 := (hs a ha).2.2.2
        have e : aj_sz (m a) v = 0 ∨ aj_sz (m a) v = 1 ∨ aj_sz (m a) v = 2 := by omega
        rcases e with e | e | e
        · rw [e, show 4 ^ 0 = 1 from rfl, Nat.div_one] at hd
          omega
        · rw [e, show 4 ^ 1 = 4 from rfl] at hd
          omega
        · rw [e, show 4 ^ 2 = 16 from rfl] at hd
          omega
    · by_cases hn : a < n
      · right
        rw [ap_sc_lt hn, ← hkx a hn]
        exact (hM a hn _ (h64 a hn)).1.mp (hr a hn)
      · exact Or.inl (if_neg hn)
  · intro ⟨hl, hr⟩
    refine ⟨fun v hv hc => ?_, fun a ha => ?_⟩
    · by_cases hvV : v < V
      · have := (hl v hvV).2
        rw [hc] at this
        exact Nat.eq_zero_of_not_pos fun z => absurd (this z) (by decide)
      · exact ap_dig0 b1 b2 (by omega) hv
    · have := hr a (by omega)
      rw [ap_sc_lt ha, ← hkx a ha] at this
      rcases this with z | z
      · have := (hs a ha).2.1
        omega
      · exact (hM a ha _ (h64 a ha)).1.mpr z
section
variable {post : Int32 → Prop} {L : Nat} {xs : Nat → Int32} {J99 : Int32 → Int32 → Int64 → Int64 → Int64 → Int64 → Int64 → Int64 → Int64 → Int32 → Int32 → Int32 → Int32 → Int32 → Int32 → Int32 → Int32 → (Nat → Int32) → (Nat → Int32) → (Nat → Int32) → (Nat → Int32) → (Nat → Int32) → Prop}
variable {V D AL n g rd : Nat} {m : Nat → Nat} {x6 fR rs : Int32} {sc sx an lv ps : Nat → Int32} {M E : Nat → Int64} {kc ks : Nat}
theorem al_1461 {J1383 : Int32 → Prop} {a : Nat} {x24 x31 : Int32} (hp : ap_pic V D AL n m sc sx M) (ha : a < n) (hE : ∀ r, r < 64 → (al_b (E a) r = true ↔ ¬ lv (a * 64 + r) = 0)) (k : J1383 (nI (a + 1))) : ∃ fu, wL_law_1461 post L xs J99 J1383 (nI V) (nI D) (nI AL) x6 (nI g) (nI n) (nI (aj_cov m n)) (lN (ap_pk m n)) (M 0) (M 1) (M 2) (M 3) (M 4) (M 5) x24 x31 (E 0) (E 1) (E 2) (E 3) (E 4) (E 5) (nI a) (M a) (E a) kc ks (nI V) (nI D) (nI AL) fR (nI n) (nI 1) rs sc sx an lv ps fu 0 := by
  refine loop_0 (fun n' r (_ : Unit) => wL_law_1461 post L xs J99 J1383 (nI V) (nI D) (nI AL) x6 (nI g) (nI n) (nI (aj_cov m n)) (lN (ap_pk m n)) (M 0) (M 1) (M 2) (M 3) (M 4) (M 5) x24 x31 (E 0) (E 1) (E 2) (E 3) (E 4) (E 5) (nI a) (M a) (E a) kc ks (nI V) (nI D) (nI AL) fR (nI n) (nI 1) rs sc sx an lv ps n' (nI r)) (fun _ _ => True) 64 () trivial ?_ ?_
  · intro n' _ _
    exact pk_le 64 64 (fun _ => nm_r (nI_1 a) k) (fun z => absurd z (by omega))
  · intro n' r _ hr _ hw
    have hw' := hw () trivial
    obtain ⟨⟨b1, b2, b3, b4, b5, b6⟩, hs, hM, hM0⟩ := hp
    have key : ∀ z0 : Int32, al_b (M a) r = true → (lv (a * 64 + r) = 0 → 3 = z0) → (¬ lv (a * 64 + r) = 0 → 2 = z0) → wL_law_1500 post L xs J99 J1383 (wL_law_1461 post L xs J99 J1383 (nI V) (nI D) (nI AL) x6 (nI g) (nI n) (nI (aj_cov m n)) (lN (ap_pk m n)) (M 0) (M 1) (M 2) (M 3) (M 4) (M 5) x24 x31 (E 0) (E 1) (E 2) (E 3) (E 4) (E 5) (nI a) (M a) (E a) kc ks (nI V) (nI D) (nI AL) fR (nI n) (nI 1) rs sc sx an lv ps n') (nI V) (nI D) (nI AL) x6 (nI g) (nI n) (nI (aj_cov m n)) (lN (ap_pk m n)) (M 0) (M 1) (M 2) (M 3) (M 4) (M 5) x24 x31 (E 0) (E 1) (E 2) (E 3) (E 4) (E 5) (nI a) (M a) (E a) (nI r) z0 kc ks (nI V) (nI D) (nI AL) fR (nI n) (nI 1) rs sc sx an lv ps := by
      intro z0 hb h3 h2
      unfold wL_law_1500
      rw [(ap_d3 r hr).1, (ap_d3 r hr).2.1, (ap_d3 r hr).2.2]
      exact aq_rowState b2 (by omega) b4 hs ha ((hM a ha r hr).2 hb) ((hM a ha r hr).1.mpr hb) (fun l => br_t (h3 l) (nm_r (nI_1 r) hw')) (fun l => br_t (h2 l) (nm_r (nI_1 r) hw'))
    exact pk_le 64 r (fun z => absurd z (by omega)) (fun _ => al_t0 hr (fun hb => al_t1 hr (fun he => key 2 hb (fun l => absurd l ((hE r hr).mp he)) (fun _ => rfl)) (fun he => key 3 hb (fun _ => rfl) (fun l => by rw [(hE r hr).mpr l] at he; exact absurd he (by decide)))) (fun hb => nm_r (nI_1 r) hw'))
theorem al_1383 {seen : Nat} (hp : ap_pic V D AL n m sc sx M) (hE : ∀ a, a < n → ∀ r, r < 64 → (al_b (E a) r = true ↔ ¬ lv (a * 64 + r) = 0)) (hL : ∀ a, a < n → (aj_cn (fun i => lv (a * 64 + i)) 64 = 0 ↔ seen = 0)) (hse : seen ≤ 4096) (k : J99 (nI n) (nI (aj_cov m n)) (lN (ap_pk m n)) (M 0) (M 1) (M 2) (M 3) (M 4) (M 5) (nI (rd + 1)) (nI V) (nI D) (nI AL) fR (nI n) (nI 1) rs sc sx an lv ps) : ∃ fu, wL_law_1383 post L xs J99 (nI V) (nI D) (nI AL) x6 (nI g) (nI n) (nI (aj_cov m n)) (lN (ap_pk m n)) (M 0) (M 1) (M 2) (M 3) (M 4) (M 5) (nI rd) (nI seen) (E 0) (E 1) (E 2) (E 3) (E 4) (E 5) kc ks (nI V) (nI D) (nI AL) fR (nI n) (nI 1) rs sc sx an lv ps fu 0 := by
  have hn : n ≤ 6 := by have := hp.1; omega
  refine loop_0 (fun n' a (_ : Unit) => wL_law_1383 post L xs J99 (nI V) (nI D) (nI AL) x6 (nI g) (nI n) (nI (aj_cov m n)) (lN (ap_pk m n)) (M 0) (M 1) (M 2) (M 3) (M 4) (M 5) (nI rd) (nI seen) (E 0) (E 1) (E 2) (E 3) (E 4) (E 5) kc ks (nI V) (nI D) (nI AL) fR (nI n) (nI 1) rs sc sx an lv ps n' (nI a)) (fun _ _ => True) n () trivial ?_ ?_
  · intro n' _ _
    exact pk_le n n (fun _ => nm_r (nI_1 rd) k) (fun z => absurd z (by omega))
  · intro n' a _ ha _ hw
    have hcn := aj_cn_le (fun i => lv (a * 64 + i)) 64
    have hLa := hL a ha
    refine pk_le n a (fun z => absurd z (by omega)) (fun _ => al_sel (M := M) (by omega) (al_sel (M := E) (by omega) (aq_live hn ha (pk_le (aj_cn (fun i => lv (a * 64 + i)) 64) 0 (fun z => ?_) (fun z => ?_)))))
    · exact br_t (nI_le (b := 0) (by omega) (by decide)) (br_t rfl (al_1461 hp ha (hE a ha) (hw () trivial)))
    · exact br_f (nI_ge (a := 0) (by omega) (by omega)) (br_t rfl (al_1461 hp ha (hE a ha) (hw () trivial)))
theorem al_1354 {seen c : Nat} (hc : c < 2) (hp : ap_pic V D AL n m sc sx M) (hE : ∀ a, a < n → ∀ r, r < 64 → (al_b (E a) r = true ↔ ¬ lv (a * 64 + r) = 0)) (hL : ∀ a, a < n → (aj_cn (fun i => lv (a * 64 + i)) 64 = 0 ↔ seen = 0)) (hse : seen ≤ 4096) (hF : ∃ F, F ≤ 4096 ∧ ps c + 1 = nI F ∧ ∀ x, F ≤ x → x < 4096 → an x = 0) (k : ∀ ps', J99 (nI n) (nI (aj_cov m n)) (lN (ap_pk m n)) (M 0) (M 1) (M 2) (M 3) (M 4) (M 5) (nI (rd + 1)) (nI V) (nI D) (nI AL) fR (nI n) (nI 1) rs sc sx an lv ps') : ∃ fu, wL_law_1354 post L xs J99 (nI V) (nI D) (nI AL) x6 (nI g) (nI n) (nI (aj_cov m n)) (lN (ap_pk m n)) (M 0) (M 1) (M 2) (M 3) (M 4) (M 5) (nI rd) (nI c) (nI seen) (E 0) (E 1) (E 2) (E 3) (E 4) (E 5) kc ks fu 0 (nI V) (nI D) (nI AL) fR (nI n) (nI 1) rs sc sx an lv ps := by
  refine loop_0 (fun n' i (q : Nat → Int32) => wL_law_1354 post L xs J99 (nI V) (nI D) (nI AL) x6 (nI g) (nI n) (nI (aj_cov m n)) (lN (ap_pk m n)) (M 0) (M 1) (M 2) (M 3) (M 4) (M 5) (nI rd) (nI c) (nI seen) (E 0) (E 1) (E 2) (E 3) (E 4) (E 5) kc ks n' (nI i) (nI V) (nI D) (nI AL) fR (nI n) (nI 1) rs sc sx an lv q) (fun _ q => q c = 4096 ∨ ∃ F, F ≤ 4096 ∧ q c + 1 = nI F ∧ ∀ x, F ≤ x → x < 4096 → an x = 0) 3 ps (Or.inr hF) ?_ ?_
  · intro n' q _
    exact pk_le 3 3 (fun _ => al_1383 hp hE hL hse (k q)) (fun z => absurd z (by omega))
  · intro n' i q hi hI hw
    refine pk_le 3 i (fun z => absurd z (by omega)) (fun _ => ?_)
    rcases hI with e | ⟨F, f1, f2, f3⟩
    · exact aq_nextE hc e (br_t rfl (nm_r (nI_1 i) (hw q (Or.inl e))))
    · exact aq_next hc f2 f1 (q := 4096) ⟨f1, Nat.le_refl _, fun x h1 h2 => f3 x h1 h2, fun z => absurd z (by omega)⟩ (br_t rfl (nm_r (nI_1 i) (hw _ (Or.inl pk_us))))
end
