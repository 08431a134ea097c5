theorem ap_cov_bit {m : Nat → Nat} {v : Nat} : ∀ n, (aj_cov m n).testBit v = true ↔ ∃ a, a < n ∧ (m a).testBit v = true
  | 0 => by
    rw [aj_cov, Nat.zero_testBit]
    exact ⟨fun z => absurd z (by decide), fun ⟨a, h, _⟩ => absurd h (Nat.not_lt_zero a)⟩
  | n + 1 => by
    rw [aj_cov, Nat.testBit_or, Bool.or_eq_true, ap_cov_bit n]
    constructor
    · rintro (⟨a, h1, h2⟩ | h)
      · exact ⟨a, by omega, h2⟩
      · exact ⟨n, by omega, h⟩
    · rintro ⟨a, h1, h2⟩
      by_cases e : a = n
      · subst e
        exact Or.inr h2
      · exact Or.inl ⟨a, by omega, h2⟩
/-- occurrences of v among the atoms of I; the sum of them, less one each -/
def ap_oc (m : Nat → Nat) (n : Nat) (I : Nat → Bool) (v : Nat) : Nat := ap_ct (fun a => I a && (m a).testBit v) n
def ap_B (m : Nat → Nat) (n : Nat) (I : Nat → Bool) : Nat := ap_sm (fun v => ap_oc m n I v - 1) 6
def ap_put (I : Nat → Bool) (b : Nat) : Nat → Bool := fun a => I a || decide (a = b)
theorem ap_put_b {I : Nat → Bool} {b : Nat} : ap_put I b b = true := by simp [ap_put]
theorem ap_put_n {I : Nat → Bool} {a b : Nat} (h : a ≠ b) : ap_put I b a = I a := by simp [ap_put, h]
theorem ap_put_s {I : Nat → Bool} {a b : Nat} (h : I a = true) : ap_put I b a = true := by simp [ap_put, h]
theorem ap_oc_put {m : Nat → Nat} {n b v : Nat} {I : Nat → Bool} (hb : b < n) (h : I b = false) : ap_oc m n (ap_put I b) v = ap_oc m n I v + ((m b).testBit v).toNat := by
  cases hm : (m b).testBit v
  · refine ap_ct_eq n fun i _ => ?_
    (try dsimp only)
    by_cases e : i = b
    · subst e
      rw [hm]
      simp
    · rw [ap_put_n e]
  · exact ap_ct_add n b hb (by (try dsimp only); rw [h]; rfl) (by (try dsimp only); rw [ap_put_b, hm]; rfl) fun i hi => by (try dsimp only); rw [ap_put_n hi]
/-- how many variables of b the atoms of I have -/
def ap_sh (m : Nat → Nat) (n : Nat) (I : Nat → Bool) (b : Nat) : Nat := ap_ct (fun v => (m b).testBit v && decide (0 < ap_oc m n I v)) 6
theorem ap_B_put {m : Nat → Nat} {n b : Nat} {I : Nat → Bool} (hb : b < n) (h : I b = false) : ap_B m n (ap_put I b) = ap_B m n I + ap_sh m n I b := by
  rw [ap_B, ap_B, ap_sh, ← ap_sm_ct, ← ap_sm_add]
  refine ap_sm_eq 6 fun v _ => ?_
  (try dsimp only)
  rw [ap_oc_put hb h]
  cases (m b).testBit v
  · simp
  · by_cases z : 0 < ap_oc m n I v
    · simp [z]
      omega
    · have : ap_oc m n I v = 0 := by omega
      simp [this]
theorem ap_oc_pos {m : Nat → Nat} {n a v : Nat} {I : Nat → Bool} (ha : a < n) (h : I a = true) (hm : (m a).testBit v = true) : 0 < ap_oc m n I v :=
  ap_pos_ct n a ha (by (try dsimp only); rw [h, hm]; rfl)
theorem ap_sh_ge {m : Nat → Nat} {n a b : Nat} {I : Nat → Bool} (ha : a < n) (h : I a = true) : ap_w m a b ≤ ap_sh m n I b := by
  rw [ap_w_ct]
  refine ap_ct_le 6 fun v _ hv => ?_
  rw [Bool.and_eq_true] at hv ⊢
  exact ⟨hv.2, decide_eq_true (ap_oc_pos ha h hv.1)⟩
theorem ap_sh_eq {m : Nat → Nat} {n a b : Nat} {I : Nat → Bool} (ha : a < n) (h : I a = true) (e : ap_w m a b = ap_sh m n I b) : ∀ v, v < 6 → (m b).testBit v = true → 0 < ap_oc m n I v → (m a).testBit v = true := by
  intro v hv hm ho
  cases hma : (m a).testBit v
  · have : ap_w m a b + 1 ≤ ap_sh m n I b := by
      rw [ap_w_ct]
      refine ap_ct_lt 6 (fun u _ hu => ?_) v hv (by (try dsimp only); rw [hma]; rfl) (by (try dsimp only); rw [hm]; exact decide_eq_true ho)
      rw [Bool.and_eq_true] at hu ⊢
      exact ⟨hu.2, decide_eq_true (ap_oc_pos ha h hu.1)⟩
    omega
  · rfl
/-- no stuck set but the empty one among the atoms of I -/
def ap_NS (m : Nat → Nat) (n : Nat) (I : Nat → Bool) : Prop := ∀ K : Nat, (∃ v, v < 6 ∧ K.testBit v = true) → (∀ v, v < 6 → K.testBit v = true → 0 < ap_oc m n I v) → ∃ v, v < 6 ∧ K.testBit v = true ∧ ∃ a, a < n ∧ I a = true ∧ ∀ b, b < n → I b = true → (m b).testBit v = true → ∀ u, u < 6 → (m b).testBit u = true → K.testBit u = true → (m a).testBit u = true
theorem ap_NS_put {m : Nat → Nat} {n a b : Nat} {I : Nat → Bool} (ha : a < n) (hI : I a = true) (hb : b < n) (h : I b = false) (hr : ∀ v, v < 6 → (m b).testBit v = true → 0 < ap_oc m n I v → (m a).testBit v = true) (hN : ap_NS m n I) : ap_NS m n (ap_put I b) := by
  intro K hne hcov
  by_cases hs : ∀ v, v < 6 → (m b).testBit v = true → K.testBit v = true → (m a).testBit v = true
  · have hc : ∀ v, v < 6 → K.testBit v = true → 0 < ap_oc m n I v := by
      intro v hv hk
      have := hcov v hv hk
      rw [ap_oc_put hb h] at this
      cases hm : (m b).testBit v
      · rw [hm] at this
        exact this
      · exact ap_oc_pos ha hI (hs v hv hm hk)
    obtain ⟨v, hv, hk, c, hc1, hc2, hc3⟩ := hN K hne hc
    refine ⟨v, hv, hk, c, hc1, ap_put_s hc2, fun d hd hId hmd u hu hmu hku => ?_⟩
    by_cases e : d = b
    · subst e
      exact hc3 a ha hI (hs v hv hmd hk) u hu (hs u hu hmu hku) hku
    · rw [ap_put_n e] at hId
      exact hc3 d hd hId hmd u hu hmu hku
  · have : ∃ v, v < 6 ∧ (m b).testBit v = true ∧ K.testBit v = true ∧ ¬ (m a).testBit v = true := Classical.byContradiction fun hno => hs fun v hv h1 h2 => Classical.byContradiction fun h3 => hno ⟨v, hv, h1, h2, h3⟩
    obtain ⟨v, hv, h1, h2, h3⟩ := this
    refine ⟨v, hv, h2, b, hb, ap_put_b, fun d hd hId hmd u hu hmu hku => ?_⟩
    by_cases e : d = b
    · subst e
      exact hmu
    · rw [ap_put_n e] at hId
      exact absurd (hr v hv h1 (ap_oc_pos hd hId hmd)) h3
theorem ap_NS_1 {m : Nat → Nat} {n : Nat} {I : Nat → Bool} (hn : 0 < n) (h : ∀ a, a < n → (I a = true ↔ a = 0)) : ap_NS m n I := by
  intro K hne hcov
  obtain ⟨v, hv, hk⟩ := hne
  refine ⟨v, hv, hk, 0, hn, (h 0 hn).mpr rfl, fun b hb hI _ u _ hm _ => ?_⟩
  rw [(h b hb).mp hI] at hm
  exact hm
theorem ap_NS_res {m : Nat → Nat} {n K : Nat} {I : Nat → Bool} (hm : ∀ a, a < n → m a < 64) (hI : ∀ a, a < n → I a = true) (hN : ap_NS m n I) (h : aj_res m n K) : K = 0 := by
  obtain ⟨⟨h1, h2, _⟩, h4⟩ := h
  apply Classical.byContradiction
  intro hz
  have hne : ∃ v, v < 6 ∧ K.testBit v = true := Classical.byContradiction fun hno => hz (aj_ext h1 (by decide) fun w hw => by
    rw [Nat.zero_testBit]
    cases hk : K.testBit w
    · rfl
    · exact absurd ⟨w, hw, hk⟩ hno)
  obtain ⟨v, hv, hk, a, ha, _, hall⟩ := hN K hne fun v hv hk => by
    obtain ⟨a, ha, hma⟩ := (ap_cov_bit n).mp (h2 v hv hk)
    exact ap_oc_pos ha (hI a ha) hma
  refine h4 v hv hk ⟨a, ha, (aj_and_sub (aj_nr_lt h1 n)).mpr fun u hu hb => ?_⟩
  obtain ⟨b, hb1, hb2, hb3, hb4⟩ := (aj_nr_bit n).mp hb
  exact hall b hb1 (hI b hb1) hb2 u hu hb3 hb4
theorem ap_res_NS {m : Nat → Nat} {n : Nat} (h : aj_res m n 0) : ∀ K, K < 64 → K ≠ 0 → aj_sub K (aj_cov m n) → ¬ aj_stk m n K := by
  intro K hK hz hs hst
  have := h.1.2.2 K hK hs hst
  exact hz (aj_ext hK (by decide) fun w hw => by
    rw [Nat.zero_testBit]
    cases hk : K.testBit w
    · rfl
    · have := this w hw hk
      rw [Nat.zero_testBit] at this
      exact absurd this (by decide))
/-! a step of the tree's growth: the heaviest edge that leaves I -/
def ap_stp (m : Nat → Nat) (n : Nat) (I : Nat → Bool) (best b : Nat) : Prop := b < n ∧ I b = false ∧ (∃ a, a < n ∧ I a = true ∧ ap_w m a b = best) ∧ ∀ a c, a < n → c < n → I a = true → I c = false → ap_w m a c ≤ best
/-- the upper bound, and what equality says -/
def ap_up (m : Nat → Nat) (n : Nat) (I : Nat → Bool) (W : Nat) : Prop := W ≤ ap_B m n I ∧ (W = ap_B m n I → ap_NS m n I)
theorem ap_up_s {m : Nat → Nat} {n best b W : Nat} {I : Nat → Bool} (h : ap_up m n I W) (hs : ap_stp m n I best b) : ap_up m n (ap_put I b) (W + best) := by
  obtain ⟨hb, hIb, ⟨a, ha, hIa, hw⟩, _⟩ := hs
  have hge := ap_sh_ge (m := m) (b := b) ha hIa
  have hB := ap_B_put (m := m) hb hIb
  obtain ⟨h1, h2⟩ := h
  refine ⟨by omega, fun e => ?_⟩
  exact ap_NS_put ha hIa hb hIb (ap_sh_eq ha hIa (by omega)) (h2 (by omega))
/-! the lower bound, threshold by threshold, against a forest -/
def ap_hi (m par rk : Nat → Nat) (t b : Nat) : Bool := !decide (rk b = 0) && decide (t < ap_w m b (par b))
def ap_clo (m : Nat → Nat) (n : Nat) (t : Nat) (I : Nat → Bool) : Prop := ∀ a c, a < n → c < n → I a = true → I c = false → ap_w m a c ≤ t
theorem ap_climb {m : Nat → Nat} {n t : Nat} {par rk : Nat → Nat} {A0 A1 : Nat → Bool} (hf : ap_for m n par rk) (h0 : ap_clo m n t A0) (h1 : ap_clo m n t A1) : ∀ d x, x < n → rk x ≤ d → A1 x = true → A0 x = false → ∃ y, y < n ∧ A1 y = true ∧ A0 y = false ∧ ap_hi m par rk t y = false := by
  intro d
  induction d with
  | zero =>
    intro x hx hr h2 h3
    have : rk x = 0 := by omega
    exact ⟨x, hx, h2, h3, by simp [ap_hi, this]⟩
  | succ d ih =>
    intro x hx hr h2 h3
    cases hh : ap_hi m par rk t x
    · exact ⟨x, hx, h2, h3, hh⟩
    · simp only [ap_hi, Bool.and_eq_true, Bool.not_eq_true', decide_eq_false_iff_not, decide_eq_true_eq] at hh
      obtain ⟨hp, hrk⟩ := hf x hx hh.1
      refine ih (par x) hp (by omega) ?_ ?_
      · cases z : A1 (par x)
        · have := h1 x (par x) hx hp h2 z
          omega
        · rfl
      · cases z : A0 (par x)
        · rfl
        · have := h0 (par x) x hp hx z h3
          rw [ap_w_sym] at this
          omega
def ap_low (m : Nat → Nat) (n : Nat) (par rk : Nat → Nat) (I : Nat → Bool) (h : Nat → Nat) (t : Nat) : Prop := ∃ I0 : Nat → Bool, (∀ a, a < n → I0 a = true → I a = true) ∧ ap_clo m n t I0 ∧ (∃ x, x < n ∧ I x = true ∧ I0 x = false) ∧ ap_ct I n ≤ h t + ap_ct (fun b => I0 b && !ap_hi m par rk t b) n + 1
theorem ap_low_lt {m : Nat → Nat} {n t : Nat} {par rk : Nat → Nat} {A0 A1 : Nat → Bool} (hf : ap_for m n par rk) (hs : ∀ a, a < n → A0 a = true → A1 a = true) (h0 : ap_clo m n t A0) (h1 : ap_clo m n t A1) (hx : ∃ x, x < n ∧ A1 x = true ∧ A0 x = false) : ap_ct (fun b => A0 b && !ap_hi m par rk t b) n + 1 ≤ ap_ct (fun b => A1 b && !ap_hi m par rk t b) n := by
  obtain ⟨x, hx1, hx2, hx3⟩ := hx
  obtain ⟨y, hy1, hy2, hy3, hy4⟩ := ap_climb hf h0 h1 (rk x) x hx1 (Nat.le_refl _) hx2 hx3
  refine ap_ct_lt n (fun i hi hp => ?_) y hy1 (by (try dsimp only); rw [hy3]; rfl) (by (try dsimp only); rw [hy2, hy4]; rfl)
  rw [Bool.and_eq_true] at hp ⊢
  exact ⟨hs i hi hp.1, hp.2⟩
theorem ap_low_s {m : Nat → Nat} {n t best b : Nat} {par rk h : Nat → Nat} {I : Nat → Bool} (hf : ap_for m n par rk) (hl : ap_low m n par rk I h t) (hs : ap_stp m n I best b) : ap_low m n par rk (ap_put I b) (fun t => h t + (decide (t < best)).toNat) t := by
  obtain ⟨hb, hIb, _, hmax⟩ := hs
  obtain ⟨I0, h1, h2, h3, h4⟩ := hl
  have hc : ap_ct (ap_put I b) n = ap_ct I n + 1 := ap_ct_add n b hb hIb ap_put_b fun i hi => ap_put_n hi
  by_cases z : t < best
  · obtain ⟨x, hx1, hx2, hx3⟩ := h3
    refine ⟨I0, fun a ha hz => ap_put_s (h1 a ha hz), h2, ⟨x, hx1, ap_put_s hx2, hx3⟩, ?_⟩
    (try dsimp only)
    rw [hc, decide_eq_true z]
    show _ ≤ h t + 1 + _ + 1
    omega
  · have hcl : ap_clo m n t I := fun a c ha hc' hIa hIc => Nat.le_trans (hmax a c ha hc' hIa hIc) (by omega)
    have := ap_low_lt hf h1 h2 hcl h3
    refine ⟨I, fun a _ hz => ap_put_s hz, hcl, ⟨b, hb, ap_put_b, hIb⟩, ?_⟩
    (try dsimp only)
    rw [hc, decide_eq_false z]
    show _ ≤ h t + 0 + _ + 1
    omega
theorem ap_low_0 {m : Nat → Nat} {n t : Nat} {par rk : Nat → Nat} {I : Nat → Bool} (hn : 0 < n) (h : ∀ a, a < n → (I a = true ↔ a = 0)) : ap_low m n par rk I (fun _ => 0) t := by
  refine ⟨fun _ => false, fun _ _ z => absurd z Bool.false_ne_true, fun _ _ _ _ z => absurd z Bool.false_ne_true, ⟨0, hn, (h 0 hn).mpr rfl, rfl⟩, ?_⟩
  have : ap_ct I n = ap_ct (fun _ => false) n + 1 := by
    refine (ap_ct_eq n fun i hi => ?_).trans (ap_ct_add (p := fun _ => false) (q := fun i => decide (i = 0)) n 0 hn rfl rfl fun i hi => decide_eq_false hi)
    cases z : I i
    · exact (decide_eq_false fun e => by rw [(h i hi).mpr e] at z; exact absurd z (by decide)).symm
    · exact (decide_eq_true ((h i hi).mp z)).symm
  rw [this, ap_ct_0 (p := fun _ => false) n fun _ _ => rfl]
  omega
theorem ap_low_e {m : Nat → Nat} {n t : Nat} {par rk h : Nat → Nat} {I : Nat → Bool} (hf : ap_for m n par rk) (hI : ∀ a, a < n → I a = true) (hl : ap_low m n par rk I h t) : ap_ct (ap_hi m par rk t) n ≤ h t := by
  obtain ⟨I0, h1, h2, h3, h4⟩ := hl
  have hcl : ap_clo m n t I := fun a c _ hc _ hIc => by
    rw [hI c hc] at hIc
    exact absurd hIc (by decide)
  have h5 := ap_low_lt hf h1 h2 hcl h3
  have h6 : ap_ct (fun b => I b && !ap_hi m par rk t b) n = ap_ct (fun b => !ap_hi m par rk t b) n := ap_ct_eq n fun i hi => by
    (try dsimp only)
    rw [hI i hi]
    rfl
  have h7 := ap_ct_not (p := ap_hi m par rk t) n
  rw [ap_ct_all n hI] at h4
  omega
/-- the forest's weight -/
theorem ap_forW {m : Nat → Nat} {n : Nat} {par rk I : Nat → _} (hI : ∀ a, a < n → I a = true) (h : ap_inv m n 0 par rk) : ap_B m n I ≤ ap_sm (fun t => ap_ct (ap_hi m par rk t) n) 6 := by
  have e1 : ap_sm (fun t => ap_ct (ap_hi m par rk t) n) 6 = ap_sm (fun b => if rk b = 0 then 0 else ap_w m b (par b)) n := by
    have : ap_sm (fun t => ap_ct (ap_hi m par rk t) n) 6 = ap_sm (fun t => ap_sm (fun b => (ap_hi m par rk t b).toNat) n) 6 := ap_sm_eq 6 fun t _ => (ap_sm_ct n).symm
    rw [this, ← ap_sm_sw 6 n]
    refine ap_sm_eq n fun b _ => ?_
    (try dsimp only)
    by_cases z : rk b = 0
    · rw [if_pos z]
      refine (ap_sm_eq 6 fun t _ => ?_).trans (ap_sm_0 6)
      simp [ap_hi, z]
    · rw [if_neg z]
      refine (ap_sm_eq 6 fun t _ => ?_).trans (ap_thr _ (ap_w_6 m b (par b)))
      simp [ap_hi, z]
  have e2 : ap_sm (fun b => if rk b = 0 then 0 else ap_w m b (par b)) n = ap_sm (fun v => ap_ct (fun b => (m b).testBit v && (!decide (rk b = 0) && (m (par b)).testBit v)) n) 6 := by
    have : ap_sm (fun v => ap_ct (fun b => (m b).testBit v && (!decide (rk b = 0) && (m (par b)).testBit v)) n) 6 = ap_sm (fun v => ap_sm (fun b => ((m b).testBit v && (!decide (rk b = 0) && (m (par b)).testBit v)).toNat) n) 6 := ap_sm_eq 6 fun t _ => (ap_sm_ct n).symm
    rw [this, ← ap_sm_sw 6 n]
    refine ap_sm_eq n fun b _ => ?_
    (try dsimp only)
    by_cases z : rk b = 0
    · rw [if_pos z]
      refine ((ap_sm_eq 6 fun t _ => ?_).trans (ap_sm_0 6)).symm
      simp [z]
    · rw [if_neg z, ap_w_ct, ← ap_sm_ct]
      refine ap_sm_eq 6 fun t _ => ?_
      simp [z]
  rw [e1, e2]
  refine ap_sm_le 6 fun v hv => ?_
  have hu := h.2.2.2 v hv (Nat.zero_testBit v)
  have := ap_ct_u (p := fun b => (m b).testBit v) (q := fun b => !decide (rk b = 0) && (m (par b)).testBit v) n (fun b c hb hc p1 q1 p2 q2 => hu b c hb hc p1 p2 (by
    cases z : decide (rk b = 0)
    · rw [z] at q1
      exact Or.inr q1
    · exact Or.inl (of_decide_eq_true z)) (by
    cases z : decide (rk c = 0)
    · rw [z] at q2
      exact Or.inr q2
    · exact Or.inl (of_decide_eq_true z)))
  have e3 : ap_oc m n I v = ap_ct (fun b => (m b).testBit v) n := ap_ct_eq n fun i hi => by
    (try dsimp only)
    rw [hI i hi]
    rfl
  (try dsimp only)
  omega
/-! the whole: along the growth -/
def ap_gr (m : Nat → Nat) (n : Nat) (I : Nat → Bool) (W : Nat) : Prop := ap_up m n I W ∧ ∃ h : Nat → Nat, ap_sm h 6 = W ∧ ∀ par rk t, ap_for m n par rk → t < 6 → ap_low m n par rk I h t
theorem ap_gr0 {m : Nat → Nat} {n : Nat} {I : Nat → Bool} (hn : 0 < n) (h : ∀ a, a < n → (I a = true ↔ a = 0)) : ap_gr m n I 0 := by
  refine ⟨⟨Nat.zero_le _, fun _ => ap_NS_1 hn h⟩, fun _ => 0, ap_sm_0 6, fun par rk t _ _ => ap_low_0 hn h⟩
theorem ap_gr_s {m : Nat → Nat} {n best b W : Nat} {I : Nat → Bool} (h : ap_gr m n I W) (hs : ap_stp m n I best b) : ap_gr m n (ap_put I b) (W + best) := by
  obtain ⟨h1, g, h2, h3⟩ := h
  refine ⟨ap_up_s h1 hs, fun t => g t + (decide (t < best)).toNat, ?_, fun par rk t hf ht => ap_low_s hf (h3 par rk t hf ht) hs⟩
  have hb : best < 7 := by
    obtain ⟨a, _, _, e⟩ := hs.2.2.1
    rw [← e]
    exact ap_w_6 m a b
  rw [ap_sm_add, h2, ap_thr best hb]
/-- at the end: the weight is the bound just where the residue is empty -/
theorem ap_gr_e {m : Nat → Nat} {n W K : Nat} {I : Nat → Bool} (hm : ∀ a, a < n → m a < 64) (hI : ∀ a, a < n → I a = true) (h : ap_gr m n I W) (hK : aj_res m n K) : W = ap_B m n I ↔ K = 0 := by
  obtain ⟨⟨h1, h2⟩, g, h3, h4⟩ := h
  constructor
  · exact fun e => ap_NS_res hm hI (h2 e) hK
  · intro e
    subst e
    have hC : aj_cov m n < 64 := aj_cov_lt (k := 6) n hm
    obtain ⟨par, rk, hinv⟩ := ap_build (ap_res_NS hK) 6 (aj_cov m n) (fun _ => 0) (fun _ => 0) (aj_sz_le _ 6) hC (fun _ _ z => z) ⟨fun _ _ z => absurd rfl z, fun _ _ z => absurd rfl z, fun _ _ z => absurd rfl z, fun v hv hk b c hb _ hmb => by
      rw [(ap_cov_bit n).mpr ⟨b, hb, hmb⟩] at hk
      exact absurd hk (by decide)⟩
    have h5 := ap_forW hI hinv
    have h6 : ap_sm (fun t => ap_ct (ap_hi m par rk t) n) 6 ≤ ap_sm g 6 := ap_sm_le 6 fun t ht => ap_low_e hinv.1 hI (h4 par rk t hinv.1 ht)
    omega
