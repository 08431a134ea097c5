/-! masks below 64 as naturals -/
theorem aj_or (a b : Nat) : nI a ||| nI b = nI (a ||| b) := by
  apply Int32.toBitVec_inj.1
  show BitVec.ofNat 32 a ||| BitVec.ofNat 32 b = BitVec.ofNat 32 (a ||| b)
  apply BitVec.eq_of_getLsbD_eq
  intro i hi
  simp [hi]
theorem aj_has : ∀ m, m < 64 → ∀ v, v < 6 → ((nI m &&& ((1 : Int32) <<< (nI v &&& 31))) = 0 ↔ m.testBit v = false) := by decide +kernel
theorem aj_bit : ∀ m, m < 64 → ∀ v, v < 6 → (nI m >>> (nI v &&& 31)) &&& 1 = nI (m.testBit v).toNat := by decide +kernel
def aj_rm (k v : Nat) : Nat := if k.testBit v then k - 2 ^ v else k
theorem aj_rmI : ∀ k, k < 64 → ∀ v, v < 6 → nI k &&& (((1 : Int32) <<< (nI v &&& 31)) ^^^ (-1)) = nI (aj_rm k v) := by decide +kernel
theorem aj_rm_lt : ∀ k, k < 64 → ∀ v, v < 6 → aj_rm k v < 64 := by decide +kernel
theorem aj_rm_bit : ∀ k, k < 64 → ∀ v, v < 6 → ∀ w, w < 6 → (aj_rm k v).testBit w = (k.testBit w && !decide (w = v)) := by decide +kernel
def aj_sub (a b : Nat) : Prop := ∀ w, w < 6 → a.testBit w = true → b.testBit w = true
theorem aj_hi {b i : Nat} (hb : b < 64) (hi : 6 ≤ i) : b.testBit i = false :=
  Nat.testBit_lt_two_pow (Nat.lt_of_lt_of_le hb (Nat.pow_le_pow_right (by decide) hi : 2 ^ 6 ≤ 2 ^ i))
theorem aj_and_sub {a b : Nat} (hb : b < 64) : a &&& b = b ↔ aj_sub b a := by
  constructor
  · intro h w _ hw
    have e := congrArg (fun x => Nat.testBit x w) h
    simp only [Nat.testBit_and, hw, Bool.and_true] at e
    exact e
  · intro h
    apply Nat.eq_of_testBit_eq
    intro i
    rw [Nat.testBit_and]
    rcases Nat.lt_or_ge i 6 with hi | hi
    · cases hb' : b.testBit i
      · simp
      · simp [h i hi hb']
    · simp [aj_hi hb hi]
theorem aj_ext {a b : Nat} (ha : a < 64) (hb : b < 64) (h : ∀ w, w < 6 → a.testBit w = b.testBit w) : a = b := by
  apply Nat.eq_of_testBit_eq
  intro i
  rcases Nat.lt_or_ge i 6 with hi | hi
  · exact h i hi
  · rw [aj_hi ha hi, aj_hi hb hi]
def aj_cov (m : Nat → Nat) : Nat → Nat
  | 0 => 0
  | n + 1 => aj_cov m n ||| m n
theorem aj_cov_lt {m : Nat → Nat} {k : Nat} : ∀ n, (∀ a, a < n → m a < 2 ^ k) → aj_cov m n < 2 ^ k
  | 0, _ => Nat.two_pow_pos k
  | n + 1, h => Nat.or_lt_two_pow (aj_cov_lt n fun a ha => h a (by omega)) (h n (by omega))
def aj_nr (m : Nat → Nat) (S v : Nat) : Nat → Nat
  | 0 => 0
  | n + 1 => if (m n).testBit v = true then aj_nr m S v n ||| (m n &&& S) else aj_nr m S v n
theorem aj_nr_lt {m : Nat → Nat} {S v : Nat} (hS : S < 64) : ∀ n, aj_nr m S v n < 64
  | 0 => by show 0 < 64; decide
  | n + 1 => by
    rw [aj_nr]
    split
    · exact Nat.or_lt_two_pow (n := 6) (aj_nr_lt hS n) (Nat.and_lt_two_pow (n := 6) (m n) hS)
    · exact aj_nr_lt hS n
theorem aj_nr_bit {m : Nat → Nat} {S v w : Nat} : ∀ n, (aj_nr m S v n).testBit w = true ↔ ∃ a, a < n ∧ (m a).testBit v = true ∧ (m a).testBit w = true ∧ S.testBit w = true
  | 0 => by
    rw [aj_nr]
    constructor
    · intro h
      rw [Nat.zero_testBit] at h
      exact absurd h (by decide)
    · intro ⟨a, h, _⟩
      exact absurd h (Nat.not_lt_zero a)
  | n + 1 => by
    rw [aj_nr]
    constructor
    · intro h
      split at h
      · rename_i hv
        rw [Nat.testBit_or, Bool.or_eq_true] at h
        rcases h with h | h
        · obtain ⟨a, h1, h2⟩ := (aj_nr_bit n).mp h
          exact ⟨a, by omega, h2⟩
        · rw [Nat.testBit_and, Bool.and_eq_true] at h
          exact ⟨n, by omega, hv, h.1, h.2⟩
      · obtain ⟨a, h1, h2⟩ := (aj_nr_bit n).mp h
        exact ⟨a, by omega, h2⟩
    · intro ⟨a, h1, h2, h3, h4⟩
      by_cases e : a = n
      · subst e
        rw [if_pos h2, Nat.testBit_or, Nat.testBit_and, h3, h4]
        simp
      · have := (aj_nr_bit (m := m) (S := S) (v := v) (w := w) n).mpr ⟨a, by omega, h2, h3, h4⟩
        split
        · rw [Nat.testBit_or, this]
          simp
        · exact this
def aj_cl (m : Nat → Nat) (n S v : Nat) : Prop := ∃ a, a < n ∧ m a &&& aj_nr m S v n = aj_nr m S v n
theorem aj_cl_mono {m : Nat → Nat} {n S K v : Nat} (hS : S < 64) (hK : K < 64) (h : aj_sub S K) (hc : aj_cl m n K v) : aj_cl m n S v := by
  obtain ⟨a, ha, e⟩ := hc
  refine ⟨a, ha, (aj_and_sub (aj_nr_lt hS n)).mpr fun w hw hb => ?_⟩
  obtain ⟨b, h1, h2, h3, h4⟩ := (aj_nr_bit n).mp hb
  exact (aj_and_sub (aj_nr_lt hK n)).mp e w hw ((aj_nr_bit n).mpr ⟨b, h1, h2, h3, h w hw h4⟩)
def aj_stk (m : Nat → Nat) (n S : Nat) : Prop := ∀ v, v < 6 → S.testBit v = true → ¬ aj_cl m n S v
def aj_top (m : Nat → Nat) (n K : Nat) : Prop := K < 64 ∧ aj_sub K (aj_cov m n) ∧ ∀ S, S < 64 → aj_sub S (aj_cov m n) → aj_stk m n S → aj_sub S K
def aj_res (m : Nat → Nat) (n K : Nat) : Prop := aj_top m n K ∧ aj_stk m n K
theorem aj_top0 {m : Nat → Nat} {n : Nat} (h : aj_cov m n < 64) : aj_top m n (aj_cov m n) := ⟨h, fun _ _ h => h, fun _ _ h _ => h⟩
theorem aj_top_rm {m : Nat → Nat} {n K v : Nat} (h : aj_top m n K) (hv : v < 6) (hc : aj_cl m n K v) : aj_top m n (aj_rm K v) := by
  obtain ⟨h1, h2, h3⟩ := h
  refine ⟨aj_rm_lt K h1 v hv, fun w hw hb => ?_, fun S hS hSC hst w hw hb => ?_⟩
  · rw [aj_rm_bit K h1 v hv w hw, Bool.and_eq_true] at hb
    exact h2 w hw hb.1
  · have hs := h3 S hS hSC hst
    rw [aj_rm_bit K h1 v hv w hw, Bool.and_eq_true]
    refine ⟨hs w hw hb, ?_⟩
    by_cases e : w = v
    · subst e
      exact absurd (aj_cl_mono hS h1 hs hc) (hst w hw hb)
    · simp [e]
theorem aj_res_un {m : Nat → Nat} {n K U : Nat} (h : aj_res m n K) (hU : U < 64) (hb : ∀ w, w < 6 → (U.testBit w = true ↔ ∃ S, S < 64 ∧ (aj_sub S (aj_cov m n) ∧ aj_stk m n S) ∧ S.testBit w = true)) : U = K := by
  apply aj_ext hU h.1.1
  intro w hw
  have e : U.testBit w = true ↔ K.testBit w = true := by
    rw [hb w hw]
    constructor
    · intro ⟨S, h1, h2, h3⟩
      exact h.1.2.2 S h1 h2.1 h2.2 w hw h3
    · intro hk
      exact ⟨K, h.1.1, ⟨h.1.2.1, h.2⟩, hk⟩
  cases h1 : U.testBit w <;> cases h2 : K.testBit w <;> simp [h1, h2] at e ⊢
/-! the number of bits; the peeling's two loops -/
def aj_sz (m : Nat) : Nat → Nat
  | 0 => 0
  | v + 1 => aj_sz m v + (m.testBit v).toNat
theorem aj_sz_le (m : Nat) : ∀ v, aj_sz m v ≤ v
  | 0 => Nat.le_refl 0
  | v + 1 => by
    have := aj_sz_le m v
    rw [aj_sz]
    cases m.testBit v <;> simp <;> omega
theorem aj_sz_mono (m : Nat) {a : Nat} : ∀ b, a ≤ b → aj_sz m a ≤ aj_sz m b
  | 0, h => by rw [Nat.le_zero.mp h]; exact Nat.le_refl _
  | b + 1, h => by
    by_cases e : a = b + 1
    · subst e
      exact Nat.le_refl _
    · have := aj_sz_mono m (a := a) b (by omega)
      rw [aj_sz]
      omega
theorem aj_sz_rm : ∀ k, k < 64 → ∀ v, v < 6 → k.testBit v = true → aj_sz (aj_rm k v) 6 < aj_sz k 6 := by decide +kernel
theorem aj_sz_0 : ∀ k, k < 64 → aj_sz k 6 = 0 → k = 0 := by decide +kernel
theorem aj_sz_1 : ∀ k, k < 64 → 0 < k → 0 < aj_sz k 6 := by decide +kernel
def aj_inn (m : Nat → Nat) (n K0 v K : Nat) : Prop := aj_top m n K ∧ ((K = K0 ∧ ∀ w, w < v → K0.testBit w = true → ¬ aj_cl m n K0 w) ∨ (aj_sz K 6 < aj_sz K0 6 ∧ ¬ aj_stk m n K0))
def aj_out (m : Nat → Nat) (n i K : Nat) : Prop := aj_top m n K ∧ (aj_stk m n K ∨ aj_sz K 6 + i ≤ 6)
theorem aj_inn0 {m : Nat → Nat} {n K : Nat} (h : aj_top m n K) : aj_inn m n K 0 K := ⟨h, Or.inl ⟨rfl, fun w hw => absurd hw (Nat.not_lt_zero w)⟩⟩
theorem aj_inn_no {m : Nat → Nat} {n K0 v K : Nat} (h : aj_inn m n K0 v K) (hn : K.testBit v = true → ¬ aj_cl m n K v) : aj_inn m n K0 (v + 1) K := by
  refine ⟨h.1, ?_⟩
  rcases h.2 with ⟨e, h2⟩ | h2
  · subst e
    exact Or.inl ⟨rfl, lt_s h2 hn⟩
  · exact Or.inr h2
theorem aj_inn_yes {m : Nat → Nat} {n K0 v K : Nat} (h : aj_inn m n K0 v K) (hv : v < 6) (hb : K.testBit v = true) (hc : aj_cl m n K v) : aj_inn m n K0 (v + 1) (aj_rm K v) := by
  refine ⟨aj_top_rm h.1 hv hc, Or.inr ?_⟩
  have hs := aj_sz_rm K h.1.1 v hv hb
  rcases h.2 with ⟨e, h2⟩ | h2
  · subst e
    exact ⟨hs, fun z => z v hv hb hc⟩
  · exact ⟨Nat.lt_trans hs h2.1, h2.2⟩
theorem aj_out_s {m : Nat → Nat} {n i K0 K : Nat} (ho : aj_out m n i K0) (h : aj_inn m n K0 6 K) : aj_out m n (i + 1) K := by
  refine ⟨h.1, ?_⟩
  rcases h.2 with ⟨e, h2⟩ | ⟨h1, h2⟩
  · subst e
    exact Or.inl h2
  · rcases ho.2 with h3 | h3
    · exact absurd h3 h2
    · exact Or.inr (by omega)
theorem aj_out0 {m : Nat → Nat} {n : Nat} (h : aj_cov m n < 64) : aj_out m n 0 (aj_cov m n) := ⟨aj_top0 h, Or.inr (aj_sz_le _ 6)⟩
theorem aj_out6 {m : Nat → Nat} {n K : Nat} (h : aj_out m n 6 K) : aj_res m n K := by
  refine ⟨h.1, ?_⟩
  rcases h.2 with h2 | h2
  · exact h2
  · have := aj_sz_0 K h.1.1 (by omega)
    subst this
    intro v hv hb
    rw [Nat.zero_testBit] at hb
    exact absurd hb (by decide)
/-! values, keys, and the turn between the two orders of a row's digits -/
def aj_val (c v : Nat) : Nat := c / 2 ^ (10 - 2 * v) % 4
theorem aj_val_lt (c v : Nat) : aj_val c v < 4 := Nat.mod_lt _ (by decide)
def aj_kx (m c : Nat) : Nat → Nat
  | 0 => 0
  | v + 1 => if m.testBit v = true then aj_kx m c v + aj_val c v * 4 ^ aj_sz m v else aj_kx m c v
def aj_ky (m c : Nat) : Nat → Nat
  | 0 => 0
  | v + 1 => if m.testBit v = true then aj_ky m c v * 4 + aj_val c v else aj_ky m c v
def aj_rv : Nat → Nat → Nat
  | 0, _ => 0
  | k + 1, x => aj_rv k (x % 4 ^ k) * 4 + x / 4 ^ k
def aj_pm (k x : Nat) : Nat := if x < 4 ^ k then aj_rv k x else x
theorem aj_sz_t {m v : Nat} (h : m.testBit v = true) : aj_sz m (v + 1) = aj_sz m v + 1 := by rw [aj_sz, h]; rfl
theorem aj_sz_f {m v : Nat} (h : ¬ m.testBit v = true) : aj_sz m (v + 1) = aj_sz m v := by
  rw [aj_sz, Bool.eq_false_iff.mpr h]; rfl
theorem aj_kx_lt (m c : Nat) : ∀ v, aj_kx m c v < 4 ^ aj_sz m v
  | 0 => by show 0 < 4 ^ 0; decide
  | v + 1 => by
    have h := aj_kx_lt m c v
    have hd := aj_val_lt c v
    rw [aj_kx]
    by_cases hb : m.testBit v = true
    · rw [if_pos hb, aj_sz_t hb, Nat.pow_succ]
      have : aj_val c v * 4 ^ aj_sz m v ≤ 3 * 4 ^ aj_sz m v := Nat.mul_le_mul_right _ (by omega)
      omega
    · rw [if_neg hb, aj_sz_f hb]
      exact h
theorem aj_ky_rv (m c : Nat) : ∀ v, aj_ky m c v = aj_rv (aj_sz m v) (aj_kx m c v)
  | 0 => rfl
  | v + 1 => by
    have h := aj_ky_rv m c v
    have hl := aj_kx_lt m c v
    rw [aj_kx, aj_ky]
    by_cases hb : m.testBit v = true
    · have hp : 0 < 4 ^ aj_sz m v := Nat.pow_pos (by decide)
      rw [if_pos hb, if_pos hb, aj_sz_t hb, aj_rv, Nat.add_mul_mod_self_right, Nat.mod_eq_of_lt hl, Nat.add_mul_div_right _ _ hp, Nat.div_eq_of_lt hl, h, Nat.zero_add]
    · rw [if_neg hb, if_neg hb, aj_sz_f hb]
      exact h
theorem aj_ky_pm (m c : Nat) : aj_ky m c 6 = aj_pm (aj_sz m 6) (aj_kx m c 6) := by
  rw [aj_pm, if_pos (aj_kx_lt m c 6)]
  exact aj_ky_rv m c 6
theorem aj_pm_in : ∀ k, k < 4 → ∀ x, x < 64 → aj_pm k x < 64 ∧ aj_pm k (aj_pm k x) = x := by decide +kernel
theorem aj_p4 {k : Nat} (h : k < 4) : 4 ^ k ≤ 64 := Nat.pow_le_pow_right (n := 4) (by decide) (show k ≤ 3 by omega)
theorem aj_kx_64 {m c : Nat} (h : aj_sz m 6 < 4) : aj_kx m c 6 < 64 := Nat.lt_of_lt_of_le (aj_kx_lt m c 6) (aj_p4 h)
theorem aj_ky_64 {m c : Nat} (h : aj_sz m 6 < 4) : aj_ky m c 6 < 64 := by
  rw [aj_ky_pm]
  exact (aj_pm_in _ h _ (aj_kx_64 h)).1
theorem aj_pm_inj {k x y : Nat} (hk : k < 4) (hx : x < 64) (hy : y < 64) (h : aj_pm k x = aj_pm k y) : x = y := by
  rw [← (aj_pm_in k hk x hx).2, h, (aj_pm_in k hk y hy).2]
/-! counting -/
def aj_cn (f : Nat → Int32) : Nat → Nat
  | 0 => 0
  | n + 1 => aj_cn f n + (if f n = 0 then 0 else 1)
theorem aj_cn_le (f : Nat → Int32) : ∀ n, aj_cn f n ≤ n
  | 0 => Nat.le_refl 0
  | n + 1 => by
    have := aj_cn_le f n
    rw [aj_cn]
    split <;> omega
theorem aj_cn_z {f : Nat → Int32} {n : Nat} (h : f n = 0) : aj_cn f (n + 1) = aj_cn f n := by rw [aj_cn, if_pos h]; rfl
theorem aj_cn_p {f : Nat → Int32} {n : Nat} (h : ¬ f n = 0) : aj_cn f (n + 1) = aj_cn f n + 1 := by rw [aj_cn, if_neg h]
theorem aj_cn_congr {f g : Nat → Int32} : ∀ n, (∀ i, i < n → (f i = 0 ↔ g i = 0)) → aj_cn f n = aj_cn g n
  | 0, _ => rfl
  | n + 1, h => by
    have e := aj_cn_congr n fun i hi => h i (by omega)
    have hn := h n (by omega)
    by_cases z : f n = 0
    · rw [aj_cn_z z, aj_cn_z (hn.mp z), e]
    · rw [aj_cn_p z, aj_cn_p (fun y => z (hn.mpr y)), e]
theorem aj_cn_cp (f : Nat → Int32) : ∀ n, aj_cn f n = (List.range n).countP (fun i => !decide (f i = 0))
  | 0 => rfl
  | n + 1 => by
    rw [List.range_succ, List.countP_append, aj_cn, aj_cn_cp f n]
    by_cases h : f n = 0 <;> simp [h]
theorem aj_perm : ∀ k, k < 4 → List.Perm ((List.range 64).map (aj_pm k)) (List.range 64) := by decide +kernel
theorem aj_cn_pm (f : Nat → Int32) {k : Nat} (hk : k < 4) : aj_cn (fun i => f (aj_pm k i)) 64 = aj_cn f 64 := by
  have e := (aj_perm k hk).countP_eq (fun i => !decide (f i = 0))
  rw [List.countP_map] at e
  rw [aj_cn_cp, aj_cn_cp f]
  exact e
