section
/-! rows taken from the kit to paste -/
theorem s_l : ∀ n, n < 32 → ((nI n &&& 31).toBitVec.smod 32).toNat = n := by decide +kernel
theorem nx_and (a b : Nat) : nI a &&& nI b = nI (a &&& b) := by
  apply Int32.toBitVec_inj.1
  show BitVec.ofNat 32 a &&& BitVec.ofNat 32 b = BitVec.ofNat 32 (a &&& b)
  apply BitVec.eq_of_getLsbD_eq
  intro i hi
  simp [hi]
theorem wb_tb (n : Nat) : (lN n).toBitVec = BitVec.ofNat 64 n := rfl
theorem wb_inj {a b : Int64} (h : a.toBitVec = b.toBitVec) : a = b := Int64.toBitVec_inj.mp h
theorem wb_tn {n : Nat} (h : n < 2 ^ 64) : (lN n).toBitVec.toNat = n := by rw [wb_tb, BitVec.toNat_ofNat, Nat.mod_eq_of_lt h]
theorem wb_of (x : Int64) : ∃ n, n < 2 ^ 64 ∧ x = lN n := ⟨x.toBitVec.toNat, x.toBitVec.isLt, wb_inj (by rw [wb_tb]; simp)⟩
theorem wb_c : ∀ k, k < 64 → ((nI k).toInt64 &&& 63) = lN k := by decide +kernel
theorem wb_cu : ∀ k, k < 64 → ((nI k).toInt64.toUInt64 &&& Int64.toUInt64 63) = UInt64.ofNat k := by decide +kernel
theorem wb_sm : ∀ k, k < 64 → (BitVec.ofNat 64 k).smod 64 = BitVec.ofNat 64 k := by decide +kernel
theorem wb_pw {a b : Nat} (h : a ≤ b) : 2 ^ b = 2 ^ a * 2 ^ (b - a) := by rw [← Nat.pow_add]; congr 1; omega
theorem wb_lt2 {a b : Nat} (h : a < b) : 2 ^ a < 2 ^ b := Nat.pow_lt_pow_right (by decide) h
theorem wb_mod (n : Nat) : lN n = lN (n % 2 ^ 64) := wb_inj (by rw [wb_tb, wb_tb]; apply BitVec.eq_of_toNat_eq; rw [BitVec.toNat_ofNat, BitVec.toNat_ofNat, Nat.mod_mod])
theorem wb_shr {n k : Nat} (hn : n < 2 ^ 64) (hk : k < 64) : ((lN n).toUInt64 >>> ((nI k).toInt64.toUInt64 &&& Int64.toUInt64 63)).toInt64 = lN (n / 2 ^ k) := by
  rw [wb_cu k hk]
  apply wb_inj
  apply BitVec.eq_of_toNat_eq
  show ((lN n).toUInt64 >>> UInt64.ofNat k).toNat = (BitVec.ofNat 64 _).toNat
  have h1 : (UInt64.ofNat k).toNat = k := by
    show (BitVec.ofNat 64 k).toNat = k
    rw [BitVec.toNat_ofNat, Nat.mod_eq_of_lt (by omega)]
  have h2 : (lN n).toUInt64.toNat = n := wb_tn hn
  rw [UInt64.toNat_shiftRight, h1, h2, Nat.mod_eq_of_lt hk, Nat.shiftRight_eq_div_pow, BitVec.toNat_ofNat, Nat.mod_eq_of_lt (Nat.lt_of_le_of_lt (Nat.div_le_self _ _) hn)]
theorem wb_shl (n : Nat) {k : Nat} (hk : k < 64) : lN n <<< ((nI k).toInt64 &&& 63) = lN (n * 2 ^ k) := by
  rw [wb_c k hk]
  apply wb_inj
  rw [Int64.toBitVec_shiftLeft, wb_tb, wb_tb, wb_tb, wb_sm k hk]
  apply BitVec.eq_of_toNat_eq
  rw [BitVec.shiftLeft_eq', BitVec.toNat_shiftLeft, BitVec.toNat_ofNat, BitVec.toNat_ofNat, BitVec.toNat_ofNat, Nat.mod_eq_of_lt (show k < 2 ^ 64 by omega), Nat.shiftLeft_eq, Nat.mul_mod, Nat.mod_mod, ← Nat.mul_mod]
theorem wb_and {a b : Nat} (ha : a < 2 ^ 64) (hb : b < 2 ^ 64) : lN a &&& lN b = lN (a &&& b) := by
  apply wb_inj
  rw [Int64.toBitVec_and, wb_tb, wb_tb, wb_tb]
  apply BitVec.eq_of_toNat_eq
  rw [BitVec.toNat_and, BitVec.toNat_ofNat, BitVec.toNat_ofNat, BitVec.toNat_ofNat, Nat.mod_eq_of_lt ha, Nat.mod_eq_of_lt hb, Nat.mod_eq_of_lt (Nat.and_lt_two_pow _ hb)]
theorem wb_or {a b : Nat} (ha : a < 2 ^ 64) (hb : b < 2 ^ 64) : lN a ||| lN b = lN (a ||| b) := by
  apply wb_inj
  rw [Int64.toBitVec_or, wb_tb, wb_tb, wb_tb]
  apply BitVec.eq_of_toNat_eq
  rw [BitVec.toNat_or, BitVec.toNat_ofNat, BitVec.toNat_ofNat, BitVec.toNat_ofNat, Nat.mod_eq_of_lt ha, Nat.mod_eq_of_lt hb, Nat.mod_eq_of_lt (Nat.or_lt_two_pow ha hb)]
theorem wb_mask {n k : Nat} (hn : n < 2 ^ 64) (hk : k < 64) : lN n &&& lN (2 ^ k - 1) = lN (n % 2 ^ k) := by
  rw [wb_and hn (by have := wb_lt2 hk; omega), Nat.and_two_pow_sub_one_eq_mod]
theorem wb_a1 {n : Nat} (hn : n < 2 ^ 64) : lN n &&& 1 = lN (n % 2) := wb_mask (k := 1) hn (by decide)
theorem wb_bit {n k : Nat} (hn : n < 2 ^ 64) (hk : k < 64) : ((lN n).toUInt64 >>> ((nI k).toInt64.toUInt64 &&& Int64.toUInt64 63)).toInt64 &&& 1 = lN (n / 2 ^ k % 2) := by
  rw [wb_shr hn hk, wb_a1 (Nat.lt_of_le_of_lt (Nat.div_le_self _ _) hn)]
end
section
/-! masks below 64 as naturals -/
theorem aj_or (a b : Nat) : nI a ||| nI b = nI (a ||| b) := by
  apply Int32.toBitVec_inj.1
  show BitVec.ofNat 32 a ||| BitVec.ofNat 32 b = BitVec.ofNat 32 (a ||| b)
  apply BitVec.eq_of_getLsbD_eq
  intro i hi
  simp [hi]
theorem aj_has : ∀ m, m < 64 → ∀ v, v < 6 → ((nI m &&& ((1 : Int32) <<< (nI v &&& 31))) = 0 ↔ m.testBit v = false) := by decide +kernel
theorem aj_bit : ∀ m, m < 64 → ∀ v, v < 6 → (nI m >>> (nI v &&& 31)) &&& 1 = nI (m.testBit v).toNat := by decide +kernel
def aj_rm (k v : Nat) : Nat := if k.testBit v then k - 2 ^ v else k
theorem aj_rmI : ∀ k, k < 64 → ∀ v, v < 6 → nI k &&& (((1 : Int32) <<< (nI v &&& 31)) ^^^ (-1)) = nI (aj_rm k v) := by decide +kernel
theorem aj_rm_lt : ∀ k, k < 64 → ∀ v, v < 6 → aj_rm k v < 64 := by decide +kernel
theorem aj_rm_bit : ∀ k, k < 64 → ∀ v, v < 6 → ∀ w, w < 6 → (aj_rm k v).testBit w = (k.testBit w && !decide (w = v)) := by decide +kernel
def aj_sub (a b : Nat) : Prop := ∀ w, w < 6 → a.testBit w = true → b.testBit w = true
theorem aj_hi {b i : Nat} (hb : b < 64) (hi : 6 ≤ i) : b.testBit i = false :=
  Nat.testBit_lt_two_pow (Nat.lt_of_lt_of_le hb (Nat.pow_le_pow_right (by decide) hi : 2 ^ 6 ≤ 2 ^ i))
theorem aj_and_sub {a b : Nat} (hb : b < 64) : a &&& b = b ↔ aj_sub b a := by
  constructor
  · intro h w _ hw
    have e := congrArg (fun x => Nat.testBit x w) h
    simp only [Nat.testBit_and, hw, Bool.and_true] at e
    exact e
  · intro h
    apply Nat.eq_of_testBit_eq
    intro i
    rw [Nat.testBit_and]
    rcases Nat.lt_or_ge i 6 with hi | hi
    · cases hb' : b.testBit i
      · simp
      · simp [h i hi hb']
    · simp [aj_hi hb hi]
theorem aj_ext {a b : Nat} (ha : a < 64) (hb : b < 64) (h : ∀ w, w < 6 → a.testBit w = b.testBit w) : a = b := by
  apply Nat.eq_of_testBit_eq
  intro i
  rcases Nat.lt_or_ge i 6 with hi | hi
  · exact h i hi
  · rw [aj_hi ha hi, aj_hi hb hi]
def aj_cov (m : Nat → Nat) : Nat → Nat
  | 0 => 0
  | n + 1 => aj_cov m n ||| m n
theorem aj_cov_lt {m : Nat → Nat} {k : Nat} : ∀ n, (∀ a, a < n → m a < 2 ^ k) → aj_cov m n < 2 ^ k
  | 0, _ => Nat.two_pow_pos k
  | n + 1, h => Nat.or_lt_two_pow (aj_cov_lt n fun a ha => h a (by omega)) (h n (by omega))
def aj_nr (m : Nat → Nat) (S v : Nat) : Nat → Nat
  | 0 => 0
  | n + 1 => if (m n).testBit v = true then aj_nr m S v n ||| (m n &&& S) else aj_nr m S v n
theorem aj_nr_lt {m : Nat → Nat} {S v : Nat} (hS : S < 64) : ∀ n, aj_nr m S v n < 64
  | 0 => by show 0 < 64; decide
  | n + 1 => by
    rw [aj_nr]
    split
    · exact Nat.or_lt_two_pow (n := 6) (aj_nr_lt hS n) (Nat.and_lt_two_pow (n := 6) (m n) hS)
    · exact aj_nr_lt hS n
theorem aj_nr_bit {m : Nat → Nat} {S v w : Nat} : ∀ n, (aj_nr m S v n).testBit w = true ↔ ∃ a, a < n ∧ (m a).testBit v = true ∧ (m a).testBit w = true ∧ S.testBit w = true
  | 0 => by
    rw [aj_nr]
    constructor
    · intro h
      rw [Nat.zero_testBit] at h
      exact absurd h (by decide)
    · intro ⟨a, h, _⟩
      exact absurd h (Nat.not_lt_zero a)
  | n + 1 => by
    rw [aj_nr]
    constructor
    · intro h
      split at h
      · rename_i hv
        rw [Nat.testBit_or, Bool.or_eq_true] at h
        rcases h with h | h
        · obtain ⟨a, h1, h2⟩ := (aj_nr_bit n).mp h
          exact ⟨a, by omega, h2⟩
        · rw [Nat.testBit_and, Bool.and_eq_true] at h
          exact ⟨n, by omega, hv, h.1, h.2⟩
      · obtain ⟨a, h1, h2⟩ := (aj_nr_bit n).mp h
        exact ⟨a, by omega, h2⟩
    · intro ⟨a, h1, h2, h3, h4⟩
      by_cases e : a = n
      · subst e
        rw [if_pos h2, Nat.testBit_or, Nat.testBit_and, h3, h4]
        simp
      · have := (aj_nr_bit (m := m) (S := S) (v := v) (w := w) n).mpr ⟨a, by omega, h2, h3, h4⟩
        split
        · rw [Nat.testBit_or, this]
          simp
        · exact this
def aj_cl (m : Nat → Nat) (n S v : Nat) : Prop := ∃ a, a < n ∧ m a &&& aj_nr m S v n = aj_nr m S v n
theorem aj_cl_mono {m : Nat → Nat} {n S K v : Nat} (hS : S < 64) (hK : K < 64) (h : aj_sub S K) (hc : aj_cl m n K v) : aj_cl m n S v := by
  obtain ⟨a, ha, e⟩ := hc
  refine ⟨a, ha, (aj_and_sub (aj_nr_lt hS n)).mpr fun w hw hb => ?_⟩
  obtain ⟨b, h1, h2, h3, h4⟩ := (aj_nr_bit n).mp hb
  exact (aj_and_sub (aj_nr_lt hK n)).mp e w hw ((aj_nr_bit n).mpr ⟨b, h1, h2, h3, h w hw h4⟩)
def aj_stk (m : Nat → Nat) (n S : Nat) : Prop := ∀ v, v < 6 → S.testBit v = true → ¬ aj_cl m n S v
def aj_top (m : Nat → Nat) (n K : Nat) : Prop := K < 64 ∧ aj_sub K (aj_cov m n) ∧ ∀ S, S < 64 → aj_sub S (aj_cov m n) → aj_stk m n S → aj_sub S K
def aj_res (m : Nat → Nat) (n K : Nat) : Prop := aj_top m n K ∧ aj_stk m n K
theorem aj_top0 {m : Nat → Nat} {n : Nat} (h : aj_cov m n < 64) : aj_top m n (aj_cov m n) := ⟨h, fun _ _ h => h, fun _ _ h _ => h⟩
theorem aj_top_rm {m : Nat → Nat} {n K v : Nat} (h : aj_top m n K) (hv : v < 6) (hc : aj_cl m n K v) : aj_top m n (aj_rm K v) := by
  obtain ⟨h1, h2, h3⟩ := h
  refine ⟨aj_rm_lt K h1 v hv, fun w hw hb => ?_, fun S hS hSC hst w hw hb => ?_⟩
  · rw [aj_rm_bit K h1 v hv w hw, Bool.and_eq_true] at hb
    exact h2 w hw hb.1
  · have hs := h3 S hS hSC hst
    rw [aj_rm_bit K h1 v hv w hw, Bool.and_eq_true]
    refine ⟨hs w hw hb, ?_⟩
    by_cases e : w = v
    · subst e
      exact absurd (aj_cl_mono hS h1 hs hc) (hst w hw hb)
    · simp [e]
theorem aj_res_un {m : Nat → Nat} {n K U : Nat} (h : aj_res m n K) (hU : U < 64) (hb : ∀ w, w < 6 → (U.testBit w = true ↔ ∃ S, S < 64 ∧ (aj_sub S (aj_cov m n) ∧ aj_stk m n S) ∧ S.testBit w = true)) : U = K := by
  apply aj_ext hU h.1.1
  intro w hw
  have e : U.testBit w = true ↔ K.testBit w = true := by
    rw [hb w hw]
    constructor
    · intro ⟨S, h1, h2, h3⟩
      exact h.1.2.2 S h1 h2.1 h2.2 w hw h3
    · intro hk
      exact ⟨K, h.1.1, ⟨h.1.2.1, h.2⟩, hk⟩
  cases h1 : U.testBit w <;> cases h2 : K.testBit w <;> simp [h1, h2] at e ⊢
/-! the number of bits; the peeling's two loops -/
def aj_sz (m : Nat) : Nat → Nat
  | 0 => 0
  | v + 1 => aj_sz m v + (m.testBit v).toNat
theorem aj_sz_le (m : Nat) : ∀ v, aj_sz m v ≤ v
  | 0 => Nat.le_refl 0
  | v + 1 => by
    have := aj_sz_le m v
    rw [aj_sz]
    cases m.testBit v <;> simp <;> omega
theorem aj_sz_mono (m : Nat) {a : Nat} : ∀ b, a ≤ b → aj_sz m a ≤ aj_sz m b
  | 0, h => by rw [Nat.le_zero.mp h]; exact Nat.le_refl _
  | b + 1, h => by
    by_cases e : a = b + 1
    · subst e
      exact Nat.le_refl _
    · have := aj_sz_mono m (a := a) b (by omega)
      rw [aj_sz]
      omega
theorem aj_sz_rm : ∀ k, k < 64 → ∀ v, v < 6 → k.testBit v = true → aj_sz (aj_rm k v) 6 < aj_sz k 6 := by decide +kernel
theorem aj_sz_0 : ∀ k, k < 64 → aj_sz k 6 = 0 → k = 0 := by decide +kernel
theorem aj_sz_1 : ∀ k, k < 64 → 0 < k → 0 < aj_sz k 6 := by decide +kernel
def aj_inn (m : Nat → Nat) (n K0 v K : Nat) : Prop := aj_top m n K ∧ ((K = K0 ∧ ∀ w, w < v → K0.testBit w = true → ¬ aj_cl m n K0 w) ∨ (aj_sz K 6 < aj_sz K0 6 ∧ ¬ aj_stk m n K0))
def aj_out (m : Nat → Nat) (n i K : Nat) : Prop := aj_top m n K ∧ (aj_stk m n K ∨ aj_sz K 6 + i ≤ 6)
theorem aj_inn0 {m : Nat → Nat} {n K : Nat} (h : aj_top m n K) : aj_inn m n K 0 K := ⟨h, Or.inl ⟨rfl, fun w hw => absurd hw (Nat.not_lt_zero w)⟩⟩
theorem aj_inn_no {m : Nat → Nat} {n K0 v K : Nat} (h : aj_inn m n K0 v K) (hn : K.testBit v = true → ¬ aj_cl m n K v) : aj_inn m n K0 (v + 1) K := by
  refine ⟨h.1, ?_⟩
  rcases h.2 with ⟨e, h2⟩ | h2
  · subst e
    exact Or.inl ⟨rfl, lt_s h2 hn⟩
  · exact Or.inr h2
theorem aj_inn_yes {m : Nat → Nat} {n K0 v K : Nat} (h : aj_inn m n K0 v K) (hv : v < 6) (hb : K.testBit v = true) (hc : aj_cl m n K v) : aj_inn m n K0 (v + 1) (aj_rm K v) := by
  refine ⟨aj_top_rm h.1 hv hc, Or.inr ?_⟩
  have hs := aj_sz_rm K h.1.1 v hv hb
  rcases h.2 with ⟨e, h2⟩ | h2
  · subst e
    exact ⟨hs, fun z => z v hv hb hc⟩
  · exact ⟨Nat.lt_trans hs h2.1, h2.2⟩
theorem aj_out_s {m : Nat → Nat} {n i K0 K : Nat} (ho : aj_out m n i K0) (h : aj_inn m n K0 6 K) : aj_out m n (i + 1) K := by
  refine ⟨h.1, ?_⟩
  rcases h.2 with ⟨e, h2⟩ | ⟨h1, h2⟩
  · subst e
    exact Or.inl h2
  · rcases ho.2 with h3 | h3
    · exact absurd h3 h2
    · exact Or.inr (by omega)
theorem aj_out0 {m : Nat → Nat} {n : Nat} (h : aj_cov m n < 64) : aj_out m n 0 (aj_cov m n) := ⟨aj_top0 h, Or.inr (aj_sz_le _ 6)⟩
theorem aj_out6 {m : Nat → Nat} {n K : Nat} (h : aj_out m n 6 K) : aj_res m n K := by
  refine ⟨h.1, ?_⟩
  rcases h.2 with h2 | h2
  · exact h2
  · have := aj_sz_0 K h.1.1 (by omega)
    subst this
    intro v hv hb
    rw [Nat.zero_testBit] at hb
    exact absurd hb (by decide)
/-! values, keys, and the turn between the two orders of a row's digits -/
def aj_val (c v : Nat) : Nat := c / 2 ^ (10 - 2 * v) % 4
theorem aj_val_lt (c v : Nat) : aj_val c v < 4 := Nat.mod_lt _ (by decide)
def aj_kx (m c : Nat) : Nat → Nat
  | 0 => 0
  | v + 1 => if m.testBit v = true then aj_kx m c v + aj_val c v * 4 ^ aj_sz m v else aj_kx m c v
def aj_ky (m c : Nat) : Nat → Nat
  | 0 => 0
  | v + 1 => if m.testBit v = true then aj_ky m c v * 4 + aj_val c v else aj_ky m c v
def aj_rv : Nat → Nat → Nat
  | 0, _ => 0
  | k + 1, x => aj_rv k (x % 4 ^ k) * 4 + x / 4 ^ k
def aj_pm (k x : Nat) : Nat := if x < 4 ^ k then aj_rv k x else x
theorem aj_sz_t {m v : Nat} (h : m.testBit v = true) : aj_sz m (v + 1) = aj_sz m v + 1 := by rw [aj_sz, h]; rfl
theorem aj_sz_f {m v : Nat} (h : ¬ m.testBit v = true) : aj_sz m (v + 1) = aj_sz m v := by
  rw [aj_sz, Bool.eq_false_iff.mpr h]; rfl
theorem aj_kx_lt (m c : Nat) : ∀ v, aj_kx m c v < 4 ^ aj_sz m v
  | 0 => by show 0 < 4 ^ 0; decide
  | v + 1 => by
    have h := aj_kx_lt m c v
    have hd := aj_val_lt c v
    rw [aj_kx]
    by_cases hb : m.testBit v = true
    · rw [if_pos hb, aj_sz_t hb, Nat.pow_succ]
      have : aj_val c v * 4 ^ aj_sz m v ≤ 3 * 4 ^ aj_sz m v := Nat.mul_le_mul_right _ (by omega)
      omega
    · rw [if_neg hb, aj_sz_f hb]
      exact h
theorem aj_ky_rv (m c : Nat) : ∀ v, aj_ky m c v = aj_rv (aj_sz m v) (aj_kx m c v)
  | 0 => rfl
  | v + 1 => by
    have h := aj_ky_rv m c v
    have hl := aj_kx_lt m c v
    rw [aj_kx, aj_ky]
    by_cases hb : m.testBit v = true
    · have hp : 0 < 4 ^ aj_sz m v := Nat.pow_pos (by decide)
      rw [if_pos hb, if_pos hb, aj_sz_t hb, aj_rv, Nat.add_mul_mod_self_right, Nat.mod_eq_of_lt hl, Nat.add_mul_div_right _ _ hp, Nat.div_eq_of_lt hl, h, Nat.zero_add]
    · rw [if_neg hb, if_neg hb, aj_sz_f hb]
      exact h
theorem aj_ky_pm (m c : Nat) : aj_ky m c 6 = aj_pm (aj_sz m 6) (aj_kx m c 6) := by
  rw [aj_pm, if_pos (aj_kx_lt m c 6)]
  exact aj_ky_rv m c 6
theorem aj_pm_in : ∀ k, k < 4 → ∀ x, x < 64 → aj_pm k x < 64 ∧ aj_pm k (aj_pm k x) = x := by decide +kernel
theorem aj_p4 {k : Nat} (h : k < 4) : 4 ^ k ≤ 64 := Nat.pow_le_pow_right (n := 4) (by decide) (show k ≤ 3 by omega)
theorem aj_kx_64 {m c : Nat} (h : aj_sz m 6 < 4) : aj_kx m c 6 < 64 := Nat.lt_of_lt_of_le (aj_kx_lt m c 6) (aj_p4 h)
theorem aj_ky_64 {m c : Nat} (h : aj_sz m 6 < 4) : aj_ky m c 6 < 64 := by
  rw [aj_ky_pm]
  exact (aj_pm_in _ h _ (aj_kx_64 h)).1
theorem aj_pm_inj {k x y : Nat} (hk : k < 4) (hx : x < 64) (hy : y < 64) (h : aj_pm k x = aj_pm k y) : x = y := by
  rw [← (aj_pm_in k hk x hx).2, h, (aj_pm_in k hk y hy).2]
/-! counting -/
def aj_cn (f : Nat → Int32) : Nat → Nat
  | 0 => 0
  | n + 1 => aj_cn f n + (if f n = 0 then 0 else 1)
theorem aj_cn_le (f : Nat → Int32) : ∀ n, aj_cn f n ≤ n
  | 0 => Nat.le_refl 0
  | n + 1 => by
    have := aj_cn_le f n
    rw [aj_cn]
    split <;> omega
theorem aj_cn_z {f : Nat → Int32} {n : Nat} (h : f n = 0) : aj_cn f (n + 1) = aj_cn f n := by rw [aj_cn, if_pos h]; rfl
theorem aj_cn_p {f : Nat → Int32} {n : Nat} (h : ¬ f n = 0) : aj_cn f (n + 1) = aj_cn f n + 1 := by rw [aj_cn, if_neg h]
theorem aj_cn_congr {f g : Nat → Int32} : ∀ n, (∀ i, i < n → (f i = 0 ↔ g i = 0)) → aj_cn f n = aj_cn g n
  | 0, _ => rfl
  | n + 1, h => by
    have e := aj_cn_congr n fun i hi => h i (by omega)
    have hn := h n (by omega)
    by_cases z : f n = 0
    · rw [aj_cn_z z, aj_cn_z (hn.mp z), e]
    · rw [aj_cn_p z, aj_cn_p (fun y => z (hn.mpr y)), e]
theorem aj_cn_cp (f : Nat → Int32) : ∀ n, aj_cn f n = (List.range n).countP (fun i => !decide (f i = 0))
  | 0 => rfl
  | n + 1 => by
    rw [List.range_succ, List.countP_append, aj_cn, aj_cn_cp f n]
    by_cases h : f n = 0 <;> simp [h]
theorem aj_perm : ∀ k, k < 4 → List.Perm ((List.range 64).map (aj_pm k)) (List.range 64) := by decide +kernel
theorem aj_cn_pm (f : Nat → Int32) {k : Nat} (hk : k < 4) : aj_cn (fun i => f (aj_pm k i)) 64 = aj_cn f 64 := by
  have e := (aj_perm k hk).countP_eq (fun i => !decide (f i = 0))
  rw [List.countP_map] at e
  rw [aj_cn_cp, aj_cn_cp f]
  exact e
end
section
/-! answers, stored rows in the two orders, what READY holds -/
def aj_unc (m : Nat → Nat) (n c : Nat) : Prop := ∀ v, v < 6 → (aj_cov m n).testBit v = false → aj_val c v = 0
def aj_ans (m : Nat → Nat) (n : Nat) (sx : Nat → Int32) (c : Nat) : Prop := aj_unc m n c ∧ ∀ a, a < n → ¬ sx (a * 64 + aj_kx (m a) c 6) = 0
def aj_anY (m : Nat → Nat) (n : Nat) (sy : Nat → Int32) (c : Nat) : Prop := aj_unc m n c ∧ ∀ a, a < n → ¬ sy (a * 64 + aj_ky (m a) c 6) = 0
def aj_scp (m : Nat → Nat) (V n : Nat) (sc : Nat → Int32) : Prop := ∀ a, a < n → sc a = nI (m a) ∧ 0 < m a ∧ m a < 2 ^ V ∧ aj_sz (m a) 6 < 4
def aj_sto (m : Nat → Nat) (n : Nat) (sx sy : Nat → Int32) : Prop := (∀ a, a < n → ∀ x, x < 64 → sx (a * 64 + x) = sy (a * 64 + aj_pm (aj_sz (m a) 6) x)) ∧ ∀ a, n ≤ a → ∀ x, x < 64 → sx (a * 64 + x) = 0 ∧ sy (a * 64 + x) = 0
def aj_rdA (m : Nat → Nat) (n : Nat) (sx an : Nat → Int32) (k : Nat) : Prop := ∀ c, c < k → (an c = 0 ↔ ¬ aj_ans m n sx c)
def aj_rdL (m : Nat → Nat) (n : Nat) (sx lv : Nat → Int32) (k : Nat) : Prop := ∀ a, a < n → ∀ x, x < 64 → (lv (a * 64 + x) = 0 ↔ ¬ ∃ c, c < k ∧ aj_ans m n sx c ∧ aj_kx (m a) c 6 = x)
def aj_pos (V : Nat) (ps : Nat → Int32) : Prop := ∀ i, i < 2 → ps i = -1 ∨ ∃ p, p ≤ 4096 ∧ p % 2 ^ (12 - 2 * V) = 0 ∧ ps i = nI p
theorem aj_p2 {V : Nat} (h : V ≤ 6) : 2 ^ V ≤ 64 := Nat.pow_le_pow_right (n := 2) (by decide) h
theorem aj_ansXY {m : Nat → Nat} {V n : Nat} {sc sx sy : Nat → Int32} (hs : aj_scp m V n sc) (h : aj_sto m n sx sy) (c : Nat) : aj_ans m n sx c ↔ aj_anY m n sy c := by
  have e : ∀ a, a < n → sx (a * 64 + aj_kx (m a) c 6) = sy (a * 64 + aj_ky (m a) c 6) := fun a ha => by
    rw [aj_ky_pm]
    exact h.1 a ha _ (aj_kx_64 (hs a ha).2.2.2)
  constructor
  · exact fun ⟨h1, h2⟩ => ⟨h1, fun a ha => by rw [← e a ha]; exact h2 a ha⟩
  · exact fun ⟨h1, h2⟩ => ⟨h1, fun a ha => by rw [e a ha]; exact h2 a ha⟩
theorem aj_unc_mod {m : Nat → Nat} {V n c : Nat} (h3 : 3 ≤ V) (h6 : V ≤ 6) (hm : ∀ a, a < n → m a < 2 ^ V) (h : aj_unc m n c) : c % 2 ^ (12 - 2 * V) = 0 := by
  have hz : ∀ v, V ≤ v → v < 6 → aj_val c v = 0 := fun v h1 h2 =>
    h v h2 (Nat.testBit_lt_two_pow (Nat.lt_of_lt_of_le (aj_cov_lt n hm) (Nat.pow_le_pow_right (by decide) h1)))
  have e : V = 3 ∨ V = 4 ∨ V = 5 ∨ V = 6 := by omega
  rcases e with e | e | e | e
  · subst e
    have a1 : c / 16 % 4 = 0 := hz 3 (by omega) (by omega)
    have a2 : c / 4 % 4 = 0 := hz 4 (by omega) (by omega)
    have a3 : c / 1 % 4 = 0 := hz 5 (by omega) (by omega)
    show c % 64 = 0
    omega
  · subst e
    have a2 : c / 4 % 4 = 0 := hz 4 (by omega) (by omega)
    have a3 : c / 1 % 4 = 0 := hz 5 (by omega) (by omega)
    show c % 16 = 0
    omega
  · subst e
    have a3 : c / 1 % 4 = 0 := hz 5 (by omega) (by omega)
    show c % 4 = 0
    omega
  · subst e
    show c % 1 = 0
    omega
/-! the least answer from F on -/
def aj_fst (an : Nat → Int32) (F q : Nat) : Prop := F ≤ q ∧ q ≤ 4096 ∧ (∀ c, F ≤ c → c < q → an c = 0) ∧ (q < 4096 → ¬ an q = 0)
def aj_out1 (q : Nat) : Int32 := if q < 4096 then 1 else -8
theorem aj_out1_t {q : Nat} (h : q < 4096) : aj_out1 q = 1 := if_pos h
theorem aj_out1_f : aj_out1 4096 = -8 := rfl
/-! a row put in or taken out on both sides -/
theorem aj_sto_upd {m : Nat → Nat} {V n a x : Nat} {sc sx sy : Nat → Int32} (z : Int32) (hs : aj_scp m V n sc) (h : aj_sto m n sx sy) (ha : a < n) (hx : x < 64) : aj_sto m n (upd sx (a * 64 + x) z) (upd sy (a * 64 + aj_pm (aj_sz (m a) 6) x) z) := by
  have hk := (hs a ha).2.2.2
  have hp := (aj_pm_in _ hk x hx).1
  refine ⟨fun b hb y hy => ?_, fun b hb y hy => ?_⟩
  · have hq := (aj_pm_in _ (hs b hb).2.2.2 y hy).1
    by_cases e : b = a
    · subst e
      by_cases e2 : y = x
      · subst e2
        rw [pk_us, pk_us]
      · rw [pk_un (by omega), pk_un, h.1 b hb y hy]
        intro e3
        exact e2 (aj_pm_inj hk hy hx (by omega))
    · rw [pk_un (by omega), pk_un (by omega), h.1 b hb y hy]
  · rw [pk_un (by omega), pk_un (by omega)]
    exact h.2 b hb y hy
theorem aj_sto_cn {m : Nat → Nat} {V n a : Nat} {sc sx sy : Nat → Int32} (hs : aj_scp m V n sc) (h : aj_sto m n sx sy) (ha : a < n) : aj_cn (fun i => sx (a * 64 + i)) 64 = aj_cn (fun i => sy (a * 64 + i)) 64 := by
  rw [← aj_cn_pm (fun i => sy (a * 64 + i)) (hs a ha).2.2.2]
  exact aj_cn_congr 64 fun i hi => by
    rw [h.1 a ha i hi]
def aj_mk (m : Nat → Nat) (n : Nat) (s : Nat) : Nat → Nat := fun a => if a = n then s else m a
theorem aj_mk_n {m : Nat → Nat} {n s : Nat} : aj_mk m n s n = s := if_pos rfl
theorem aj_mk_lt {m : Nat → Nat} {n s a : Nat} (h : a < n) : aj_mk m n s a = m a := if_neg (by omega)
theorem aj_scp_add {m : Nat → Nat} {V n s : Nat} {sc : Nat → Int32} (hs : aj_scp m V n sc) (h0 : 0 < s) (h1 : s < 2 ^ V) (h2 : aj_sz s 6 < 4) : aj_scp (aj_mk m n s) V (n + 1) (upd sc n (nI s)) := by
  intro a ha
  by_cases e : a = n
  · subst e
    rw [aj_mk_n, pk_us]
    exact ⟨rfl, h0, h1, h2⟩
  · rw [aj_mk_lt (by omega), pk_un e]
    exact hs a (by omega)
theorem aj_sto_add {m : Nat → Nat} {n s : Nat} {sx sy : Nat → Int32} (h : aj_sto m n sx sy) (h2 : aj_sz s 6 < 4) : aj_sto (aj_mk m n s) (n + 1) sx sy := by
  refine ⟨fun a ha x hx => ?_, fun a ha => h.2 a (by omega)⟩
  by_cases e : a = n
  · subst e
    rw [aj_mk_n, (h.2 a (Nat.le_refl a) x hx).1, (h.2 a (Nat.le_refl a) _ (aj_pm_in _ h2 x hx).1).2]
  · rw [aj_mk_lt (by omega)]
    exact h.1 a (by omega) x hx
/-! rows as they are given -/
theorem aj_or2 : ∀ x, x < 4 → ∀ y, y < 4 → nI x ||| (nI y <<< ((2 : Int32) &&& 31)) = nI (x + y * 4) := by decide +kernel
theorem aj_or3 : ∀ x, x < 16 → ∀ y, y < 4 → nI x ||| (nI y <<< ((4 : Int32) &&& 31)) = nI (x + y * 16) := by decide +kernel
theorem aj_pm1 : ∀ x, x < 4 → aj_pm 1 x = x := by decide +kernel
theorem aj_pm2 : ∀ x, x < 4 → ∀ y, y < 4 → aj_pm 2 (x + y * 4) = x * 4 + y := by decide +kernel
theorem aj_pm3 : ∀ x, x < 4 → ∀ y, y < 4 → ∀ z, z < 4 → aj_pm 3 (x + y * 4 + z * 16) = x * 16 + y * 4 + z := by decide +kernel
theorem aj_orK : ∀ k, k < 3 → ∀ x, x < 4 ^ k → ∀ y, y < 4 → nI x ||| (nI y <<< (nI (2 * k) &&& 31)) = nI (x + y * 4 ^ k) := by decide +kernel
/-! a value out of an assignment -/
theorem aj_shc : ∀ v, v < 6 → (((10 : Int32) - nI v * 2 &&& 31).toBitVec.smod 32).toNat = 10 - 2 * v := by decide +kernel
theorem aj_shd : ∀ v, v < 6 → (((10 : Int32) - 2 * nI v &&& 31).toBitVec.smod 32).toNat = 10 - 2 * v := by decide +kernel
theorem aj_vX {c v : Nat} (hc : c < 4096) (hv : v < 6) : (nI c >>> ((10 : Int32) - nI v * 2 &&& 31)) &&& 3 = nI (aj_val c v) := by
  rw [pk_shrN (by omega) _ _ (aj_shc v hv), pk_andN (Nat.lt_of_le_of_lt (Nat.div_le_self _ _) (by omega)) 2 (by decide)]
  rfl
theorem aj_vY {c v : Nat} (hc : c < 4096) (hv : v < 6) : (nI c >>> ((10 : Int32) - 2 * nI v &&& 31)) &&& 3 = nI (aj_val c v) := by
  rw [pk_shrN (by omega) _ _ (aj_shd v hv), pk_andN (Nat.lt_of_le_of_lt (Nat.div_le_self _ _) (by omega)) 2 (by decide)]
  rfl
end
section
/-! counting and sums over naturals -/
def ap_ct (p : Nat → Bool) : Nat → Nat
  | 0 => 0
  | k + 1 => ap_ct p k + (p k).toNat
def ap_sm (f : Nat → Nat) : Nat → Nat
  | 0 => 0
  | k + 1 => ap_sm f k + f k
theorem ap_b1 (b : Bool) : b.toNat ≤ 1 := by cases b <;> decide
theorem ap_ct_le {p q : Nat → Bool} : ∀ k, (∀ i, i < k → p i = true → q i = true) → ap_ct p k ≤ ap_ct q k
  | 0, _ => Nat.le_refl 0
  | k + 1, h => by
    have e := ap_ct_le k fun i hi => h i (by omega)
    have hk := h k (by omega)
    rw [ap_ct, ap_ct]
    cases hp : p k
    · have := ap_b1 (q k)
      simp
      omega
    · rw [hk hp]
      omega
theorem ap_ct_eq {p q : Nat → Bool} (k : Nat) (h : ∀ i, i < k → p i = q i) : ap_ct p k = ap_ct q k :=
  Nat.le_antisymm (ap_ct_le k fun i hi hp => by rw [← h i hi]; exact hp) (ap_ct_le k fun i hi hp => by rw [h i hi]; exact hp)
theorem ap_ct_lt {p q : Nat → Bool} : ∀ k, (∀ i, i < k → p i = true → q i = true) → ∀ y, y < k → p y = false → q y = true → ap_ct p k + 1 ≤ ap_ct q k
  | 0, _, y, hy, _, _ => absurd hy (Nat.not_lt_zero y)
  | k + 1, h, y, hy, h1, h2 => by
    rw [ap_ct, ap_ct]
    by_cases e : y = k
    · subst e
      have := ap_ct_le y fun i hi => h i (by omega)
      rw [h1, h2]
      show _ + 0 + 1 ≤ _ + 1
      omega
    · have := ap_ct_lt k (fun i hi => h i (by omega)) y (by omega) h1 h2
      have hk := h k (by omega)
      cases hp : p k
      · have := ap_b1 (q k)
        simp
        omega
      · rw [hk hp]
        omega
theorem ap_ct_add {p q : Nat → Bool} : ∀ k, ∀ y, y < k → p y = false → q y = true → (∀ i, i ≠ y → q i = p i) → ap_ct q k = ap_ct p k + 1
  | 0, y, hy, _, _, _ => absurd hy (Nat.not_lt_zero y)
  | k + 1, y, hy, h1, h2, h => by
    rw [ap_ct, ap_ct]
    by_cases e : y = k
    · subst e
      rw [h1, h2, ap_ct_eq y fun i hi => h i (by omega)]
      rfl
    · rw [ap_ct_add k y (by omega) h1 h2 h, h k (by omega)]
      omega
theorem ap_ct_all {p : Nat → Bool} : ∀ k, (∀ i, i < k → p i = true) → ap_ct p k = k
  | 0, _ => rfl
  | k + 1, h => by
    rw [ap_ct, ap_ct_all k fun i hi => h i (by omega), h k (by omega)]
    rfl
theorem ap_ct_not {p : Nat → Bool} : ∀ k, ap_ct p k + ap_ct (fun i => !p i) k = k
  | 0 => rfl
  | k + 1 => by
    have := ap_ct_not (p := p) k
    rw [ap_ct, ap_ct]
    cases p k
    · show _ + 0 + (_ + 1) = _
      omega
    · show _ + 1 + (_ + 0) = _
      omega
theorem ap_ct_0 {p : Nat → Bool} : ∀ k, (∀ i, i < k → p i = false) → ap_ct p k = 0
  | 0, _ => rfl
  | k + 1, h => by
    rw [ap_ct, ap_ct_0 k fun i hi => h i (by omega), h k (by omega)]
    rfl
theorem ap_ct_pos {p : Nat → Bool} : ∀ k, 0 < ap_ct p k → ∃ i, i < k ∧ p i = true
  | 0, h => (Nat.lt_irrefl 0 h).elim
  | k + 1, h => by
    rw [ap_ct] at h
    cases hp : p k
    · rw [hp] at h
      obtain ⟨i, h1, h2⟩ := ap_ct_pos k h
      exact ⟨i, by omega, h2⟩
    · exact ⟨k, by omega, hp⟩
theorem ap_pos_ct {p : Nat → Bool} (k i : Nat) (hi : i < k) (h : p i = true) : 0 < ap_ct p k :=
  Nat.lt_of_lt_of_le (Nat.lt_of_lt_of_le (Nat.succ_pos _) (ap_ct_lt (p := fun _ => false) k (fun _ _ z => absurd z (by decide)) i hi rfl h)) (Nat.le_refl _)
theorem ap_ct_u {p q : Nat → Bool} : ∀ k, (∀ b c, b < k → c < k → p b = true → q b = false → p c = true → q c = false → b = c) → ap_ct p k ≤ ap_ct (fun i => p i && q i) k + 1
  | 0, _ => Nat.zero_le _
  | k + 1, h => by
    rw [ap_ct, ap_ct]
    cases hp : p k
    · have := ap_ct_u k fun b c hb hc => h b c (by omega) (by omega)
      simp
      omega
    · cases hq : q k
      · have : ap_ct p k ≤ ap_ct (fun i => p i && q i) k := ap_ct_le k fun i hi z => by
          cases hqi : q i
          · have := h i k (by omega) (by omega) z hqi hp hq
            omega
          · rw [z]
            rfl
        simp
        omega
      · have := ap_ct_u k fun b c hb hc => h b c (by omega) (by omega)
        simp
        omega
theorem ap_sm_le {f g : Nat → Nat} : ∀ k, (∀ i, i < k → f i ≤ g i) → ap_sm f k ≤ ap_sm g k
  | 0, _ => Nat.le_refl 0
  | k + 1, h => Nat.add_le_add (ap_sm_le k fun i hi => h i (by omega)) (h k (by omega))
theorem ap_sm_eq {f g : Nat → Nat} : ∀ k, (∀ i, i < k → f i = g i) → ap_sm f k = ap_sm g k
  | 0, _ => rfl
  | k + 1, h => by rw [ap_sm, ap_sm, ap_sm_eq k fun i hi => h i (by omega), h k (by omega)]
theorem ap_sm_add {f g : Nat → Nat} : ∀ k, ap_sm (fun i => f i + g i) k = ap_sm f k + ap_sm g k
  | 0 => rfl
  | k + 1 => by
    rw [ap_sm, ap_sm, ap_sm, ap_sm_add k]
    omega
theorem ap_sm_0 : ∀ k, ap_sm (fun _ => 0) k = 0
  | 0 => rfl
  | k + 1 => by rw [ap_sm, ap_sm_0 k]
theorem ap_sm_ct {p : Nat → Bool} : ∀ k, ap_sm (fun i => (p i).toNat) k = ap_ct p k
  | 0 => rfl
  | k + 1 => by rw [ap_sm, ap_ct, ap_sm_ct k]
theorem ap_sm_sw {f : Nat → Nat → Nat} (k : Nat) : ∀ l, ap_sm (fun i => ap_sm (fun j => f i j) k) l = ap_sm (fun j => ap_sm (fun i => f i j) l) k
  | 0 => (ap_sm_0 k).symm
  | l + 1 => by
    rw [ap_sm, ap_sm_sw k l, ← ap_sm_add]
    rfl
/-- a number up to 6 as a sum over thresholds -/
theorem ap_thr : ∀ w, w < 7 → ap_sm (fun t => (decide (t < w)).toNat) 6 = w := by decide +kernel
theorem ap_sz_ct (m : Nat) : ∀ k, aj_sz m k = ap_ct m.testBit k
  | 0 => rfl
  | k + 1 => by rw [aj_sz, ap_ct, ap_sz_ct m k]
/-- what two atoms share -/
def ap_w (m : Nat → Nat) (a b : Nat) : Nat := aj_sz (m a &&& m b) 6
theorem ap_w_sym (m : Nat → Nat) (a b : Nat) : ap_w m a b = ap_w m b a := by rw [ap_w, ap_w, Nat.and_comm]
theorem ap_w_ct (m : Nat → Nat) (a b : Nat) : ap_w m a b = ap_ct (fun v => (m a).testBit v && (m b).testBit v) 6 := by
  rw [ap_w, ap_sz_ct]
  exact ap_ct_eq 6 fun i _ => Nat.testBit_and _ _ _
theorem ap_w_6 (m : Nat → Nat) (a b : Nat) : ap_w m a b < 7 := by
  have := aj_sz_le (m a &&& m b) 6
  rw [ap_w]
  omega
/-! a forest: rk is 0 at a root, and falls towards it -/
def ap_loo (m par rk : Nat → Nat) (b v : Nat) : Prop := rk b = 0 ∨ (m (par b)).testBit v = false
def ap_for (m : Nat → Nat) (n : Nat) (par rk : Nat → Nat) : Prop := ∀ b, b < n → rk b ≠ 0 → par b < n ∧ rk (par b) < rk b
def ap_uni (m : Nat → Nat) (n : Nat) (par rk : Nat → Nat) (v : Nat) : Prop := ∀ b c, b < n → c < n → (m b).testBit v = true → (m c).testBit v = true → ap_loo m par rk b v → ap_loo m par rk c v → b = c
def ap_inv (m : Nat → Nat) (n K : Nat) (par rk : Nat → Nat) : Prop := ap_for m n par rk ∧ (∀ b, b < n → rk b ≠ 0 → aj_sz K 6 < rk b) ∧ (∀ b, b < n → rk b ≠ 0 → ∀ v, v < 6 → K.testBit v = true → (m b).testBit v = true → (m (par b)).testBit v = true) ∧ ∀ v, v < 6 → K.testBit v = false → ap_uni m n par rk v
theorem ap_root {m : Nat → Nat} {n K : Nat} {par rk : Nat → Nat} (h : ap_inv m n K par rk) : ∀ d a, a < n → rk a ≤ d → ∃ r, r < n ∧ rk r = 0 ∧ ∀ v, v < 6 → K.testBit v = true → (m a).testBit v = true → (m r).testBit v = true := by
  intro d
  induction d with
  | zero => exact fun a ha hr => ⟨a, ha, by omega, fun _ _ _ z => z⟩
  | succ d ih =>
    intro a ha hr
    by_cases z : rk a = 0
    · exact ⟨a, ha, z, fun _ _ _ z => z⟩
    · obtain ⟨h1, h2⟩ := h.1 a ha z
      obtain ⟨r, h3, h4, h5⟩ := ih (par a) h1 (by omega)
      exact ⟨r, h3, h4, fun v hv hk hm => h5 v hv hk (h.2.2.1 a ha z v hv hk hm)⟩
theorem ap_step {m : Nat → Nat} {n K v : Nat} {par rk : Nat → Nat} (h : ap_inv m n K par rk) (hK : K < 64) (hv : v < 6) (hb : K.testBit v = true) (hc : aj_cl m n K v) : ∃ par' rk', ap_inv m n (aj_rm K v) par' rk' := by
  obtain ⟨a0, ha0, e0⟩ := hc
  obtain ⟨a, ha, hr, hs⟩ := ap_root h (rk a0) a0 ha0 (Nat.le_refl _)
  have hw : ∀ b, b < n → (m b).testBit v = true → ∀ u, u < 6 → K.testBit u = true → (m b).testBit u = true → (m a).testBit u = true := fun b hbn h1 u hu h2 h3 =>
    hs u hu h2 ((aj_and_sub (aj_nr_lt hK n)).mp e0 u hu ((aj_nr_bit n).mpr ⟨b, hbn, h1, h3, h2⟩))
  have hz := aj_sz_rm K hK v hv hb
  obtain ⟨i1, i2, i3, i4⟩ := h
  let N : Nat → Bool := fun b => decide (rk b = 0) && (m b).testBit v && !decide (b = a)
  have Nt : ∀ b, N b = true → rk b = 0 ∧ (m b).testBit v = true ∧ b ≠ a := fun b hN => by
    simp only [N, Bool.and_eq_true, decide_eq_true_eq, Bool.not_eq_true', decide_eq_false_iff_not] at hN
    exact ⟨hN.1.1, hN.1.2, hN.2⟩
  have Na : N a = false := by simp [N]
  have Nd : ∀ b, rk b ≠ 0 → N b = false := fun b hb => by simp [N, hb]
  refine ⟨fun b => if N b = true then a else par b, fun b => if N b = true then aj_sz K 6 else rk b, ?_, ?_, ?_, ?_⟩
  · intro b hbn hd
    (try dsimp only at hd ⊢)
    by_cases hN : N b = true
    · rw [if_pos hN, if_pos hN, if_neg (by rw [Na]; decide), hr]
      exact ⟨ha, by omega⟩
    · rw [if_neg hN] at hd
      rw [if_neg hN, if_neg hN]
      obtain ⟨h1, h2⟩ := i1 b hbn hd
      refine ⟨h1, ?_⟩
      split
      · exact i2 b hbn hd
      · exact h2
  · intro b hbn hd
    (try dsimp only at hd ⊢)
    by_cases hN : N b = true
    · rw [if_pos hN]
      exact hz
    · rw [if_neg hN] at hd ⊢
      exact Nat.lt_trans hz (i2 b hbn hd)
  · intro b hbn hd u hu hk hm
    (try dsimp only at hd ⊢)
    have hk' : K.testBit u = true := by
      rw [aj_rm_bit K hK v hv u hu, Bool.and_eq_true] at hk
      exact hk.1
    by_cases hN : N b = true
    · rw [if_pos hN]
      exact hw b hbn (Nt b hN).2.1 u hu hk' hm
    · rw [if_neg hN] at hd ⊢
      exact i3 b hbn hd u hu hk' hm
  · intro u hu hk b c hbn hcn hmb hmc hlb hlc
    have lo : ∀ x, ap_loo m (fun b => if N b = true then a else par b) (fun b => if N b = true then aj_sz K 6 else rk b) x u → (N x = true ∧ (m a).testBit u = false) ∨ (N x = false ∧ ap_loo m par rk x u) := by
      intro x hx
      unfold ap_loo at hx
      (try dsimp only at hx)
      cases hN : N x
      · rw [hN, if_neg (by decide), if_neg (by decide)] at hx
        exact Or.inr ⟨rfl, hx⟩
      · rw [hN, if_pos rfl, if_pos rfl] at hx
        rcases hx with hx | hx
        · omega
        · exact Or.inl ⟨rfl, hx⟩
    by_cases e : u = v
    · subst e
      have key : ∀ x, x < n → (m x).testBit u = true → ap_loo m (fun b => if N b = true then a else par b) (fun b => if N b = true then aj_sz K 6 else rk b) x u → x = a := by
        intro x hxn hmx hx
        rcases lo x hx with ⟨h1, h2⟩ | ⟨h1, h2⟩
        · rw [hw x hxn hmx u hu hb hmx] at h2
          exact absurd h2 (by decide)
        · by_cases z : rk x = 0
          · by_cases z2 : x = a
            · exact z2
            · have : N x = true := by simp [N, z, hmx, z2]
              rw [this] at h1
              exact absurd h1 (by decide)
          · rcases h2 with h2 | h2
            · exact absurd h2 z
            · rw [i3 x hxn z u hu hb hmx] at h2
              exact absurd h2 (by decide)
      rw [key b hbn hmb hlb, key c hcn hmc hlc]
    · have hk' : K.testBit u = false := by
        rw [aj_rm_bit K hK v hv u hu] at hk
        simpa [e] using hk
      have back : ∀ x, ap_loo m (fun b => if N b = true then a else par b) (fun b => if N b = true then aj_sz K 6 else rk b) x u → ap_loo m par rk x u := by
        intro x hx
        rcases lo x hx with ⟨h1, h2⟩ | ⟨h1, h2⟩
        · exact Or.inl (Nt x h1).1
        · exact h2
      exact i4 u hu hk' b c hbn hcn hmb hmc (back b hlb) (back c hlc)
/-- no stuck set but the empty one: a forest in which each variable hangs together -/
theorem ap_build {m : Nat → Nat} {n : Nat} (hns : ∀ K, K < 64 → K ≠ 0 → aj_sub K (aj_cov m n) → ¬ aj_stk m n K) : ∀ d K par rk, aj_sz K 6 ≤ d → K < 64 → aj_sub K (aj_cov m n) → ap_inv m n K par rk → ∃ par' rk', ap_inv m n 0 par' rk' := by
  intro d
  induction d with
  | zero =>
    intro K par rk hd hK _ h
    have := aj_sz_0 K hK (by omega)
    subst this
    exact ⟨par, rk, h⟩
  | succ d ih =>
    intro K par rk hd hK hs h
    by_cases z : K = 0
    · subst z
      exact ⟨par, rk, h⟩
    · have hn := hns K hK z hs
      have : ∃ v, v < 6 ∧ K.testBit v = true ∧ aj_cl m n K v := Classical.byContradiction fun hno => hn fun v hv hb hc => hno ⟨v, hv, hb, hc⟩
      obtain ⟨v, hv, hb, hc⟩ := this
      obtain ⟨p', r', h'⟩ := ap_step h hK hv hb hc
      have hz := aj_sz_rm K hK v hv hb
      exact ih (aj_rm K v) p' r' (by omega) (aj_rm_lt K hK v hv) (fun w hw hx => hs w hw (by
        rw [aj_rm_bit K hK v hv w hw, Bool.and_eq_true] at hx
        exact hx.1)) h'
end
section
theorem ap_cov_bit {m : Nat → Nat} {v : Nat} : ∀ n, (aj_cov m n).testBit v = true ↔ ∃ a, a < n ∧ (m a).testBit v = true
  | 0 => by
    rw [aj_cov, Nat.zero_testBit]
    exact ⟨fun z => absurd z (by decide), fun ⟨a, h, _⟩ => absurd h (Nat.not_lt_zero a)⟩
  | n + 1 => by
    rw [aj_cov, Nat.testBit_or, Bool.or_eq_true, ap_cov_bit n]
    constructor
    · rintro (⟨a, h1, h2⟩ | h)
      · exact ⟨a, by omega, h2⟩
      · exact ⟨n, by omega, h⟩
    · rintro ⟨a, h1, h2⟩
      by_cases e : a = n
      · subst e
        exact Or.inr h2
      · exact Or.inl ⟨a, by omega, h2⟩
/-- occurrences of v among the atoms of I; the sum of them, less one each -/
def ap_oc (m : Nat → Nat) (n : Nat) (I : Nat → Bool) (v : Nat) : Nat := ap_ct (fun a => I a && (m a).testBit v) n
def ap_B (m : Nat → Nat) (n : Nat) (I : Nat → Bool) : Nat := ap_sm (fun v => ap_oc m n I v - 1) 6
def ap_put (I : Nat → Bool) (b : Nat) : Nat → Bool := fun a => I a || decide (a = b)
theorem ap_put_b {I : Nat → Bool} {b : Nat} : ap_put I b b = true := by simp [ap_put]
theorem ap_put_n {I : Nat → Bool} {a b : Nat} (h : a ≠ b) : ap_put I b a = I a := by simp [ap_put, h]
theorem ap_put_s {I : Nat → Bool} {a b : Nat} (h : I a = true) : ap_put I b a = true := by simp [ap_put, h]
theorem ap_oc_put {m : Nat → Nat} {n b v : Nat} {I : Nat → Bool} (hb : b < n) (h : I b = false) : ap_oc m n (ap_put I b) v = ap_oc m n I v + ((m b).testBit v).toNat := by
  cases hm : (m b).testBit v
  · refine ap_ct_eq n fun i _ => ?_
    (try dsimp only)
    by_cases e : i = b
    · subst e
      rw [hm]
      simp
    · rw [ap_put_n e]
  · exact ap_ct_add n b hb (by (try dsimp only); rw [h]; rfl) (by (try dsimp only); rw [ap_put_b, hm]; rfl) fun i hi => by (try dsimp only); rw [ap_put_n hi]
/-- how many variables of b the atoms of I have -/
def ap_sh (m : Nat → Nat) (n : Nat) (I : Nat → Bool) (b : Nat) : Nat := ap_ct (fun v => (m b).testBit v && decide (0 < ap_oc m n I v)) 6
theorem ap_B_put {m : Nat → Nat} {n b : Nat} {I : Nat → Bool} (hb : b < n) (h : I b = false) : ap_B m n (ap_put I b) = ap_B m n I + ap_sh m n I b := by
  rw [ap_B, ap_B, ap_sh, ← ap_sm_ct, ← ap_sm_add]
  refine ap_sm_eq 6 fun v _ => ?_
  (try dsimp only)
  rw [ap_oc_put hb h]
  cases (m b).testBit v
  · simp
  · by_cases z : 0 < ap_oc m n I v
    · simp [z]
      omega
    · have : ap_oc m n I v = 0 := by omega
      simp [this]
theorem ap_oc_pos {m : Nat → Nat} {n a v : Nat} {I : Nat → Bool} (ha : a < n) (h : I a = true) (hm : (m a).testBit v = true) : 0 < ap_oc m n I v :=
  ap_pos_ct n a ha (by (try dsimp only); rw [h, hm]; rfl)
theorem ap_sh_ge {m : Nat → Nat} {n a b : Nat} {I : Nat → Bool} (ha : a < n) (h : I a = true) : ap_w m a b ≤ ap_sh m n I b := by
  rw [ap_w_ct]
  refine ap_ct_le 6 fun v _ hv => ?_
  rw [Bool.and_eq_true] at hv ⊢
  exact ⟨hv.2, decide_eq_true (ap_oc_pos ha h hv.1)⟩
theorem ap_sh_eq {m : Nat → Nat} {n a b : Nat} {I : Nat → Bool} (ha : a < n) (h : I a = true) (e : ap_w m a b = ap_sh m n I b) : ∀ v, v < 6 → (m b).testBit v = true → 0 < ap_oc m n I v → (m a).testBit v = true := by
  intro v hv hm ho
  cases hma : (m a).testBit v
  · have : ap_w m a b + 1 ≤ ap_sh m n I b := by
      rw [ap_w_ct]
      refine ap_ct_lt 6 (fun u _ hu => ?_) v hv (by (try dsimp only); rw [hma]; rfl) (by (try dsimp only); rw [hm]; exact decide_eq_true ho)
      rw [Bool.and_eq_true] at hu ⊢
      exact ⟨hu.2, decide_eq_true (ap_oc_pos ha h hu.1)⟩
    omega
  · rfl
/-- no stuck set but the empty one among the atoms of I -/
def ap_NS (m : Nat → Nat) (n : Nat) (I : Nat → Bool) : Prop := ∀ K : Nat, (∃ v, v < 6 ∧ K.testBit v = true) → (∀ v, v < 6 → K.testBit v = true → 0 < ap_oc m n I v) → ∃ v, v < 6 ∧ K.testBit v = true ∧ ∃ a, a < n ∧ I a = true ∧ ∀ b, b < n → I b = true → (m b).testBit v = true → ∀ u, u < 6 → (m b).testBit u = true → K.testBit u = true → (m a).testBit u = true
theorem ap_NS_put {m : Nat → Nat} {n a b : Nat} {I : Nat → Bool} (ha : a < n) (hI : I a = true) (hb : b < n) (h : I b = false) (hr : ∀ v, v < 6 → (m b).testBit v = true → 0 < ap_oc m n I v → (m a).testBit v = true) (hN : ap_NS m n I) : ap_NS m n (ap_put I b) := by
  intro K hne hcov
  by_cases hs : ∀ v, v < 6 → (m b).testBit v = true → K.testBit v = true → (m a).testBit v = true
  · have hc : ∀ v, v < 6 → K.testBit v = true → 0 < ap_oc m n I v := by
      intro v hv hk
      have := hcov v hv hk
      rw [ap_oc_put hb h] at this
      cases hm : (m b).testBit v
      · rw [hm] at this
        exact this
      · exact ap_oc_pos ha hI (hs v hv hm hk)
    obtain ⟨v, hv, hk, c, hc1, hc2, hc3⟩ := hN K hne hc
    refine ⟨v, hv, hk, c, hc1, ap_put_s hc2, fun d hd hId hmd u hu hmu hku => ?_⟩
    by_cases e : d = b
    · subst e
      exact hc3 a ha hI (hs v hv hmd hk) u hu (hs u hu hmu hku) hku
    · rw [ap_put_n e] at hId
      exact hc3 d hd hId hmd u hu hmu hku
  · have : ∃ v, v < 6 ∧ (m b).testBit v = true ∧ K.testBit v = true ∧ ¬ (m a).testBit v = true := Classical.byContradiction fun hno => hs fun v hv h1 h2 => Classical.byContradiction fun h3 => hno ⟨v, hv, h1, h2, h3⟩
    obtain ⟨v, hv, h1, h2, h3⟩ := this
    refine ⟨v, hv, h2, b, hb, ap_put_b, fun d hd hId hmd u hu hmu hku => ?_⟩
    by_cases e : d = b
    · subst e
      exact hmu
    · rw [ap_put_n e] at hId
      exact absurd (hr v hv h1 (ap_oc_pos hd hId hmd)) h3
theorem ap_NS_1 {m : Nat → Nat} {n : Nat} {I : Nat → Bool} (hn : 0 < n) (h : ∀ a, a < n → (I a = true ↔ a = 0)) : ap_NS m n I := by
  intro K hne hcov
  obtain ⟨v, hv, hk⟩ := hne
  refine ⟨v, hv, hk, 0, hn, (h 0 hn).mpr rfl, fun b hb hI _ u _ hm _ => ?_⟩
  rw [(h b hb).mp hI] at hm
  exact hm
theorem ap_NS_res {m : Nat → Nat} {n K : Nat} {I : Nat → Bool} (hm : ∀ a, a < n → m a < 64) (hI : ∀ a, a < n → I a = true) (hN : ap_NS m n I) (h : aj_res m n K) : K = 0 := by
  obtain ⟨⟨h1, h2, _⟩, h4⟩ := h
  apply Classical.byContradiction
  intro hz
  have hne : ∃ v, v < 6 ∧ K.testBit v = true := Classical.byContradiction fun hno => hz (aj_ext h1 (by decide) fun w hw => by
    rw [Nat.zero_testBit]
    cases hk : K.testBit w
    · rfl
    · exact absurd ⟨w, hw, hk⟩ hno)
  obtain ⟨v, hv, hk, a, ha, _, hall⟩ := hN K hne fun v hv hk => by
    obtain ⟨a, ha, hma⟩ := (ap_cov_bit n).mp (h2 v hv hk)
    exact ap_oc_pos ha (hI a ha) hma
  refine h4 v hv hk ⟨a, ha, (aj_and_sub (aj_nr_lt h1 n)).mpr fun u hu hb => ?_⟩
  obtain ⟨b, hb1, hb2, hb3, hb4⟩ := (aj_nr_bit n).mp hb
  exact hall b hb1 (hI b hb1) hb2 u hu hb3 hb4
theorem ap_res_NS {m : Nat → Nat} {n : Nat} (h : aj_res m n 0) : ∀ K, K < 64 → K ≠ 0 → aj_sub K (aj_cov m n) → ¬ aj_stk m n K := by
  intro K hK hz hs hst
  have := h.1.2.2 K hK hs hst
  exact hz (aj_ext hK (by decide) fun w hw => by
    rw [Nat.zero_testBit]
    cases hk : K.testBit w
    · rfl
    · have := this w hw hk
      rw [Nat.zero_testBit] at this
      exact absurd this (by decide))
/-! a step of the tree's growth: the heaviest edge that leaves I -/
def ap_stp (m : Nat → Nat) (n : Nat) (I : Nat → Bool) (best b : Nat) : Prop := b < n ∧ I b = false ∧ (∃ a, a < n ∧ I a = true ∧ ap_w m a b = best) ∧ ∀ a c, a < n → c < n → I a = true → I c = false → ap_w m a c ≤ best
/-- the upper bound, and what equality says -/
def ap_up (m : Nat → Nat) (n : Nat) (I : Nat → Bool) (W : Nat) : Prop := W ≤ ap_B m n I ∧ (W = ap_B m n I → ap_NS m n I)
theorem ap_up_s {m : Nat → Nat} {n best b W : Nat} {I : Nat → Bool} (h : ap_up m n I W) (hs : ap_stp m n I best b) : ap_up m n (ap_put I b) (W + best) := by
  obtain ⟨hb, hIb, ⟨a, ha, hIa, hw⟩, _⟩ := hs
  have hge := ap_sh_ge (m := m) (b := b) ha hIa
  have hB := ap_B_put (m := m) hb hIb
  obtain ⟨h1, h2⟩ := h
  refine ⟨by omega, fun e => ?_⟩
  exact ap_NS_put ha hIa hb hIb (ap_sh_eq ha hIa (by omega)) (h2 (by omega))
/-! the lower bound, threshold by threshold, against a forest -/
def ap_hi (m par rk : Nat → Nat) (t b : Nat) : Bool := !decide (rk b = 0) && decide (t < ap_w m b (par b))
def ap_clo (m : Nat → Nat) (n : Nat) (t : Nat) (I : Nat → Bool) : Prop := ∀ a c, a < n → c < n → I a = true → I c = false → ap_w m a c ≤ t
theorem ap_climb {m : Nat → Nat} {n t : Nat} {par rk : Nat → Nat} {A0 A1 : Nat → Bool} (hf : ap_for m n par rk) (h0 : ap_clo m n t A0) (h1 : ap_clo m n t A1) : ∀ d x, x < n → rk x ≤ d → A1 x = true → A0 x = false → ∃ y, y < n ∧ A1 y = true ∧ A0 y = false ∧ ap_hi m par rk t y = false := by
  intro d
  induction d with
  | zero =>
    intro x hx hr h2 h3
    have : rk x = 0 := by omega
    exact ⟨x, hx, h2, h3, by simp [ap_hi, this]⟩
  | succ d ih =>
    intro x hx hr h2 h3
    cases hh : ap_hi m par rk t x
    · exact ⟨x, hx, h2, h3, hh⟩
    · simp only [ap_hi, Bool.and_eq_true, Bool.not_eq_true', decide_eq_false_iff_not, decide_eq_true_eq] at hh
      obtain ⟨hp, hrk⟩ := hf x hx hh.1
      refine ih (par x) hp (by omega) ?_ ?_
      · cases z : A1 (par x)
        · have := h1 x (par x) hx hp h2 z
          omega
        · rfl
      · cases z : A0 (par x)
        · rfl
        · have := h0 (par x) x hp hx z h3
          rw [ap_w_sym] at this
          omega
def ap_low (m : Nat → Nat) (n : Nat) (par rk : Nat → Nat) (I : Nat → Bool) (h : Nat → Nat) (t : Nat) : Prop := ∃ I0 : Nat → Bool, (∀ a, a < n → I0 a = true → I a = true) ∧ ap_clo m n t I0 ∧ (∃ x, x < n ∧ I x = true ∧ I0 x = false) ∧ ap_ct I n ≤ h t + ap_ct (fun b => I0 b && !ap_hi m par rk t b) n + 1
theorem ap_low_lt {m : Nat → Nat} {n t : Nat} {par rk : Nat → Nat} {A0 A1 : Nat → Bool} (hf : ap_for m n par rk) (hs : ∀ a, a < n → A0 a = true → A1 a = true) (h0 : ap_clo m n t A0) (h1 : ap_clo m n t A1) (hx : ∃ x, x < n ∧ A1 x = true ∧ A0 x = false) : ap_ct (fun b => A0 b && !ap_hi m par rk t b) n + 1 ≤ ap_ct (fun b => A1 b && !ap_hi m par rk t b) n := by
  obtain ⟨x, hx1, hx2, hx3⟩ := hx
  obtain ⟨y, hy1, hy2, hy3, hy4⟩ := ap_climb hf h0 h1 (rk x) x hx1 (Nat.le_refl _) hx2 hx3
  refine ap_ct_lt n (fun i hi hp => ?_) y hy1 (by (try dsimp only); rw [hy3]; rfl) (by (try dsimp only); rw [hy2, hy4]; rfl)
  rw [Bool.and_eq_true] at hp ⊢
  exact ⟨hs i hi hp.1, hp.2⟩
theorem ap_low_s {m : Nat → Nat} {n t best b : Nat} {par rk h : Nat → Nat} {I : Nat → Bool} (hf : ap_for m n par rk) (hl : ap_low m n par rk I h t) (hs : ap_stp m n I best b) : ap_low m n par rk (ap_put I b) (fun t => h t + (decide (t < best)).toNat) t := by
  obtain ⟨hb, hIb, _, hmax⟩ := hs
  obtain ⟨I0, h1, h2, h3, h4⟩ := hl
  have hc : ap_ct (ap_put I b) n = ap_ct I n + 1 := ap_ct_add n b hb hIb ap_put_b fun i hi => ap_put_n hi
  by_cases z : t < best
  · obtain ⟨x, hx1, hx2, hx3⟩ := h3
    refine ⟨I0, fun a ha hz => ap_put_s (h1 a ha hz), h2, ⟨x, hx1, ap_put_s hx2, hx3⟩, ?_⟩
    (try dsimp only)
    rw [hc, decide_eq_true z]
    show _ ≤ h t + 1 + _ + 1
    omega
  · have hcl : ap_clo m n t I := fun a c ha hc' hIa hIc => Nat.le_trans (hmax a c ha hc' hIa hIc) (by omega)
    have := ap_low_lt hf h1 h2 hcl h3
    refine ⟨I, fun a _ hz => ap_put_s hz, hcl, ⟨b, hb, ap_put_b, hIb⟩, ?_⟩
    (try dsimp only)
    rw [hc, decide_eq_false z]
    show _ ≤ h t + 0 + _ + 1
    omega
theorem ap_low_0 {m : Nat → Nat} {n t : Nat} {par rk : Nat → Nat} {I : Nat → Bool} (hn : 0 < n) (h : ∀ a, a < n → (I a = true ↔ a = 0)) : ap_low m n par rk I (fun _ => 0) t := by
  refine ⟨fun _ => false, fun _ _ z => absurd z Bool.false_ne_true, fun _ _ _ _ z => absurd z Bool.false_ne_true, ⟨0, hn, (h 0 hn).mpr rfl, rfl⟩, ?_⟩
  have : ap_ct I n = ap_ct (fun _ => false) n + 1 := by
    refine (ap_ct_eq n fun i hi => ?_).trans (ap_ct_add (p := fun _ => false) (q := fun i => decide (i = 0)) n 0 hn rfl rfl fun i hi => decide_eq_false hi)
    cases z : I i
    · exact (decide_eq_false fun e => by rw [(h i hi).mpr e] at z; exact absurd z (by decide)).symm
    · exact (decide_eq_true ((h i hi).mp z)).symm
  rw [this, ap_ct_0 (p := fun _ => false) n fun _ _ => rfl]
  omega
theorem ap_low_e {m : Nat → Nat} {n t : Nat} {par rk h : Nat → Nat} {I : Nat → Bool} (hf : ap_for m n par rk) (hI : ∀ a, a < n → I a = true) (hl : ap_low m n par rk I h t) : ap_ct (ap_hi m par rk t) n ≤ h t := by
  obtain ⟨I0, h1, h2, h3, h4⟩ := hl
  have hcl : ap_clo m n t I := fun a c _ hc _ hIc => by
    rw [hI c hc] at hIc
    exact absurd hIc (by decide)
  have h5 := ap_low_lt hf h1 h2 hcl h3
  have h6 : ap_ct (fun b => I b && !ap_hi m par rk t b) n = ap_ct (fun b => !ap_hi m par rk t b) n := ap_ct_eq n fun i hi => by
    (try dsimp only)
    rw [hI i hi]
    rfl
  have h7 := ap_ct_not (p := ap_hi m par rk t) n
  rw [ap_ct_all n hI] at h4
  omega
/-- the forest's weight -/
theorem ap_forW {m : Nat → Nat} {n : Nat} {par rk I : Nat → _} (hI : ∀ a, a < n → I a = true) (h : ap_inv m n 0 par rk) : ap_B m n I ≤ ap_sm (fun t => ap_ct (ap_hi m par rk t) n) 6 := by
  have e1 : ap_sm (fun t => ap_ct (ap_hi m par rk t) n) 6 = ap_sm (fun b => if rk b = 0 then 0 else ap_w m b (par b)) n := by
    have : ap_sm (fun t => ap_ct (ap_hi m par rk t) n) 6 = ap_sm (fun t => ap_sm (fun b => (ap_hi m par rk t b).toNat) n) 6 := ap_sm_eq 6 fun t _ => (ap_sm_ct n).symm
    rw [this, ← ap_sm_sw 6 n]
    refine ap_sm_eq n fun b _ => ?_
    (try dsimp only)
    by_cases z : rk b = 0
    · rw [if_pos z]
      refine (ap_sm_eq 6 fun t _ => ?_).trans (ap_sm_0 6)
      simp [ap_hi, z]
    · rw [if_neg z]
      refine (ap_sm_eq 6 fun t _ => ?_).trans (ap_thr _ (ap_w_6 m b (par b)))
      simp [ap_hi, z]
  have e2 : ap_sm (fun b => if rk b = 0 then 0 else ap_w m b (par b)) n = ap_sm (fun v => ap_ct (fun b => (m b).testBit v && (!decide (rk b = 0) && (m (par b)).testBit v)) n) 6 := by
    have : ap_sm (fun v => ap_ct (fun b => (m b).testBit v && (!decide (rk b = 0) && (m (par b)).testBit v)) n) 6 = ap_sm (fun v => ap_sm (fun b => ((m b).testBit v && (!decide (rk b = 0) && (m (par b)).testBit v)).toNat) n) 6 := ap_sm_eq 6 fun t _ => (ap_sm_ct n).symm
    rw [this, ← ap_sm_sw 6 n]
    refine ap_sm_eq n fun b _ => ?_
    (try dsimp only)
    by_cases z : rk b = 0
    · rw [if_pos z]
      refine ((ap_sm_eq 6 fun t _ => ?_).trans (ap_sm_0 6)).symm
      simp [z]
    · rw [if_neg z, ap_w_ct, ← ap_sm_ct]
      refine ap_sm_eq 6 fun t _ => ?_
      simp [z]
  rw [e1, e2]
  refine ap_sm_le 6 fun v hv => ?_
  have hu := h.2.2.2 v hv (Nat.zero_testBit v)
  have := ap_ct_u (p := fun b => (m b).testBit v) (q := fun b => !decide (rk b = 0) && (m (par b)).testBit v) n (fun b c hb hc p1 q1 p2 q2 => hu b c hb hc p1 p2 (by
    cases z : decide (rk b = 0)
    · rw [z] at q1
      exact Or.inr q1
    · exact Or.inl (of_decide_eq_true z)) (by
    cases z : decide (rk c = 0)
    · rw [z] at q2
      exact Or.inr q2
    · exact Or.inl (of_decide_eq_true z)))
  have e3 : ap_oc m n I v = ap_ct (fun b => (m b).testBit v) n := ap_ct_eq n fun i hi => by
    (try dsimp only)
    rw [hI i hi]
    rfl
  (try dsimp only)
  omega
/-! the whole: along the growth -/
def ap_gr (m : Nat → Nat) (n : Nat) (I : Nat → Bool) (W : Nat) : Prop := ap_up m n I W ∧ ∃ h : Nat → Nat, ap_sm h 6 = W ∧ ∀ par rk t, ap_for m n par rk → t < 6 → ap_low m n par rk I h t
theorem ap_gr0 {m : Nat → Nat} {n : Nat} {I : Nat → Bool} (hn : 0 < n) (h : ∀ a, a < n → (I a = true ↔ a = 0)) : ap_gr m n I 0 := by
  refine ⟨⟨Nat.zero_le _, fun _ => ap_NS_1 hn h⟩, fun _ => 0, ap_sm_0 6, fun par rk t _ _ => ap_low_0 hn h⟩
theorem ap_gr_s {m : Nat → Nat} {n best b W : Nat} {I : Nat → Bool} (h : ap_gr m n I W) (hs : ap_stp m n I best b) : ap_gr m n (ap_put I b) (W + best) := by
  obtain ⟨h1, g, h2, h3⟩ := h
  refine ⟨ap_up_s h1 hs, fun t => g t + (decide (t < best)).toNat, ?_, fun par rk t hf ht => ap_low_s hf (h3 par rk t hf ht) hs⟩
  have hb : best < 7 := by
    obtain ⟨a, _, _, e⟩ := hs.2.2.1
    rw [← e]
    exact ap_w_6 m a b
  rw [ap_sm_add, h2, ap_thr best hb]
/-- at the end: the weight is the bound just where the residue is empty -/
theorem ap_gr_e {m : Nat → Nat} {n W K : Nat} {I : Nat → Bool} (hm : ∀ a, a < n → m a < 64) (hI : ∀ a, a < n → I a = true) (h : ap_gr m n I W) (hK : aj_res m n K) : W = ap_B m n I ↔ K = 0 := by
  obtain ⟨⟨h1, h2⟩, g, h3, h4⟩ := h
  constructor
  · exact fun e => ap_NS_res hm hI (h2 e) hK
  · intro e
    subst e
    have hC : aj_cov m n < 64 := aj_cov_lt (k := 6) n hm
    obtain ⟨par, rk, hinv⟩ := ap_build (ap_res_NS hK) 6 (aj_cov m n) (fun _ => 0) (fun _ => 0) (aj_sz_le _ 6) hC (fun _ _ z => z) ⟨fun _ _ z => absurd rfl z, fun _ _ z => absurd rfl z, fun _ _ z => absurd rfl z, fun v hv hk b c hb _ hmb => by
      rw [(ap_cov_bit n).mpr ⟨b, hb, hmb⟩] at hk
      exact absurd hk (by decide)⟩
    have h5 := ap_forW hI hinv
    have h6 : ap_sm (fun t => ap_ct (ap_hi m par rk t) n) 6 ≤ ap_sm g 6 := ap_sm_le 6 fun t ht => ap_low_e hinv.1 hI (h4 par rk t hinv.1 ht)
    omega
end
section
/-! an assignment of V digits as one of six -/
def ap_up6 (V p : Nat) : Nat := p * 4 ^ (6 - V)
theorem ap_V {V : Nat} (h3 : 3 ≤ V) (h6 : V ≤ 6) : V = 3 ∨ V = 4 ∨ V = 5 ∨ V = 6 := by omega
theorem ap_v6 {v : Nat} (h : v < 6) : v = 0 ∨ v = 1 ∨ v = 2 ∨ v = 3 ∨ v = 4 ∨ v = 5 := by omega
theorem ap_dig {V p v : Nat} (h3 : 3 ≤ V) (h6 : V ≤ 6) (hv : v < V) : aj_val (ap_up6 V p) v = p / 2 ^ (2 * (V - 1 - v)) % 4 := by
  unfold aj_val ap_up6
  rcases ap_V h3 h6 with e | e | e | e <;> subst e <;> rcases ap_v6 (show v < 6 by omega) with e | e | e | e | e | e <;> subst e <;> first | (exfalso; omega) | (simp only [Nat.reduceSub, Nat.reduceMul, Nat.reducePow]; omega)
theorem ap_dig0 {V p v : Nat} (h3 : 3 ≤ V) (h6 : V ≤ 6) (hv : V ≤ v) (h : v < 6) : aj_val (ap_up6 V p) v = 0 := by
  unfold aj_val ap_up6
  rcases ap_V h3 h6 with e | e | e | e <;> subst e <;> rcases ap_v6 h with e | e | e | e | e | e <;> subst e <;> first | (exfalso; omega) | (simp only [Nat.reduceSub, Nat.reduceMul, Nat.reducePow]; omega)
theorem ap_kx_V {V sc c : Nat} (h : sc < 2 ^ V) : ∀ k, aj_kx sc c (V + k) = aj_kx sc c V
  | 0 => rfl
  | k + 1 => by
    rw [← Nat.add_assoc, aj_kx, if_neg, ap_kx_V h k]
    rw [Nat.testBit_lt_two_pow (Nat.lt_of_lt_of_le h (Nat.pow_le_pow_right (by decide) (Nat.le_add_right V k)))]
    decide
theorem ap_kx_6 {V sc c : Nat} (h : sc < 2 ^ V) (h6 : V ≤ 6) : aj_kx sc c 6 = aj_kx sc c V := by
  have := ap_kx_V (c := c) h (6 - V)
  rw [show V + (6 - V) = 6 by omega] at this
  exact this
end
section
section
variable {fV fD fA fR fp fr : Int32} {sc sx an lv ps : Nat → Int32} {n : Nat} {m : Nat → Nat}
def aj_msk (m : Nat → Nat) (n : Nat) (sc : Nat → Int32) : Prop := ∀ a, a < n → sc a = nI (m a) ∧ m a < 64 ∧ aj_sz (m a) 6 < 4
theorem aj_msk_of {V : Nat} (hV : V ≤ 6) (h : aj_scp m V n sc) : aj_msk m n sc := fun a ha => ⟨(h a ha).1, Nat.lt_of_lt_of_le (h a ha).2.2.1 (aj_p2 hV), (h a ha).2.2.2⟩
theorem aj_at (f : Nat → Int32) {a : Nat} (h : a < 2 ^ 31) : f (nI a).toNatClampNeg = f a := by rw [nI_clamp h]
theorem aj_cov64 (h : aj_msk m n sc) : aj_cov m n < 64 := aj_cov_lt (k := 6) n fun a ha => (h a ha).2.1
theorem aj_ix (a k : Nat) : nI a * 64 + nI k = nI (a * 64 + k) := by
  rw [show nI a * 64 = nI (a * 64) from pk_mul a 64, nI_add]
theorem ax_contains {post : Int32 → Prop} {x : Int32} {k v : Nat} (hx : x = nI k) (hm : k < 64) (hv : v < 6) (h1 : k.testBit v = true → post 1) (h0 : ¬ k.testBit v = true → post 0) : wpX_contains post () x (nI v) := by
  subst hx
  exact br_c (fun z => h0 (by rw [(aj_has k hm v hv).mp z]; decide)) (fun z => h1 (by
    cases hb : k.testBit v
    · exact absurd ((aj_has k hm v hv).mpr hb) z
    · rfl))
theorem ax_sizeOf {post : Int32 → Prop} {x : Int32} {k : Nat} (hx : x = nI k) (hm : k < 64) (h : post (nI (aj_sz k 6))) : wpX_sizeOf post () x := by
  subst hx
  exact loop_0 (fun n i (_ : Unit) => wX_sizeOf_4 post (nI k) n (nI (aj_sz k i)) (nI i)) (fun _ _ => True) 6 () trivial
    (fun n _ _ => pk_le 6 6 (fun _ => h) (fun z => absurd z (by omega)))
    (fun n i _ hi _ hw => pk_le 6 i (fun z => absurd z (by omega)) (fun _ => ax_contains rfl hm hi
      (fun hb => br_f (by decide) (nm_r (nI_1 _) (nm_r (nI_1 i) (by have := hw () trivial; rw [aj_sz_t hb] at this; exact this))))
      (fun hb => br_t rfl (nm_r (nI_1 i) (by have := hw () trivial; rw [aj_sz_f hb] at this; exact this)))))
theorem ax_valueIn {post : Int32 → Prop} {c v : Nat} (hc : c < 4096) (hv : v < 6) (h : post (nI (aj_val c v))) : wpX_valueIn post () (nI c) (nI v) := by
  intro y ey
  subst ey
  rw [aj_vX hc hv]
  exact h
theorem ax_slotA {post : Int32 → Prop} {a c k : Nat} (ha : a < 6) (hsc : sc a = nI k) (hk : k < 64) (h4 : aj_sz k 6 < 4) (hc : c < 4096) (h : post (nI (a * 64 + aj_kx k c 6))) : wpX_slotOfAssignment post (fV, fD, fA, fR, nI n, fp, fr, sc, sx, an, lv, ps) (nI a) (nI c) :=
  loop_0 (fun n' i (_ : Unit) => wX_slotOfAssignment_8 post (nI a) (nI c) fV fD fA fR (nI n) fp fr sc sx an lv ps n' (nI (aj_kx k c i)) (nI (2 * aj_sz k i)) (nI i)) (fun _ _ => True) 6 () trivial
    (fun n _ _ => pk_le 6 6 (fun _ => by rw [aj_ix]; exact h) (fun z => absurd z (by omega)))
    (fun n i _ hi _ hw => pk_le 6 i (fun z => absurd z (by omega)) (fun _ => ⟨pk_in a 6 ha, ax_contains ((aj_at sc (by omega)).trans hsc) hk hi
      (fun hb => br_f (by decide) (ax_valueIn hc hi (nm_r (aj_orK _ (by
          have h5 := aj_sz_mono k (a := i + 1) 6 (by omega)
          rw [aj_sz_t hb] at h5
          omega) _ (aj_kx_lt k c i) _ (aj_val_lt c i)) (nm_r (e' := nI (2 * (aj_sz k i + 1))) (nI_add _ 2) (nm_r (nI_1 i) (by
          have := hw () trivial
          rw [aj_sz_t hb, aj_kx, if_pos hb] at this
          exact this))))))
      (fun hb => br_t rfl (nm_r (nI_1 i) (by
          have := hw () trivial
          rw [aj_sz_f hb, aj_kx, if_neg hb] at this
          exact this)))⟩))
theorem ax_isAns {post : Int32 → Prop} {c : Nat} (hn : n ≤ 6) (hs : aj_msk m n sc) (hc : c < 4096) (h1 : aj_ans m n sx c → post 1) (h0 : ¬ aj_ans m n sx c → post 0) : wpX_isAnswer post (fV, fD, fA, fR, nI n, fp, fr, sc, sx, an, lv, ps) (nI c) (nI (aj_cov m n)) := by
  have second : aj_unc m n c → ∃ n', wX_isAnswer_34 post (nI c) fV fD fA fR (nI n) fp fr sc sx an lv ps n' 0 := fun hu =>
    loop_0 (fun n' i (_ : Unit) => wX_isAnswer_34 post (nI c) fV fD fA fR (nI n) fp fr sc sx an lv ps n' (nI i)) (fun i _ => ∀ a, a < i → ¬ sx (a * 64 + aj_kx (m a) c 6) = 0) n () lt_0
      (fun n' _ hI => pk_le n n (fun _ => h1 ⟨hu, hI⟩) (fun z => absurd z (by omega)))
      (fun n' i _ hi hI hw => pk_le n i (fun z => absurd z (by omega)) (fun _ => ax_slotA (by omega) (hs i hi).1 (hs i hi).2.1 (hs i hi).2.2 hc (by
        have hk := aj_kx_64 (c := c) (hs i hi).2.2
        refine ⟨pk_in (i * 64 + aj_kx (m i) c 6) 384 (by omega), ?_⟩
        rw [nI_clamp (show i * 64 + aj_kx (m i) c 6 < 2 ^ 31 by omega)]
        exact br_c (fun z => h0 fun H => H.2 i hi z) (fun z => nm_r (nI_1 i) (hw () (lt_s hI z))))))
  exact loop_0 (fun n' i (_ : Unit) => wX_isAnswer_2 post (nI c) (nI (aj_cov m n)) fV fD fA fR (nI n) fp fr sc sx an lv ps n' (nI i)) (fun i _ => ∀ v, v < i → (aj_cov m n).testBit v = false → aj_val c v = 0) 6 () lt_0
    (fun n' _ hI => pk_le 6 6 (fun _ => second hI) (fun z => absurd z (by omega)))
    (fun n' i _ hi hI hw => pk_le 6 i (fun z => absurd z (by omega)) (fun _ => ax_contains rfl (aj_cov64 hs) hi
      (fun hb => br_f (by decide) (nm_r (nI_1 i) (hw () (lt_s hI fun z => by rw [hb] at z; exact absurd z (by decide)))))
      (fun hb => br_t rfl (ax_valueIn hc hi (pk_eq (aj_val c i) 0 (fun z => nm_r (nI_1 i) (hw () (lt_s hI fun _ => z))) (fun z => h0 fun H => z (H.1 i hi (Bool.eq_false_iff.mpr hb))) rfl rfl (by have := aj_val_lt c i; omega))))))
theorem ax_count {post : Int32 → Prop} (h : post (nI (aj_cn an 4096))) : ∃ n', wX_count_14 post fV fD fA fR (nI n) fp fr sc sx an lv ps n' 0 0 :=
  loop_0 (fun n' i (_ : Unit) => wX_count_14 post fV fD fA fR (nI n) fp fr sc sx an lv ps n' (nI (aj_cn an i)) (nI i)) (fun _ _ => True) 4096 () trivial
    (fun n' _ _ => pk_le 4096 4096 (fun _ => h) (fun z => absurd z (by omega)))
    (fun n' i _ hi _ hw => pk_le 4096 i (fun z => absurd z (by omega)) (fun _ => ⟨pk_in i 4096 hi, by
      rw [aj_at an (show i < 2 ^ 31 by omega)]
      exact br_c (fun z => nm_r (nI_1 i) (by have := hw () trivial; rw [aj_cn_z z] at this; exact this)) (fun z => nm_r (nI_1 _) (nm_r (nI_1 i) (by have := hw () trivial; rw [aj_cn_p z] at this; exact this)))⟩))
theorem ax_rows {post : Int32 → Prop} {a : Nat} {mk : Nat → Int32} (ha : a < 6) (h : post (nI (aj_cn (fun i => mk (a * 64 + i)) 64))) : wpX_rowsMarked post mk (nI a) :=
  nm_r (pk_mul a 64) (loop_0 (fun n' i (_ : Unit) => wX_rowsMarked_10 post (nI (a * 64)) mk n' (nI (aj_cn (fun i => mk (a * 64 + i)) i)) (nI i)) (fun _ _ => True) 64 () trivial
    (fun n' _ _ => pk_le 64 64 (fun _ => h) (fun z => absurd z (by omega)))
    (fun n' i _ hi _ hw => pk_le 64 i (fun z => absurd z (by omega)) (fun _ => by
      rw [nI_add, aj_at mk (show a * 64 + i < 2 ^ 31 by omega)]
      exact ⟨pk_in (a * 64 + i) 384 (by omega), br_c (fun z => nm_r (nI_1 i) (by have := hw () trivial; rw [aj_cn_z (f := fun i => mk (a * 64 + i)) z] at this; exact this)) (fun z => nm_r (nI_1 _) (nm_r (nI_1 i) (by have := hw () trivial; rw [aj_cn_p (f := fun i => mk (a * 64 + i)) z] at this; exact this)))⟩)))
theorem ax_move {post : Int32 → St2 → Prop} {i F q : Nat} {x : Int32} (hx : x = nI F) (hi : i < 2) (hq : aj_fst an F q) (h : post (aj_out1 q) (fV, fD, fA, fR, nI n, fp, fr, sc, sx, an, lv, upd ps i (nI q))) : wpX_moveToAnswerFrom post (fV, fD, fA, fR, nI n, fp, fr, sc, sx, an, lv, ps) (nI i) x := by
  subst hx
  obtain ⟨q1, q2, q3, q4⟩ := hq
  refine pk_loop (fun n' j (_ : Unit) => wX_moveToAnswerFrom_2 post (nI i) fV fD fA fR (nI n) fp fr sc sx an lv ps n' (nI j)) (fun j _ => F ≤ j) q F () q1 (Nat.le_refl F) ?_ ?_
  · intro n' _ _
    refine pk_le 4096 q (fun z => ?_) (fun z => ⟨pk_in q 4096 z, ?_⟩)
    · have e : q = 4096 := by omega
      subst e
      exact ⟨pk_in i 2 hi, nm_r (by rw [nI_clamp (show i < 2 ^ 31 by omega)]; rfl) h⟩
    · rw [aj_at an (show q < 2 ^ 31 by omega)]
      rw [aj_out1_t z] at h
      exact br_f (q4 z) ⟨pk_in i 2 hi, nm_r (by rw [nI_clamp (show i < 2 ^ 31 by omega)]) h⟩
  · intro n' j _ hj hF hw
    refine pk_le 4096 j (fun z => absurd z (by omega)) (fun z => ⟨pk_in j 4096 z, ?_⟩)
    rw [aj_at an (show j < 2 ^ 31 by omega)]
    exact br_c (fun _ => nm_r (nI_1 j) (hw () (by omega))) (fun z => absurd (q3 j hF hj) z)
end
end
section
section
variable {fV fD fA fR fp fr : Int32} {sc sx an lv ps : Nat → Int32} {n : Nat} {m : Nat → Nat}
theorem ax_put {post : St2 → Prop} (h : post (fV, fD, fA, fR, nI n, fp, fr, sc, sx, an, lv, upd (upd ps 0 (-1)) 1 (-1))) : wpX_putCursorsAtStart post (fV, fD, fA, fR, nI n, fp, fr, sc, sx, an, lv, ps) :=
  ⟨3, br_f (by decide) ⟨vp_in_nI (n := 0) (by decide) (by decide), nm_e (nm_e (br_f (by decide) ⟨vp_in_nI (n := 1) (by decide) (by decide), nm_e (nm_e (br_t (by decide) h))⟩))⟩⟩
theorem ax_cov {post : Int32 → Prop} (hn : n ≤ 6) (hs : aj_msk m n sc) (h : post (nI (aj_cov m n))) : wpX_coveredVariables post (fV, fD, fA, fR, nI n, fp, fr, sc, sx, an, lv, ps) :=
  loop_0 (fun n' i (_ : Unit) => wX_coveredVariables_4 post fV fD fA fR (nI n) fp fr sc sx an lv ps n' (nI (aj_cov m i)) (nI i)) (fun _ _ => True) n () trivial
    (fun n' _ _ => pk_le n n (fun _ => h) (fun z => absurd z (by omega)))
    (fun n' i _ hi _ hw => pk_le n i (fun z => absurd z (by omega)) (fun _ => ⟨pk_in i 6 (by omega), nm_r (e' := nI (aj_cov m (i + 1))) (by rw [aj_at sc (show i < 2 ^ 31 by omega), (hs i hi).1, aj_or]; rfl) (nm_r (nI_1 i) (hw () trivial))⟩))
theorem ax_near {post : Int32 → Prop} {S v : Nat} (hn : n ≤ 6) (hs : aj_msk m n sc) (hv : v < 6) (h : post (nI (aj_nr m S v n))) : wpX_neighboursWithin post (fV, fD, fA, fR, nI n, fp, fr, sc, sx, an, lv, ps) (nI S) (nI v) :=
  loop_0 (fun n' j (_ : Unit) => wX_neighboursWithin_5 post (nI S) (nI v) fV fD fA fR (nI n) fp fr sc sx an lv ps n' (nI (aj_nr m S v j)) (nI j)) (fun _ _ => True) n () trivial
    (fun n' _ _ => pk_le n n (fun _ => h) (fun z => absurd z (by omega)))
    (fun n' j _ hj _ hw => pk_le n j (fun z => absurd z (by omega)) (fun _ => ⟨pk_in j 6 (by omega), ax_contains ((aj_at sc (by omega)).trans (hs j hj).1) (hs j hj).2.1 hv
      (fun hb => br_f (by decide) ⟨pk_in j 6 (by omega), nm_r (e' := nI (aj_nr m S v (j + 1))) (by rw [aj_at sc (show j < 2 ^ 31 by omega), (hs j hj).1, nx_and, aj_or, aj_nr, if_pos hb]) (nm_r (nI_1 j) (hw () trivial))⟩)
      (fun hb => br_t rfl (nm_r (nI_1 j) (by
        have := hw () trivial
        rw [aj_nr, if_neg hb] at this
        exact this)))⟩))
theorem ax_canLeave {post : Int32 → Prop} {S v : Nat} (hn : n ≤ 6) (hs : aj_msk m n sc) (hS : S < 64) (hv : v < 6) (h1 : aj_cl m n S v → post 1) (h0 : ¬ aj_cl m n S v → post 0) : wpX_canLeave post (fV, fD, fA, fR, nI n, fp, fr, sc, sx, an, lv, ps) (nI S) (nI v) :=
  ax_near hn hs hv (loop_0 (fun n' j (_ : Unit) => wX_canLeave_10 post (nI (aj_nr m S v n)) fV fD fA fR (nI n) fp fr sc sx an lv ps n' (nI j)) (fun j _ => ∀ a, a < j → ¬ m a &&& aj_nr m S v n = aj_nr m S v n) n () lt_0
    (fun n' _ hJ => pk_le n n (fun _ => h0 fun ⟨a, ha, e⟩ => hJ a ha e) (fun z => absurd z (by omega)))
    (fun n' j _ hj hJ hw => pk_le n j (fun z => absurd z (by omega)) (fun _ => ⟨pk_in j 6 (by omega), by
      have hl := aj_nr_lt (m := m) (v := v) hS n
      have hl2 : m j &&& aj_nr m S v n < 64 := Nat.and_lt_two_pow (n := 6) (m j) hl
      exact pk_eq (m j &&& aj_nr m S v n) (aj_nr m S v n) (fun z => h1 ⟨j, hj, z⟩) (fun z => nm_r (nI_1 j) (hw () (lt_s hJ z))) (by rw [aj_at sc (show j < 2 ^ 31 by omega), (hs j hj).1, nx_and])⟩)))
theorem ax_residue {post : Int32 → Prop} (hn : n ≤ 6) (hs : aj_msk m n sc) (h : ∀ K, aj_res m n K → post (nI K)) : wpX_residueWithin post (fV, fD, fA, fR, nI n, fp, fr, sc, sx, an, lv, ps) (nI (aj_cov m n)) := by
  refine loop_0 (fun n' i K => wX_residueWithin_4 post fV fD fA fR (nI n) fp fr sc sx an lv ps n' (nI K) (nI i)) (fun i K => aj_out m n i K) 6 (aj_cov m n) (aj_out0 (aj_cov64 hs)) ?_ ?_
  · intro n' K hI
    exact pk_le 6 6 (fun _ => h K (aj_out6 hI)) (fun z => absurd z (by omega))
  · intro n' i K0 hi hI hw
    refine pk_le 6 i (fun z => absurd z (by omega)) (fun _ => loop_0 (fun n'' v K => wX_residueWithin_13 post (wX_residueWithin_4 post fV fD fA fR (nI n) fp fr sc sx an lv ps n') (nI i) fV fD fA fR (nI n) fp fr sc sx an lv ps n'' (nI K) (nI v)) (fun v K => aj_inn m n K0 v K) 6 K0 (aj_inn0 hI.1) ?_ ?_)
    · intro n'' K hJ
      exact pk_le 6 6 (fun _ => nm_r (nI_1 i) (hw K (aj_out_s hI hJ))) (fun z => absurd z (by omega))
    · intro n'' v K hv hJ hw2
      have hK := hJ.1.1
      exact pk_le 6 v (fun z => absurd z (by omega)) (fun _ => ax_contains rfl hK hv
        (fun hb => br_f (by decide) (ax_canLeave hn hs hK hv
          (fun hc => br_f (by decide) (nm_r (aj_rmI K hK v hv) (nm_r (nI_1 v) (hw2 _ (aj_inn_yes hJ hv hb hc)))))
          (fun hc => br_t rfl (nm_r (nI_1 v) (hw2 K (aj_inn_no hJ fun _ => hc))))))
        (fun hb => br_t rfl (nm_r (nI_1 v) (hw2 K (aj_inn_no hJ fun z => absurd z hb)))))
theorem aj_nb : vp_nar .boolean 1 = 1 ∧ vp_nar .boolean 0 = 0 := ⟨rfl, rfl⟩
/-- the marks of one answer -/
def aj_mark (m : Nat → Nat) (k c : Nat) (lv lv' : Nat → Int32) : Prop := ∀ a, a < 6 → ∀ x, x < 64 → (lv' (a * 64 + x) = 0 ↔ lv (a * 64 + x) = 0 ∧ ¬ (a < k ∧ aj_kx (m a) c 6 = x))
theorem aj_mark_s {k c : Nat} {l0 l1 : Nat → Int32} (h : aj_mark m k c l0 l1) (h4 : aj_sz (m k) 6 < 4) : aj_mark m (k + 1) c l0 (upd l1 (k * 64 + aj_kx (m k) c 6) 1) := by
  intro a ha x hx
  have hk := aj_kx_64 (c := c) h4
  by_cases e : a = k ∧ x = aj_kx (m k) c 6
  · obtain ⟨e1, e2⟩ := e
    subst e1
    subst e2
    rw [pk_us]
    constructor
    · intro z
      exact absurd z (by decide)
    · intro z
      exact absurd ⟨by omega, rfl⟩ z.2
  · rw [pk_un (fun z => e (by omega)), h a ha x hx]
    constructor
    · intro ⟨z1, z2⟩
      refine ⟨z1, fun ⟨z3, z4⟩ => ?_⟩
      by_cases e2 : a = k
      · subst e2
        exact e ⟨rfl, z4.symm⟩
      · exact z2 ⟨by omega, z4⟩
    · intro ⟨z1, z2⟩
      exact ⟨z1, fun ⟨z3, z4⟩ => z2 ⟨by omega, z4⟩⟩
theorem ax_mark {post : St2 → Prop} {c : Nat} (hn : n ≤ 6) (hs : aj_msk m n sc) (hc : c < 4096) (h : ∀ l, aj_mark m n c lv l → post (fV, fD, fA, fR, nI n, fp, fr, sc, sx, an, l, ps)) : wpX_markLiveRows post (fV, fD, fA, fR, nI n, fp, fr, sc, sx, an, lv, ps) (nI c) := by
  refine loop_0 (fun n' i l => wX_markLiveRows_2 post (nI c) fV fD fA fR (nI n) fp fr n' (nI i) sc sx an l ps) (fun i l => aj_mark m i c lv l) n lv ?_ ?_ ?_
  · intro a _ x _
    exact ⟨fun z => ⟨z, fun y => absurd y.1 (Nat.not_lt_zero a)⟩, fun z => z.1⟩
  · intro n' l hI
    exact pk_le n n (fun _ => h l hI) (fun z => absurd z (by omega))
  · intro n' i l hi hI hw
    have hk := aj_kx_64 (c := c) (hs i hi).2.2
    exact pk_le n i (fun z => absurd z (by omega)) (fun _ => ax_slotA (by omega) (hs i hi).1 (hs i hi).2.1 (hs i hi).2.2 hc ⟨pk_in (i * 64 + aj_kx (m i) c 6) 384 (by omega), nm_r (by rw [nI_clamp (show i * 64 + aj_kx (m i) c 6 < 2 ^ 31 by omega)]) (nm_r (nI_1 i) (hw _ (aj_mark_s hI (hs i hi).2.2)))⟩)
theorem aj_rdA_s {k : Nat} {a1 : Nat → Int32} {z : Int32} (h : aj_rdA m n sx a1 k) (hz : z = 0 ↔ ¬ aj_ans m n sx k) : aj_rdA m n sx (upd a1 k z) (k + 1) := by
  intro c hc
  by_cases e : c = k
  · subst e
    rw [pk_us]
    exact hz
  · rw [pk_un e]
    exact h c (by omega)
theorem aj_rdL_n {k : Nat} {l : Nat → Int32} (h : aj_rdL m n sx l k) (hz : ¬ aj_ans m n sx k) : aj_rdL m n sx l (k + 1) := by
  intro a ha x hx
  rw [h a ha x hx]
  constructor
  · intro z ⟨c, hc, hA, e⟩
    by_cases e2 : c = k
    · subst e2
      exact hz hA
    · exact z ⟨c, by omega, hA, e⟩
  · intro z ⟨c, hc, hA, e⟩
    exact z ⟨c, by omega, hA, e⟩
theorem aj_rdL_y {k : Nat} {l l' : Nat → Int32} (hn : n ≤ 6) (h : aj_rdL m n sx l k) (hm : aj_mark m n k l l') (hz : aj_ans m n sx k) : aj_rdL m n sx l' (k + 1) := by
  intro a ha x hx
  rw [hm a (by omega) x hx, h a ha x hx]
  constructor
  · intro ⟨z1, z2⟩ ⟨c, hc, hA, e⟩
    by_cases e2 : c = k
    · subst e2
      exact z2 ⟨ha, e⟩
    · exact z1 ⟨c, by omega, hA, e⟩
  · intro z
    exact ⟨fun ⟨c, hc, hA, e⟩ => z ⟨c, by omega, hA, e⟩, fun y => z ⟨k, by omega, hz, y.2⟩⟩
theorem ax_find {post : St2 → Prop} (hn : n ≤ 6) (hs : aj_msk m n sc) (h : ∀ a1 l1, aj_rdA m n sx a1 4096 → aj_rdL m n sx l1 4096 → post (fV, fD, fA, fR, nI n, fp, fr, sc, sx, a1, l1, ps)) : wpX_findAnswers post (fV, fD, fA, fR, nI n, fp, fr, sc, sx, an, lv, ps) (nI (aj_cov m n)) := by
  have second : ∀ l, (∀ i, i < 384 → l i = 0) → ∃ n', wX_findAnswers_24 post (nI (aj_cov m n)) n' 0 fV fD fA fR (nI n) fp fr sc sx an l ps := by
    intro l hl
    refine loop_0 (fun n' i s => wX_findAnswers_24 post (nI (aj_cov m n)) n' (nI i) fV fD fA fR (nI n) fp fr sc sx s.1 s.2 ps) (fun i s => aj_rdA m n sx s.1 i ∧ aj_rdL m n sx s.2 i) 4096 (an, l) ⟨lt_0, fun a ha x hx => ?_⟩ ?_ ?_
    · dsimp only
      exact ⟨fun _ ⟨c, hc, _⟩ => absurd hc (Nat.not_lt_zero c), fun _ => hl _ (by omega)⟩
    · intro n' s hI
      exact pk_le 4096 4096 (fun _ => h s.1 s.2 hI.1 hI.2) (fun z => absurd z (by omega))
    · intro n' i s hi hI hw
      refine pk_le 4096 i (fun z => absurd z (by omega)) (fun _ => ax_isAns hn hs hi (fun H => ?_) (fun H => ?_))
      · refine ⟨pk_in i 4096 hi, nm_r (e' := upd s.1 i 1) (by rw [nI_clamp (show i < 2 ^ 31 by omega), aj_nb.1]) ⟨pk_in i 4096 hi, ?_⟩⟩
        rw [nI_clamp (show i < 2 ^ 31 by omega), pk_us]
        exact br_f (by decide) (ax_mark hn hs hi fun l' hl' => nm_r (nI_1 i) (hw (upd s.1 i 1, l') ⟨aj_rdA_s hI.1 ⟨fun z => absurd z (by decide), fun z => absurd H z⟩, aj_rdL_y hn hI.2 hl' H⟩))
      · refine ⟨pk_in i 4096 hi, nm_r (e' := upd s.1 i 0) (by rw [nI_clamp (show i < 2 ^ 31 by omega), aj_nb.2]) ⟨pk_in i 4096 hi, ?_⟩⟩
        rw [nI_clamp (show i < 2 ^ 31 by omega), pk_us]
        exact br_t rfl (nm_r (nI_1 i) (hw (upd s.1 i 0, s.2) ⟨aj_rdA_s hI.1 ⟨fun _ => H, fun _ => rfl⟩, aj_rdL_n hI.2 H⟩))
  refine loop_0 (fun n' i l => wX_findAnswers_2 post (nI (aj_cov m n)) fV fD fA fR (nI n) fp fr n' (nI i) sc sx an l ps) (fun i l => ∀ j, j < i → l j = 0) 384 lv lt_0 ?_ ?_
  · intro n' l hI
    exact pk_le 384 384 (fun _ => second l hI) (fun z => absurd z (by omega))
  · intro n' i l hi hI hw
    refine pk_le 384 i (fun z => absurd z (by omega)) (fun _ => ⟨pk_in i 384 hi, nm_r (e' := upd l i 0) (by rw [nI_clamp (show i < 2 ^ 31 by omega)]) (nm_r (nI_1 i) (hw _ fun j hj => ?_))⟩)
    by_cases e : j = i
    · rw [e, pk_us]
    · rw [pk_un e]
      exact hI j (by omega)
end
end
section
theorem aj_dec (x : Int32) : x < 0 ∨ ∃ j : Nat, j < 2 ^ 31 ∧ x = nI j := by
  by_cases h : x < 0
  · exact Or.inl h
  · exact Or.inr (nI_of h)
theorem aj_nm1 {k : Nat} (h : k < 2 ^ 31) : ¬ nI k = -1 := fun e => by
  have := nI_pos h
  rw [e] at this
  exact this (by decide)
theorem aj_n0 {k : Nat} (h0 : k ≠ 0) (h : k < 2 ^ 31) : ¬ nI k = 0 := nI_ne0 (by omega) h
theorem aj_bo {D j : Nat} {A B : Prop} (hD : D < 2 ^ 31) (hj : j < D) (h : A) : (nI j < 0 → B) ∧ (¬ nI j < 0 → ((nI j < nI D → A) ∧ (¬ nI j < nI D → B))) := br_f (nI_pos (by omega)) (br_t (nI_lt hj hD) h)
theorem aj_shV : ∀ V, V < 7 → (1 : Int32) <<< (nI V &&& 31) = nI (2 ^ V) := by decide +kernel
theorem aj_fstE (an : Nat → Int32) : ∀ d F, F + d = 4096 → ∃ q, aj_fst an F q := by
  intro d
  induction d with
  | zero => exact fun F h => ⟨F, Nat.le_refl _, by omega, fun c h1 h2 => absurd h2 (by omega), fun z => absurd z (by omega)⟩
  | succ d ih =>
    intro F h
    by_cases z : an F = 0
    · obtain ⟨q, q1, q2, q3, q4⟩ := ih (F + 1) (by omega)
      refine ⟨q, by omega, q2, fun c h1 h2 => ?_, q4⟩
      by_cases e : c = F
      · rw [e, z]
      · exact q3 c (by omega) h2
    · exact ⟨F, Nat.le_refl _, by omega, fun c h1 h2 => absurd h2 (by omega), fun _ => z⟩
theorem aj_sk : ∀ p, p < 4096 → ∀ w, w < 6 → (p / 2 ^ (10 - 2 * w) + 1) * 2 ^ (10 - 2 * w) ≤ 4096 := by
  intro p hp w hw
  have e : w = 0 ∨ w = 1 ∨ w = 2 ∨ w = 3 ∨ w = 4 ∨ w = 5 := by omega
  rcases e with e | e | e | e | e | e <;> subst e <;> simp only [Nat.reduceSub, Nat.reduceMul, Nat.reducePow] <;> omega
theorem aj_skF {p w : Nat} (hp : p < 4096) (hw : w < 6) : ((nI p >>> ((10 : Int32) - nI w * 2 &&& 31)) + 1) <<< ((10 : Int32) - nI w * 2 &&& 31) = nI ((p / 2 ^ (10 - 2 * w) + 1) * 2 ^ (10 - 2 * w)) := by
  have := aj_sk p hp w hw
  rw [pk_shrN (by omega) _ _ (aj_shc w hw), nI_1, pk_shlN _ _ (aj_shc w hw) (by omega)]
/-- a row of k digits below D -/
def ap_ok (D k r : Nat) : Prop := r < 4 ^ k ∧ r % 4 < D ∧ r / 4 % 4 < D ∧ r / 16 % 4 < D
/-- the cursors stand at the start, on an assignment, or behind the last -/
def ap_ps (ps : Nat → Int32) : Prop := ∀ i, i < 2 → ps i = -1 ∨ ∃ p, p ≤ 4096 ∧ ps i = nI p
theorem ap_ps_upd {ps : Nat → Int32} {i q : Nat} (h : ap_ps ps) (hq : q ≤ 4096) : ap_ps (upd ps i (nI q)) := by
  intro j hj
  by_cases e : j = i
  · subst e
    rw [pk_us]
    exact Or.inr ⟨q, hq, rfl⟩
  · rw [pk_un e]
    exact h j hj
theorem ap_ps_rew {ps : Nat → Int32} {i : Nat} (h : ap_ps ps) : ap_ps (upd ps i (-1)) := by
  intro j hj
  by_cases e : j = i
  · subst e
    rw [pk_us]
    exact Or.inl rfl
  · rw [pk_un e]
    exact h j hj
theorem ap_ps0 {ps : Nat → Int32} : ap_ps (upd (upd ps 0 (-1)) 1 (-1)) := by
  intro i hi
  have e : i = 0 ∨ i = 1 := by omega
  rcases e with e | e <;> subst e <;> exact Or.inl rfl
section
variable {V D AL n : Nat} {fV fD fA fR fp rs : Int32} {sc sx an lv ps : Nat → Int32} {m : Nat → Nat}
theorem aq_okA {post : Int32 → Prop} {a : Nat} (hn : n ≤ 6) (hb : a < n) (h : post 0) : wpX_isBadAtom post (fV, fD, fA, fR, nI n, fp, rs, sc, sx, an, lv, ps) (nI a) := aj_bo (by omega) hb h
theorem aq_okV {post : Int32 → Prop} {a : Nat} (hn : D ≤ 4) (hb : a < D) (h : post 0) : wpX_isBadValue post (fV, nI D, fA, fR, nI n, fp, rs, sc, sx, an, lv, ps) (nI a) := aj_bo (by omega) hb h
theorem aq_okC {post : Int32 → Prop} {i : Nat} (h : i < 2) (hp : post 0) : wpX_isBadCursor post () (nI i) := br_f (nI_pos (by omega)) (br_t (nI_lt (b := 2) h (by decide)) hp)
theorem aq_okW {post : Int32 → Prop} {w : Nat} (hV : V ≤ 6) (hb : w < V) (h : post 0) : wpX_isBadVariable post (nI V, fD, fA, fR, nI n, fp, rs, sc, sx, an, lv, ps) (nI w) := aj_bo (by omega) hb h
theorem aq_addAtom {post : Int32 → St2 → Prop} {s : Nat} (hV : V ≤ 6) (hA : AL ≤ 6) (hn : n < AL) (h0 : 0 < s) (h1 : s < 2 ^ V) (h2 : aj_sz s 6 < 4) (h : post (nI n) (nI V, fD, nI AL, fR, nI (n + 1), nI 0, rs, upd sc n (nI s), sx, an, lv, ps)) : wpX_addAtom post (nI V, fD, nI AL, fR, nI n, nI 0, rs, sc, sx, an, lv, ps) (nI s) := by
  have hV' := aj_p2 hV
  have h2' : ¬ (1 : Int32) <<< (nI V &&& 31) ≤ nI s := by
    rw [aj_shV V (by omega)]
    exact nI_ge (by omega) (by omega)
  exact br_t rfl (br_f (nI_nlt (b := 1) (by omega) (by omega)) (br_f h2' (ax_sizeOf rfl (by omega) (br_t (nI_le (b := 3) (by omega) (by decide)) (br_t rfl (br_t (nI_lt hn (by omega)) ⟨pk_in n 6 (by omega), nm_r (by rw [nI_clamp (show n < 2 ^ 31 by omega)]) (nm_r (nI_1 n) h)⟩))))))
theorem aq_scope {post : Int32 → Prop} {a : Nat} (hn : n ≤ 6) (ha : a < n) (h : post (sc a)) : wpX_scope post (fV, fD, fA, fR, nI n, fp, rs, sc, sx, an, lv, ps) (nI a) := by
  unfold wpX_scope
  dsimp only
  exact aq_okA hn ha (br_t rfl ⟨pk_in a 6 (by omega), by rw [aj_at sc (show a < 2 ^ 31 by omega)]; exact h⟩)
theorem aq_slot {post : Int32 → Prop} {a r : Nat} (hV : V ≤ 6) (hn : n ≤ 6) (hD : D ≤ 4) (hs : aj_scp m V n sc) (ha : a < n) (hok : ap_ok D (aj_sz (m a) 6) r) (h : post (nI (a * 64 + r))) : wpX_slotOfRow post (fV, nI D, fA, fR, nI n, fp, rs, sc, sx, an, lv, ps) (nI a) (nI (r % 4)) (nI (r / 4 % 4)) (nI (r / 16 % 4)) := by
  obtain ⟨e, p0, p1, p2⟩ := hs a ha
  obtain ⟨hr, d0, d1, d2⟩ := hok
  have h64 : m a < 64 := Nat.lt_of_lt_of_le p1 (aj_p2 hV)
  have hz := aj_sz_1 (m a) h64 p0
  have hat : sc (nI a).toNatClampNeg = nI (m a) := (aj_at sc (by omega)).trans e
  refine ⟨pk_in a 6 (by omega), ax_sizeOf hat h64 (aq_okV hD d0 (br_t rfl ?_))⟩
  have es : aj_sz (m a) 6 = 1 ∨ aj_sz (m a) 6 = 2 ∨ aj_sz (m a) 6 = 3 := by omega
  rcases es with s1 | s1 | s1
  · rw [s1] at hr ⊢
    have hr' : r < 4 := hr
    refine br_t (by decide) (br_t (by decide) ?_)
    rw [aj_ix, Nat.mod_eq_of_lt hr']
    exact h
  · rw [s1] at hr ⊢
    have hr' : r < 16 := hr
    refine br_f (by decide) (aq_okV hD d1 (br_t rfl (nm_r (aj_or2 _ (by omega) _ (by omega)) (br_t (by decide) ?_))))
    rw [aj_ix, show r % 4 + r / 4 % 4 * 4 = r by omega]
    exact h
  · rw [s1] at hr ⊢
    have hr' : r < 64 := hr
    refine br_f (by decide) (aq_okV hD d1 (br_t rfl (nm_r (aj_or2 _ (by omega) _ (by omega)) (br_f (by decide) (aq_okV hD d2 (br_t rfl (nm_r (aj_or3 _ (by omega) _ (by omega)) ?_)))))))
    rw [aj_ix, show r % 4 + r / 4 % 4 * 4 + r / 16 % 4 * 16 = r by omega]
    exact h
theorem ap_ok64 {k r : Nat} (hk : k < 4) (h : ap_ok D k r) : r < 64 := Nat.lt_of_lt_of_le h.1 (aj_p4 hk)
theorem aq_addRow {post : Int32 → St2 → Prop} {a r : Nat} (hV : V ≤ 6) (hn : n ≤ 6) (hD : D ≤ 4) (hs : aj_scp m V n sc) (ha : a < n) (hok : ap_ok D (aj_sz (m a) 6) r) (h0 : post 0 (fV, nI D, fA, fR, nI n, nI 0, rs, sc, upd sx (a * 64 + r) 1, an, lv, ps)) (h1 : ∀ rc : Int32, ¬ rc = 0 → post rc (fV, nI D, fA, fR, nI n, nI 0, rs, sc, sx, an, lv, ps)) : wpX_addRow post (fV, nI D, fA, fR, nI n, nI 0, rs, sc, sx, an, lv, ps) (nI a) (nI (r % 4)) (nI (r / 4 % 4)) (nI (r / 16 % 4)) := by
  have hr := ap_ok64 (hs a ha).2.2.2 hok
  refine br_t rfl (aq_okA hn ha (br_t rfl (aq_slot hV hn hD hs ha hok (br_f (aj_nm1 (by omega)) ⟨pk_in (a * 64 + r) 384 (by omega), br_c (fun _ => ax_rows (by omega) (br_c (fun _ => ⟨pk_in (a * 64 + r) 384 (by omega), nm_r (by rw [nI_clamp (show a * 64 + r < 2 ^ 31 by omega)]) h0⟩) (fun _ => h1 _ (by decide)))) (fun _ => h1 _ (by decide))⟩))))
theorem aq_dropRow {post : Int32 → St2 → Prop} {a r : Nat} (hV : V ≤ 6) (hn : n ≤ 6) (hD : D ≤ 4) (hs : aj_scp m V n sc) (ha : a < n) (hok : ap_ok D (aj_sz (m a) 6) r) (h0 : post 0 (fV, nI D, fA, fR, nI n, nI 0, rs, sc, upd sx (a * 64 + r) 0, an, lv, ps)) (h1 : ∀ rc : Int32, ¬ rc = 0 → post rc (fV, nI D, fA, fR, nI n, nI 0, rs, sc, sx, an, lv, ps)) : wpX_dropRow post (fV, nI D, fA, fR, nI n, nI 0, rs, sc, sx, an, lv, ps) (nI a) (nI (r % 4)) (nI (r / 4 % 4)) (nI (r / 16 % 4)) := by
  have hr := ap_ok64 (hs a ha).2.2.2 hok
  refine br_t rfl (aq_okA hn ha (br_t rfl (aq_slot hV hn hD hs ha hok (br_f (aj_nm1 (by omega)) ⟨pk_in (a * 64 + r) 384 (by omega), br_c (fun _ => h1 _ (by decide)) (fun _ => ⟨pk_in (a * 64 + r) 384 (by omega), nm_r (by rw [nI_clamp (show a * 64 + r < 2 ^ 31 by omega)]) h0⟩)⟩))))
theorem aq_compile {post : Int32 → St2 → Prop} (hn : n ≤ 6) (hz : n ≠ 0) (hm : aj_msk m n sc) (h2 : ∀ K, aj_res m n K → K ≠ 0 → post 2 (fV, fD, fA, fR, nI n, nI 2, nI K, sc, sx, an, lv, upd (upd ps 0 (-1)) 1 (-1))) (h1 : aj_res m n 0 → ∀ a1 l1, aj_rdA m n sx a1 4096 → aj_rdL m n sx l1 4096 → post 1 (fV, fD, fA, fR, nI n, nI 1, nI 0, sc, sx, a1, l1, upd (upd ps 0 (-1)) 1 (-1))) : wpX_compile post (fV, fD, fA, fR, nI n, nI 0, rs, sc, sx, an, lv, ps) := by
  refine br_t rfl (br_f (aj_n0 hz (by omega)) (ax_put (ax_cov hn hm (ax_residue hn hm fun K hres => ?_))))
  have h64 := hres.1.1
  refine pk_eq K 0 (fun e => ?_) (fun e => h2 K hres e)
  subst e
  exact ax_find hn hm fun a1 l1 hA hL => h1 hres a1 l1 hA hL
theorem aq_reopen {post : Int32 → St2 → Prop} {ph : Nat} (hp : ph ≠ 0) (h2 : ph ≤ 2) (h : post 0 (fV, fD, fA, fR, nI n, nI 0, rs, sc, sx, an, lv, ps)) : wpX_reopen post (fV, fD, fA, fR, nI n, nI ph, rs, sc, sx, an, lv, ps) := br_f (aj_n0 hp (by omega)) h
theorem aq_next {post : Int32 → St2 → Prop} {i F q : Nat} (hi : i < 2) (hp : ps i + 1 = nI F) (hF : F ≤ 4096) (hq : aj_fst an F q) (h : post (aj_out1 q) (fV, fD, fA, fR, nI n, nI 1, rs, sc, sx, an, lv, upd ps i (nI q))) : wpX_next post (fV, fD, fA, fR, nI n, nI 1, rs, sc, sx, an, lv, ps) (nI i) := by
  have hne : ¬ ps i = 4096 := fun e => by
    rw [e] at hp
    have : nI 4097 = nI F := hp
    rw [nI_eq (by decide) (by omega)] at this
    omega
  refine br_t rfl (aq_okC hi (br_t rfl ⟨pk_in i 2 hi, ?_⟩))
  rw [aj_at ps (show i < 2 ^ 31 by omega)]
  exact nm_e (br_f hne (ax_move hp hi hq h))
theorem aq_nextE {post : Int32 → St2 → Prop} {i : Nat} (hi : i < 2) (hp : ps i = 4096) (h : post (-8) (fV, fD, fA, fR, nI n, nI 1, rs, sc, sx, an, lv, ps)) : wpX_next post (fV, fD, fA, fR, nI n, nI 1, rs, sc, sx, an, lv, ps) (nI i) := by
  refine br_t rfl (aq_okC hi (br_t rfl ⟨pk_in i 2 hi, ?_⟩))
  rw [aj_at ps (show i < 2 ^ 31 by omega)]
  exact nm_e (br_t hp h)
theorem aq_nextN {post : Int32 → St2 → Prop} {i : Nat} (hi : i < 2) (hp : ap_ps ps) (h : ∀ r ps', ap_ps ps' → (∀ j, j ≠ i → ps' j = ps j) → post r (fV, fD, fA, fR, nI n, nI 1, rs, sc, sx, an, lv, ps')) : wpX_next post (fV, fD, fA, fR, nI n, nI 1, rs, sc, sx, an, lv, ps) (nI i) := by
  rcases hp i hi with e | ⟨p, p1, e⟩
  · obtain ⟨q, hq⟩ := aj_fstE an 4096 0 rfl
    exact aq_next (F := 0) hi (by rw [e]; rfl) (by omega) hq (h _ _ (ap_ps_upd hp hq.2.1) fun j hj => pk_un hj)
  · by_cases z : p = 4096
    · subst z
      exact aq_nextE hi e (h _ _ hp fun _ _ => rfl)
    · obtain ⟨q, hq⟩ := aj_fstE an (4096 - (p + 1)) (p + 1) (by omega)
      exact aq_next (F := p + 1) hi (by rw [e, nI_1]) (by omega) hq (h _ _ (ap_ps_upd hp hq.2.1) fun j hj => pk_un hj)
theorem aq_skipN {post : Int32 → St2 → Prop} {i w : Nat} (hV : V ≤ 6) (hw : w < V) (hi : i < 2) (hp : ap_ps ps) (h : ∀ r ps', ap_ps ps' → (∀ j, j ≠ i → ps' j = ps j) → post r (nI V, fD, fA, fR, nI n, nI 1, rs, sc, sx, an, lv, ps')) : wpX_skip post (nI V, fD, fA, fR, nI n, nI 1, rs, sc, sx, an, lv, ps) (nI i) (nI w) := by
  refine br_t rfl (aq_okC hi (br_t rfl (aq_okW hV hw (br_t rfl ⟨pk_in i 2 hi, ?_⟩))))
  rw [aj_at ps (show i < 2 ^ 31 by omega)]
  rcases hp i hi with e | ⟨p, p1, e⟩
  · obtain ⟨q, hq⟩ := aj_fstE an 4096 0 rfl
    rw [e]
    exact nm_e (br_f (by decide) (br_t rfl (ax_move (F := 0) rfl hi hq (h _ _ (ap_ps_upd hp hq.2.1) fun j hj => pk_un hj))))
  · rw [e]
    by_cases z : p = 4096
    · subst z
      exact nm_e (br_t rfl (h _ _ hp fun _ _ => rfl))
    · have hne : ¬ nI p = 4096 := fun y => z ((nI_eq (b := 4096) (by omega) (by decide)).mp y)
      obtain ⟨q, hq⟩ := aj_fstE an (4096 - (p / 2 ^ (10 - 2 * w) + 1) * 2 ^ (10 - 2 * w)) _ (by
        have := aj_sk p (by omega) w (by omega)
        exact Nat.add_sub_of_le this)
      exact nm_e (br_f hne (br_f (aj_nm1 (by omega)) (nm_e (nm_e (ax_move (aj_skF (by omega) (by omega)) hi hq (h _ _ (ap_ps_upd hp hq.2.1) fun j hj => pk_un hj))))))
theorem aq_rewind {post : Int32 → St2 → Prop} {i : Nat} (hi : i < 2) (h : post 0 (fV, fD, fA, fR, nI n, nI 1, rs, sc, sx, an, lv, upd ps i (-1))) : wpX_rewind post (fV, fD, fA, fR, nI n, nI 1, rs, sc, sx, an, lv, ps) (nI i) :=
  br_t rfl (aq_okC hi (br_t rfl ⟨pk_in i 2 hi, nm_r (by rw [nI_clamp (show i < 2 ^ 31 by omega)]) h⟩))
theorem aq_value {post : Int32 → Prop} {i w p : Nat} (hV : V ≤ 6) (hw : w < V) (hi : i < 2) (hp : ps i = nI p) (h4 : p < 4096) (h : post (nI (aj_val p w))) : wpX_value post (nI V, fD, fA, fR, nI n, nI 1, rs, sc, sx, an, lv, ps) (nI i) (nI w) := by
  refine br_t rfl (aq_okC hi (br_t rfl (aq_okW hV hw (br_t rfl ⟨pk_in i 2 hi, ?_⟩))))
  rw [aj_at ps (show i < 2 ^ 31 by omega), hp]
  exact nm_e (br_f (aj_nm1 (by omega)) (br_f (fun y => by have := (nI_eq (b := 4096) (by omega) (by decide)).mp y; omega) (ax_valueIn h4 (by omega) h)))
theorem aq_live {post : Int32 → Prop} {a : Nat} (hn : n ≤ 6) (ha : a < n) (h : post (nI (aj_cn (fun i => lv (a * 64 + i)) 64))) : wpX_live post (fV, fD, fA, fR, nI n, nI 1, rs, sc, sx, an, lv, ps) (nI a) :=
  br_t rfl (aq_okA hn ha (br_t rfl (ax_rows (by omega) h)))
theorem aq_count {post : Int32 → Prop} (h : post (nI (aj_cn an 4096))) : wpX_count post (fV, fD, fA, fR, nI n, nI 1, rs, sc, sx, an, lv, ps) := br_t rfl (ax_count h)
theorem aq_rowState {post : Int32 → Prop} {a r : Nat} (hV : V ≤ 6) (hn : n ≤ 6) (hD : D ≤ 4) (hs : aj_scp m V n sc) (ha : a < n) (hok : ap_ok D (aj_sz (m a) 6) r) (hx : ¬ sx (a * 64 + r) = 0) (h0 : lv (a * 64 + r) = 0 → post 3) (h1 : ¬ lv (a * 64 + r) = 0 → post 2) : wpX_rowState post (fV, nI D, fA, fR, nI n, nI 1, rs, sc, sx, an, lv, ps) (nI a) (nI (r % 4)) (nI (r / 4 % 4)) (nI (r / 16 % 4)) := by
  have hr := ap_ok64 (hs a ha).2.2.2 hok
  unfold wpX_rowState
  dsimp only
  refine aq_okA hn ha (br_t rfl (aq_slot hV hn hD hs ha hok (br_f (aj_nm1 (by omega)) ⟨pk_in (a * 64 + r) 384 (by omega), ?_⟩)))
  rw [aj_at sx (show a * 64 + r < 2 ^ 31 by omega), aj_at lv (show a * 64 + r < 2 ^ 31 by omega)]
  exact br_f hx (br_t rfl ⟨pk_in (a * 64 + r) 384 (by omega), br_c h0 h1⟩)
end
end
section
/-! what the law's own helpers answer -/
theorem al_cell {post : Int32 → Prop} {L k : Nat} {xs : Nat → Int32} {x : Int32} (hL : L ≤ 260) (hx : x = nI k) (hk : k < 2 ^ 31) (h : ∀ r, post r) : wpL_cell post L xs () x := by
  subst hx
  exact pk_le L k (fun _ => h 0) (fun z => ⟨pk_in k L z, h _⟩)
theorem al_pick {post : Int32 → Prop} {L : Nat} {xs : Nat → Int32} {x y : Int32} (hL : L ≤ 260) (k : Nat) (hx : x = nI k) (hk : k < 2 ^ 31) (M : Nat) (hy : y = nI M) (h0 : 0 < M) (hM : M < 2 ^ 31) (h : ∀ j, j < M → post (nI j)) : wpL_pick post L xs () x y := by
  subst hy
  unfold wpL_pick
  refine al_cell hL hx hk fun r => ?_
  intro a _ b _ c _ d _
  obtain ⟨j, hj, e⟩ := pk_andE d (m := 2147483647) 31 (by decide)
  refine ⟨aj_n0 (by omega) hM, ?_⟩
  rw [e, pk_rem hj h0 hM]
  exact h _ (Nat.mod_lt _ h0)
theorem al_tb1 {x : Int32} {k v : Nat} {A B : Prop} (hx : x = nI k) (hm : k < 64) (hv : v < 6) (h1 : k.testBit v = true → A) (h0 : ¬ k.testBit v = true → B) : (((x >>> (nI v &&& 31)) &&& 1) = 1 → A) ∧ (¬ ((x >>> (nI v &&& 31)) &&& 1) = 1 → B) := by
  subst hx
  rw [aj_bit k hm v hv]
  cases hb : k.testBit v
  · exact br_f (by decide) (h0 (by rw [hb]; decide))
  · exact br_t (by decide) (h1 hb)
theorem al_tb0 {x : Int32} {k v : Nat} {A B : Prop} (hx : x = nI k) (hm : k < 64) (hv : v < 6) (h1 : k.testBit v = true → B) (h0 : ¬ k.testBit v = true → A) : (((x >>> (nI v &&& 31)) &&& 1) = 0 → A) ∧ (¬ ((x >>> (nI v &&& 31)) &&& 1) = 0 → B) := by
  subst hx
  rw [aj_bit k hm v hv]
  cases hb : k.testBit v
  · exact br_t (by decide) (h0 (by rw [hb]; decide))
  · exact br_f (by decide) (h1 hb)
/-- the scopes, packed -/
def ap_pk (m : Nat → Nat) : Nat → Nat
  | 0 => 0
  | n + 1 => ap_pk m n + m n * 64 ^ n
def ap_sc (m : Nat → Nat) (n a : Nat) : Nat := if a < n then m a else 0
theorem ap_pk_lt {m : Nat → Nat} : ∀ n, (∀ b, b < n → m b < 64) → ap_pk m n < 64 ^ n
  | 0, _ => by show 0 < 64 ^ 0; decide
  | n + 1, h => by
    have h1 := ap_pk_lt n fun b hb => h b (by omega)
    have h2 : m n * 64 ^ n ≤ 63 * 64 ^ n := Nat.mul_le_mul_right _ (by have := h n (by omega); omega)
    rw [ap_pk, Nat.pow_succ]
    omega
theorem ap_pk_at {m : Nat → Nat} {a : Nat} : ∀ n, (∀ b, b < n → m b < 64) → ap_pk m n / 64 ^ a % 64 = ap_sc m n a
  | 0, _ => by rw [ap_pk, Nat.zero_div, ap_sc, if_neg (by omega)]
  | n + 1, h => by
    have h0 := ap_pk_lt n fun b hb => h b (by omega)
    have ih := ap_pk_at (m := m) (a := a) n fun b hb => h b (by omega)
    have hn := h n (by omega)
    rw [ap_pk]
    rcases Nat.lt_trichotomy a n with z | z | z
    · obtain ⟨d, rfl⟩ : ∃ d, n = a + (d + 1) := ⟨n - a - 1, by omega⟩
      have e : m (a + (d + 1)) * 64 ^ (a + (d + 1)) = (m (a + (d + 1)) * 64 ^ d * 64) * 64 ^ a := by
        rw [Nat.pow_add, Nat.pow_succ, Nat.mul_assoc, Nat.mul_assoc, Nat.mul_comm (64 ^ a)]
        rw [Nat.mul_assoc]
      rw [e, Nat.add_mul_div_right _ _ (Nat.pow_pos (by decide)), Nat.add_mul_mod_self_right, ih, ap_sc, ap_sc, if_pos z, if_pos (by omega)]
    · subst z
      rw [Nat.add_mul_div_right _ _ (Nat.pow_pos (by decide)), Nat.div_eq_of_lt h0, Nat.zero_add, Nat.mod_eq_of_lt hn, ap_sc, if_pos (by omega)]
    · have h1 := ap_pk_lt (m := m) (n + 1) h
      have h2 : 64 ^ (n + 1) ≤ 64 ^ a := Nat.pow_le_pow_right (by decide) z
      rw [ap_pk] at h1
      rw [Nat.div_eq_of_lt (by omega), ap_sc, if_neg (by omega)]
theorem ap_pk_36 {m : Nat → Nat} {n : Nat} (hn : n ≤ 6) (h : ∀ b, b < n → m b < 64) : ap_pk m n < 2 ^ 36 :=
  Nat.lt_of_lt_of_le (ap_pk_lt n h) (Nat.le_trans (Nat.pow_le_pow_right (by decide) hn) (by decide))
theorem al_and63 (n : Nat) : nI n &&& 63 = nI (n % 64) := by
  have : nI n &&& nI 63 = nI (n &&& 63) := nx_and n 63
  rw [show n &&& 63 = n % 64 from Nat.and_two_pow_sub_one_eq_mod n 6] at this
  exact this
theorem al_scopeAt {post : Int32 → Prop} {m : Nat → Nat} {n a : Nat} {x : Int32} (hn : n ≤ 6) (hm : ∀ b, b < n → m b < 64) (hx : x = nI a) (ha : a < 6) (h : post (nI (ap_sc m n a))) : wpL_scopeAt post () (lN (ap_pk m n)) x := by
  subst hx
  unfold wpL_scopeAt
  have h36 := ap_pk_36 hn hm
  rw [show (6 : Int32) * nI a = nI (6 * a) from pk_mul 6 a, wb_shr (by omega) (by omega), lN_i, al_and63, show 2 ^ (6 * a) = 64 ^ a from by rw [Nat.pow_mul], ap_pk_at n hm]
  exact h
theorem al_bits {post : Int32 → Prop} {x : Int32} {k : Nat} (hx : x = nI k) (hm : k < 64) (h : post (nI (aj_sz k 6))) : wpL_bits post () x := by
  subst hx
  exact loop_0 (fun n' i (_ : Unit) => wL_bits_4 post (nI k) n' (nI (aj_sz k i)) (nI i)) (fun _ _ => True) 6 () trivial
    (fun n' _ _ => pk_le 6 6 (fun _ => h) (fun z => absurd z (by omega)))
    (fun n' i _ hi _ hw => pk_le 6 i (fun z => absurd z (by omega)) (fun _ => nm_r (e' := nI (aj_sz k (i + 1))) (by rw [aj_bit k hm i hi, nI_add]; rfl) (nm_r (nI_1 i) (hw () trivial))))
theorem al_dig {post : Int32 → Prop} {V p v : Nat} (h3 : 3 ≤ V) (h6 : V ≤ 6) (hp : p < 4096) (hv : v < V) (h : post (nI (aj_val (ap_up6 V p) v))) : wpL_digit post () (nI p) (nI v) (nI V) := by
  unfold wpL_digit
  rw [show nI V - 1 = nI (V - 1) from pk_sub (b := 1) (by omega), pk_sub (show v ≤ V - 1 by omega), show (2 : Int32) * nI (V - 1 - v) = nI (2 * (V - 1 - v)) from pk_mul 2 _, pk_shrN (by omega) _ _ (s_l _ (by omega)), pk_andN (Nat.lt_of_le_of_lt (Nat.div_le_self _ _) (by omega)) 2 (by decide)]
  rw [ap_dig h3 h6 hv] at h
  exact h
def ap_leg (V D used c : Nat) : Prop := ∀ v, v < V → aj_val c v < D ∧ (0 < aj_val c v → used.testBit v = true)
theorem al_legal {post : Int32 → Prop} {V D p used : Nat} (h3 : 3 ≤ V) (h6 : V ≤ 6) (hD : D ≤ 4) (hp : p < 4096) (hu : used < 64) (h1 : ap_leg V D used (ap_up6 V p) → post 1) (h0 : ¬ ap_leg V D used (ap_up6 V p) → post 0) : wpL_legal post () (nI p) (nI used) (nI V) (nI D) :=
  loop_0 (fun n' i (_ : Unit) => wL_legal_3 post (nI p) (nI used) (nI V) (nI D) n' (nI i)) (fun i _ => ∀ v, v < i → aj_val (ap_up6 V p) v < D ∧ (0 < aj_val (ap_up6 V p) v → used.testBit v = true)) V () lt_0
    (fun n' _ hI => pk_le V V (fun _ => h1 hI) (fun z => absurd z (by omega)))
    (fun n' i _ hi hI hw => pk_le V i (fun z => absurd z (by omega)) (fun _ => al_dig h3 h6 hp hi (by
      have hv := aj_val_lt (ap_up6 V p) i
      refine pk_le D (aj_val (ap_up6 V p) i) (fun z => h0 fun H => absurd (H i hi).1 (by omega)) (fun z => pk_le (aj_val (ap_up6 V p) i) 0 (fun y => nm_r (nI_1 i) (hw () (lt_s hI ⟨z, fun q => absurd q (by omega)⟩))) (fun y => ?_))
      exact al_tb0 rfl hu (by omega) (fun hb => nm_r (nI_1 i) (hw () (lt_s hI ⟨z, fun _ => hb⟩))) (fun hb => h0 fun H => hb ((H i hi).2 y)))))
theorem al_proj {post : Int32 → Prop} {V p k : Nat} (h3 : 3 ≤ V) (h6 : V ≤ 6) (hp : p < 4096) (hk : k < 64) (h4 : aj_sz k 6 < 4) (h : post (nI (aj_kx k (ap_up6 V p) V))) : wpL_proj post () (nI p) (nI k) (nI V) :=
  loop_0 (fun n' i (_ : Unit) => wL_proj_8 post (nI p) (nI k) (nI V) n' (nI (aj_kx k (ap_up6 V p) i)) (nI (2 * aj_sz k i)) (nI i)) (fun _ _ => True) V () trivial
    (fun n' _ _ => pk_le V V (fun _ => h) (fun z => absurd z (by omega)))
    (fun n' i _ hi _ hw => pk_le V i (fun z => absurd z (by omega)) (fun _ => al_tb1 rfl hk (by omega)
      (fun hb => al_dig h3 h6 hp hi (nm_r (aj_orK _ (by
          have h5 := aj_sz_mono k (a := i + 1) 6 (by omega)
          rw [aj_sz_t hb] at h5
          omega) _ (aj_kx_lt k _ i) _ (aj_val_lt _ i)) (nm_r (e' := nI (2 * (aj_sz k i + 1))) (nI_add _ 2) (nm_r (nI_1 i) (by
          have := hw () trivial
          rw [aj_sz_t hb, aj_kx, if_pos hb] at this
          exact this)))))
      (fun hb => nm_r (nI_1 i) (by
          have := hw () trivial
          rw [aj_sz_f hb, aj_kx, if_neg hb] at this
          exact this))))
/-! a long as 64 bits -/
def al_b (x : Int64) (i : Nat) : Bool := x.toBitVec.getLsbD i
theorem al_t (x : Int64) {r : Nat} (hr : r < 64) : ((x.toUInt64 >>> ((nI r).toInt64.toUInt64 &&& Int64.toUInt64 63)).toInt64 &&& 1) = lN (al_b x r).toNat := by
  obtain ⟨n, hn, rfl⟩ := wb_of x
  rw [wb_bit hn hr, al_b, wb_tb, BitVec.getLsbD_ofNat, decide_eq_true hr, Bool.true_and, Nat.toNat_testBit]
theorem al_t1 {x : Int64} {r : Nat} {A B : Prop} (hr : r < 64) (h1 : al_b x r = true → A) (h0 : al_b x r = false → B) : (((x.toUInt64 >>> ((nI r).toInt64.toUInt64 &&& Int64.toUInt64 63)).toInt64 &&& 1) = 1 → A) ∧ (¬ ((x.toUInt64 >>> ((nI r).toInt64.toUInt64 &&& Int64.toUInt64 63)).toInt64 &&& 1) = 1 → B) := by
  rw [al_t x hr]
  cases hb : al_b x r
  · exact br_f (by decide) (h0 hb)
  · exact br_t (by decide) (h1 hb)
theorem al_t0 {x : Int64} {r : Nat} {A B : Prop} (hr : r < 64) (h1 : al_b x r = true → B) (h0 : al_b x r = false → A) : (((x.toUInt64 >>> ((nI r).toInt64.toUInt64 &&& Int64.toUInt64 63)).toInt64 &&& 1) = 0 → A) ∧ (¬ ((x.toUInt64 >>> ((nI r).toInt64.toUInt64 &&& Int64.toUInt64 63)).toInt64 &&& 1) = 0 → B) := by
  rw [al_t x hr]
  cases hb : al_b x r
  · exact br_t (by decide) (h0 hb)
  · exact br_f (by decide) (h1 hb)
theorem al_one {r i : Nat} (hr : r < 64) (hi : i < 64) : ((1 : Int64) <<< ((nI r).toInt64 &&& 63)).toBitVec.getLsbD i = decide (r = i) := by
  have e : (1 : Int64) <<< ((nI r).toInt64 &&& 63) = lN (2 ^ r) := (wb_shl 1 hr).trans (by rw [Nat.one_mul])
  rw [e, wb_tb, BitVec.getLsbD_ofNat, Nat.testBit_two_pow, decide_eq_true hi, Bool.true_and]
theorem al_or {x : Int64} {r i : Nat} (hr : r < 64) (hi : i < 64) : al_b (x ||| ((1 : Int64) <<< ((nI r).toInt64 &&& 63))) i = (al_b x i || decide (r = i)) := by
  unfold al_b
  rw [Int64.toBitVec_or, BitVec.getLsbD_or, al_one hr hi]
theorem al_andn {x : Int64} {r i : Nat} (hr : r < 64) (hi : i < 64) : al_b (x &&& (((1 : Int64) <<< ((nI r).toInt64 &&& 63)) ^^^ (-1))) i = (al_b x i && !decide (r = i)) := by
  unfold al_b
  rw [Int64.toBitVec_and, Int64.toBitVec_xor, BitVec.getLsbD_and, BitVec.getLsbD_xor, al_one hr hi, show (-1 : Int64).toBitVec = BitVec.allOnes 64 from by decide, BitVec.getLsbD_allOnes, decide_eq_true hi, Bool.xor_true]
theorem al_z (i : Nat) : al_b 0 i = false := by
  unfold al_b
  exact BitVec.getLsbD_zero
theorem al_has {post : Int32 → Prop} {V p k : Nat} {x : Int64} (h3 : 3 ≤ V) (h6 : V ≤ 6) (hp : p < 4096) (hk : k < 64) (h4 : aj_sz k 6 < 4) (h1 : (k = 0 ∨ al_b x (aj_kx k (ap_up6 V p) V) = true) → post 1) (h0 : ¬ (k = 0 ∨ al_b x (aj_kx k (ap_up6 V p) V) = true) → post 0) : wpL_has post () x (nI p) (nI k) (nI V) := by
  refine pk_eq k 0 (fun z => h1 (Or.inl z)) (fun z => al_proj h3 h6 hp hk h4 ?_)
  have hl : aj_kx k (ap_up6 V p) V < 64 := Nat.lt_of_lt_of_le (aj_kx_lt k _ V) (aj_p4 (Nat.lt_of_le_of_lt (aj_sz_mono k 6 h6) h4))
  exact al_t1 hl (fun hb => h1 (Or.inr hb)) (fun hb => h0 fun H => H.elim z fun y => by rw [hb] at y; exact absurd y (by decide))
theorem al_sel {post : Int64 → Prop} {M : Nat → Int64} {a : Nat} (ha : a < 6) (h : post (M a)) : wpL_sel post () (nI a) (M 0) (M 1) (M 2) (M 3) (M 4) (M 5) := by
  have e : a = 0 ∨ a = 1 ∨ a = 2 ∨ a = 3 ∨ a = 4 ∨ a = 5 := by omega
  rcases e with e | e | e | e | e | e <;> subst e
  · exact br_t rfl h
  · exact br_f (by decide) (br_t rfl h)
  · exact br_f (by decide) (br_f (by decide) (br_t rfl h))
  · exact br_f (by decide) (br_f (by decide) (br_f (by decide) (br_t rfl h)))
  · exact br_f (by decide) (br_f (by decide) (br_f (by decide) (br_f (by decide) (br_t rfl h))))
  · exact br_f (by decide) (br_f (by decide) (br_f (by decide) (br_f (by decide) (br_f (by decide) h))))
theorem ap_d3 : ∀ r, r < 64 → nI r &&& 3 = nI (r % 4) ∧ (nI r >>> ((2 : Int32) &&& 31)) &&& 3 = nI (r / 4 % 4) ∧ (nI r >>> ((4 : Int32) &&& 31)) &&& 3 = nI (r / 16 % 4) := by decide +kernel
end
section
/-! the law's tree -/
def ap_m1 (B : Nat) : Int32 := if B = 0 then -1 else nI (B - 1)
theorem ap_m1_le : ∀ w, w < 8 → ∀ B, B < 9 → (nI w ≤ ap_m1 B ↔ w < B) := by decide +kernel
theorem ap_m1_s (w : Nat) : ap_m1 (w + 1) = nI w := by rw [ap_m1, if_neg (by omega)]; rfl
def ap_bst (m : Nat → Nat) (n : Nat) (I : Nat → Bool) (a b B who : Nat) : Prop := who < 6 ∧ B < 8 ∧ (B = 0 ∨ (who < n ∧ I who = false ∧ ∃ a', a' < n ∧ I a' = true ∧ ap_w m a' who + 1 = B)) ∧ ∀ a' c, a' < n → c < n → (a' < a ∨ (a' = a ∧ c < b)) → I a' = true → I c = false → ap_w m a' c < B
theorem ap_bst_n {m : Nat → Nat} {n a B who : Nat} {I : Nat → Bool} (h : ap_bst m n I a n B who) : ap_bst m n I (a + 1) 0 B who :=
  ⟨h.1, h.2.1, h.2.2.1, fun a' c h1 h2 h3 => h.2.2.2 a' c h1 h2 (by omega)⟩
theorem ap_bst_k {m : Nat → Nat} {n a b B who : Nat} {I : Nat → Bool} (h : ap_bst m n I a b B who) (hk : I a = true → I b = false → ap_w m a b < B) : ap_bst m n I a (b + 1) B who := by
  refine ⟨h.1, h.2.1, h.2.2.1, fun a' c h1 h2 h3 h4 h5 => ?_⟩
  by_cases e : a' = a ∧ c = b
  · obtain ⟨e1, e2⟩ := e
    subst e1
    subst e2
    exact hk h4 h5
  · exact h.2.2.2 a' c h1 h2 (by omega) h4 h5
theorem ap_bst_y {m : Nat → Nat} {n a b B who : Nat} {I : Nat → Bool} (h : ap_bst m n I a b B who) (ha : a < n) (hb : b < n) (hb6 : b < 6) (h1 : I a = true) (h2 : I b = false) (hk : ¬ ap_w m a b < B) : ap_bst m n I a (b + 1) (ap_w m a b + 1) b := by
  have hw := ap_w_6 m a b
  refine ⟨hb6, by omega, Or.inr ⟨hb, h2, a, ha, h1, rfl⟩, fun a' c h3 h4 h5 h6 h7 => ?_⟩
  by_cases e : a' = a ∧ c = b
  · obtain ⟨e1, e2⟩ := e
    subst e1
    subst e2
    omega
  · have := h.2.2.2 a' c h3 h4 (by omega) h6 h7
    omega
theorem ap_sc_lt {m : Nat → Nat} {n a : Nat} (ha : a < n) : ap_sc m n a = m a := if_pos ha
theorem al_97 {post : Int32 → Prop} {J73 J88 : Int32 → Int32 → Int32 → Prop} {m : Nat → Nat} {n a inn B who : Nat} {x3 x4 x6 : Int32} (hn : n ≤ 6) (hm : ∀ b, b < n → m b < 64) (ha : a < n) (hi : inn < 64) (h : ap_bst m n (fun a => inn.testBit a) a 0 B who) (k : ∀ B' who', ap_bst m n (fun a => inn.testBit a) (a + 1) 0 B' who' → J88 (ap_m1 B') (nI who') (nI (a + 1))) : ∃ fu, wL_treeExists_97 post J73 J88 (lN (ap_pk m n)) (nI n) x3 x4 (nI inn) x6 (nI a) fu (ap_m1 B) (nI who) 0 := by
  refine loop_0 (fun n' b (s : Nat × Nat) => wL_treeExists_97 post J73 J88 (lN (ap_pk m n)) (nI n) x3 x4 (nI inn) x6 (nI a) n' (ap_m1 s.1) (nI s.2) (nI b)) (fun b s => ap_bst m n (fun a => inn.testBit a) a b s.1 s.2) n (B, who) h ?_ ?_
  · intro n' s hI
    exact pk_le n n (fun _ => nm_r (nI_1 a) (k s.1 s.2 (ap_bst_n hI))) (fun z => absurd z (by omega))
  · intro n' b s hb hI hw
    refine pk_le n b (fun z => absurd z (by omega)) (fun _ => al_tb1 rfl hi (by omega) (fun h1 => al_tb0 rfl hi (by omega) (fun h2 => nm_r (nI_1 b) (hw s (ap_bst_k hI fun _ z => by (try dsimp only at z); rw [h2] at z; exact absurd z (by decide)))) (fun h2 => ?_)) (fun h1 => nm_r (nI_1 b) (hw s (ap_bst_k hI fun z => absurd z h1))))
    refine al_scopeAt hn hm rfl (by omega) (al_scopeAt hn hm rfl (by omega) (al_bits (k := m a &&& m b) (by rw [ap_sc_lt ha, ap_sc_lt hb, nx_and]) (Nat.and_lt_two_pow (n := 6) (m a) (hm b hb)) ?_))
    have hw6 := ap_w_6 m a b
    have hle := ap_m1_le (ap_w m a b) (by omega) s.1 (by have := hI.2.1; omega)
    refine br_c (fun z => nm_r (nI_1 b) (hw s (ap_bst_k hI fun _ _ => hle.mp z))) (fun z => nm_r (nI_1 b) ?_)
    have := hw (ap_w m a b + 1, b) (ap_bst_y hI ha hb (by omega) h1 (Bool.eq_false_iff.mpr h2) fun y => z (hle.mpr y))
    (try dsimp only at this)
    rw [ap_m1_s] at this
    exact this
theorem al_88 {post : Int32 → Prop} {J73 : Int32 → Int32 → Int32 → Prop} {m : Nat → Nat} {n inn W st : Nat} {x3 : Int32} (hn : n ≤ 6) (hm : ∀ b, b < n → m b < 64) (hi : inn < 64) (h0 : inn.testBit 0 = true) (hc : ap_ct (fun a => inn.testBit a) n = st) (hst : st < n) (k : ∀ best b, ap_stp m n (fun a => inn.testBit a) best b → J73 (nI (W + best)) (nI (inn ||| 2 ^ b)) (nI (st + 1))) : ∃ fu, wL_treeExists_88 post J73 (lN (ap_pk m n)) (nI n) x3 (nI W) (nI inn) (nI st) fu (-1) 0 0 := by
  refine loop_0 (fun n' a (s : Nat × Nat) => wL_treeExists_88 post J73 (lN (ap_pk m n)) (nI n) x3 (nI W) (nI inn) (nI st) n' (ap_m1 s.1) (nI s.2) (nI a)) (fun a s => ap_bst m n (fun a => inn.testBit a) a 0 s.1 s.2) n (0, 0) ⟨by decide, by decide, Or.inl rfl, fun a' c _ _ z => by omega⟩ ?_ ?_
  · intro n' s hI
    obtain ⟨i1, i2, i3, i4⟩ := hI
    have hex : ∃ c, c < n ∧ inn.testBit c = false := Classical.byContradiction fun hno => by
      have := ap_ct_all (p := fun a => inn.testBit a) n fun i hin => by
        cases z : inn.testBit i
        · exact absurd ⟨i, hin, z⟩ hno
        · rfl
      omega
    obtain ⟨c, hc1, hc2⟩ := hex
    have hB := i4 0 c (by omega) hc1 (by omega) h0 hc2
    rcases i3 with z | ⟨w1, w2, a', a1, a2, a3⟩
    · omega
    · refine pk_le n n (fun _ => ?_) (fun z => absurd z (by omega))
      have hk := k (ap_w m a' s.2) s.2 ⟨w1, w2, ⟨a', a1, a2, rfl⟩, fun x y hx hy hIx hIy => by
        have := i4 x y hx hy (by omega) hIx hIy
        omega⟩
      refine nm_r (e' := nI (W + ap_w m a' s.2)) (by rw [← a3, ap_m1_s, nI_add]) (nm_r (e' := nI (inn ||| 2 ^ s.2)) ?_ (nm_r (nI_1 st) hk))
      rw [aj_shV s.2 (by omega), aj_or]
  · intro n' a s ha hI hw
    exact pk_le n a (fun z => absurd z (by omega)) (fun _ => al_97 hn hm ha hi hI fun B' who' h' => hw (B', who') h')
theorem ap_B_congr {m : Nat → Nat} {n : Nat} {I J : Nat → Bool} (h : ∀ a, a < n → I a = J a) : ap_B m n I = ap_B m n J :=
  ap_sm_eq 6 fun v _ => by
    have : ap_oc m n I v = ap_oc m n J v := ap_ct_eq n fun i hi => by
      (try dsimp only)
      rw [h i hi]
    rw [this]
theorem ap_ct_k {p : Nat → Bool} : ∀ k, ap_ct p k ≤ k
  | 0 => Nat.le_refl 0
  | k + 1 => by
    have := ap_ct_k (p := p) k
    have := ap_b1 (p k)
    rw [ap_ct]
    omega
theorem ap_sm_c {f : Nat → Nat} {c : Nat} (h : ∀ i, f i ≤ c) : ∀ k, ap_sm f k ≤ k * c
  | 0 => by show 0 ≤ 0 * c; omega
  | k + 1 => by
    have := ap_sm_c h k
    have := h k
    rw [ap_sm, Nat.succ_mul]
    omega
theorem ap_B_36 {m : Nat → Nat} {n : Nat} {I : Nat → Bool} (hn : n ≤ 6) : ap_B m n I ≤ 36 := by
  have : ap_B m n I ≤ 6 * 6 := ap_sm_c (fun v => by
    have : ap_oc m n I v ≤ n := ap_ct_k n
    omega) 6
  omega
theorem ap_ct_full {p : Nat → Bool} {k : Nat} (h : ap_ct p k = k) : ∀ i, i < k → p i = true := by
  intro i hi
  cases z : p i
  · have := ap_ct_lt (p := p) (q := fun _ => true) k (fun _ _ _ => rfl) i hi z rfl
    have := ap_ct_k (p := fun _ => true) k
    omega
  · rfl
theorem al_73 {post : Int32 → Prop} {m : Nat → Nat} {n K : Nat} (hn0 : 0 < n) (hn : n ≤ 6) (hm : ∀ b, b < n → m b < 64) (hK : aj_res m n K) (h1 : K = 0 → post 1) (h0 : K ≠ 0 → post 0) : ∃ fu, wL_treeExists_73 post (lN (ap_pk m n)) (nI n) (nI (ap_B m n fun _ => true)) fu 0 1 1 := by
  have hB := ap_B_36 (m := m) (n := n) (I := fun _ => true) hn
  have one : ∀ a, Nat.testBit 1 a = decide (0 = a) := fun a => Nat.testBit_two_pow (n := 0)
  refine pk_loop (fun n' st (s : Nat × Nat) => wL_treeExists_73 post (lN (ap_pk m n)) (nI n) (nI (ap_B m n fun _ => true)) n' (nI s.1) (nI s.2) (nI st)) (fun st s => s.2 < 64 ∧ s.2.testBit 0 = true ∧ ap_ct (fun a => s.2.testBit a) n = st ∧ ap_gr m n (fun a => s.2.testBit a) s.1) n 1 (0, 1) (by omega) ⟨by decide, by decide, ?_, ap_gr0 hn0 fun a _ => ?_⟩ ?_ ?_
  · (try dsimp only)
    have e : ap_ct (fun a => Nat.testBit 1 a) n = ap_ct (fun _ => false) n + 1 := ap_ct_add (p := fun _ => false) n 0 hn0 rfl (by decide) fun i hi => by
      (try dsimp only)
      rw [one, decide_eq_false (fun z => hi z.symm)]
    rw [e, ap_ct_0 n fun _ _ => rfl]
  · (try dsimp only)
    rw [one]
    exact ⟨fun z => (of_decide_eq_true z).symm, fun z => decide_eq_true z.symm⟩
  · intro n' s hI
    obtain ⟨i1, i2, i3, i4⟩ := hI
    have hall := ap_ct_full i3
    have hiff := ap_gr_e hm hall i4 hK
    have hWB := i4.1.1
    rw [ap_B_congr (J := fun _ => true) hall] at hiff hWB
    exact pk_le n n (fun _ => pk_eq s.1 (ap_B m n fun _ => true) (fun z => h1 (hiff.mp z)) (fun z => h0 fun y => z (hiff.mpr y))) (fun z => absurd z (by omega))
  · intro n' st s hst hI hw
    obtain ⟨i1, i2, i3, i4⟩ := hI
    refine pk_le n st (fun z => absurd z (by omega)) (fun _ => al_88 hn hm i1 i2 i3 hst fun best b hs => ?_)
    have hb : b < 6 := by have := hs.1; omega
    have hf : (fun a => (s.2 ||| 2 ^ b).testBit a) = ap_put (fun a => s.2.testBit a) b := by
      funext a
      rw [Nat.testBit_or, Nat.testBit_two_pow, ap_put]
      by_cases e : b = a
      · rw [decide_eq_true e, decide_eq_true e.symm]
      · rw [decide_eq_false e, decide_eq_false fun z => e z.symm]
    refine hw (s.1 + best, s.2 ||| 2 ^ b) ⟨Nat.or_lt_two_pow (n := 6) i1 (Nat.pow_lt_pow_right (by decide) hb), ?_, ?_, ?_⟩
    · (try dsimp only)
      rw [Nat.testBit_or, i2]
      rfl
    · (try dsimp only)
      rw [hf, ap_ct_add n b hs.1 hs.2.1 ap_put_b fun i hi => ap_put_n hi, i3]
    · (try dsimp only)
      rw [hf]
      exact ap_gr_s i4 hs
theorem al_tree {post : Int32 → Prop} {m : Nat → Nat} {n K : Nat} (hn0 : 0 < n) (hn : n ≤ 6) (hm : ∀ b, b < n → m b < 64) (hK : aj_res m n K) (h1 : K = 0 → post 1) (h0 : K ≠ 0 → post 0) : wpL_treeExists post () (lN (ap_pk m n)) (nI n) := by
  refine loop_0 (fun n' v (_ : Unit) => wL_treeExists_11 post (lN (ap_pk m n)) (nI n) 0 1 n' (nI (ap_sm (fun v => ap_oc m n (fun _ => true) v - 1) v)) (nI v)) (fun _ _ => True) 6 () trivial ?_ ?_
  · intro n' _ _
    exact pk_le 6 6 (fun _ => al_73 hn0 hn hm hK h1 h0) (fun z => absurd z (by omega))
  · intro n' v _ hv _ hw
    have hw' := hw () trivial
    refine pk_le 6 v (fun z => absurd z (by omega)) (fun _ => loop_0 (fun n'' a (_ : Unit) => wL_treeExists_24 post (wL_treeExists_11 post (lN (ap_pk m n)) (nI n) 0 1 n') (lN (ap_pk m n)) (nI n) (nI (ap_sm (fun v => ap_oc m n (fun _ => true) v - 1) v)) 0 1 (nI v) n'' (nI (ap_ct (fun a => true && (m a).testBit v) a)) (nI a)) (fun _ _ => True) n () trivial ?_ ?_)
    · intro n'' _ _
      have hle : ap_oc m n (fun _ => true) v ≤ n := ap_ct_k n
      have hs : ap_sm (fun v => ap_oc m n (fun _ => true) v - 1) (v + 1) = ap_sm (fun v => ap_oc m n (fun _ => true) v - 1) v + (ap_oc m n (fun _ => true) v - 1) := rfl
      rw [hs] at hw'
      refine pk_le n n (fun _ => pk_le (ap_oc m n (fun _ => true) v) 0 (fun z => nm_r (nI_1 v) ?_) (fun z => nm_r (e' := nI (ap_sm (fun v => ap_oc m n (fun _ => true) v - 1) v + (ap_oc m n (fun _ => true) v - 1))) ?_ (nm_r (nI_1 v) hw'))) (fun z => absurd z (by omega))
      · rw [show ap_oc m n (fun _ => true) v - 1 = 0 by omega, Nat.add_zero] at hw'
        exact hw'
      · show nI _ + (nI (ap_oc m n (fun _ => true) v) - nI 1) = _
        rw [pk_sub (show 1 ≤ ap_oc m n (fun _ => true) v by omega), nI_add]
    · intro n'' a _ ha _ hw2
      refine pk_le n a (fun z => absurd z (by omega)) (fun _ => al_scopeAt hn hm rfl (by omega) (nm_r (e' := nI (ap_ct (fun a => true && (m a).testBit v) (a + 1))) ?_ (nm_r (nI_1 a) (hw2 () trivial))))
      rw [ap_sc_lt ha, aj_bit (m a) (hm a ha) v hv, nI_add]
      rfl
end
section
/-! the picture between the class and the law's own sets of rows -/
def ap_pic (V D AL n : Nat) (m : Nat → Nat) (sc sx : Nat → Int32) (M : Nat → Int64) : Prop :=
  (3 ≤ V ∧ V ≤ 6 ∧ 2 ≤ D ∧ D ≤ 4 ∧ AL ≤ 6 ∧ n ≤ AL) ∧ aj_scp m V n sc ∧ (∀ a, a < n → ∀ r, r < 64 → (¬ sx (a * 64 + r) = 0 ↔ al_b (M a) r = true) ∧ (al_b (M a) r = true → ap_ok D (aj_sz (m a) 6) r)) ∧ ∀ a, n ≤ a → a < 6 → ∀ r, r < 64 → sx (a * 64 + r) = 0 ∧ al_b (M a) r = false
theorem ap_m64 {V D AL n : Nat} {m : Nat → Nat} {sc sx : Nat → Int32} {M : Nat → Int64} (h : ap_pic V D AL n m sc sx M) : ∀ b, b < n → m b < 64 := fun b hb => (aj_msk_of h.1.2.1 h.2.1 b hb).2.1
theorem aj_cn_0 {f : Nat → Int32} : ∀ n, aj_cn f n = 0 ↔ ∀ i, i < n → f i = 0
  | 0 => ⟨fun _ i hi => absurd hi (Nat.not_lt_zero i), fun _ => rfl⟩
  | n + 1 => by
    have ih := aj_cn_0 (f := f) n
    by_cases z : f n = 0
    · rw [aj_cn_z z, ih]
      exact ⟨fun h => lt_s h z, fun h i hi => h i (by omega)⟩
    · rw [aj_cn_p z]
      exact ⟨fun h => by omega, fun h => absurd (h n (by omega)) z⟩
theorem ap_kx_dig {m c v : Nat} (hb : m.testBit v = true) : ∀ k, v < k → aj_kx m c k / 4 ^ aj_sz m v % 4 = aj_val c v
  | 0, h => absurd h (Nat.not_lt_zero v)
  | k + 1, h => by
    rw [aj_kx]
    by_cases e : v = k
    · subst e
      have hl := aj_kx_lt m c v
      rw [if_pos hb, Nat.add_mul_div_right _ _ (Nat.pow_pos (by decide)), Nat.div_eq_of_lt hl, Nat.zero_add, Nat.mod_eq_of_lt (aj_val_lt c v)]
    · have ih := ap_kx_dig (c := c) hb k (by omega)
      by_cases hk : m.testBit k = true
      · rw [if_pos hk]
        have hs := aj_sz_mono m (a := v + 1) k (by omega)
        rw [aj_sz_t hb] at hs
        obtain ⟨d, hd⟩ : ∃ d, aj_sz m k = aj_sz m v + (d + 1) := ⟨aj_sz m k - aj_sz m v - 1, by omega⟩
        have e2 : aj_val c k * 4 ^ aj_sz m k = (aj_val c k * 4 ^ d * 4) * 4 ^ aj_sz m v := by
          rw [hd, Nat.pow_add, Nat.pow_succ, Nat.mul_assoc, Nat.mul_assoc, Nat.mul_comm (4 ^ aj_sz m v), Nat.mul_assoc]
        rw [e2, Nat.add_mul_div_right _ _ (Nat.pow_pos (by decide)), Nat.add_mul_mod_self_right, ih]
      · rw [if_neg hk]
        exact ih
/-- an answer, as the law finds it -/
theorem ap_ansL {V D AL n p : Nat} {m : Nat → Nat} {sc sx : Nat → Int32} {M : Nat → Int64} (h : ap_pic V D AL n m sc sx M) : aj_ans m n sx (ap_up6 V p) ↔ ap_leg V D (aj_cov m n) (ap_up6 V p) ∧ ∀ a, a < 6 → (ap_sc m n a = 0 ∨ al_b (M a) (aj_kx (ap_sc m n a) (ap_up6 V p) V) = true) := by
  obtain ⟨⟨b1, b2, b3, b4, b5, b6⟩, hs, hM, hM0⟩ := h
  have hkx : ∀ a, a < n → aj_kx (m a) (ap_up6 V p) 6 = aj_kx (m a) (ap_up6 V p) V := fun a ha => ap_kx_6 (hs a ha).2.2.1 b2
  have h64 : ∀ a, a < n → aj_kx (m a) (ap_up6 V p) 6 < 64 := fun a ha => aj_kx_64 (hs a ha).2.2.2
  constructor
  · intro ⟨hu, hr⟩
    refine ⟨fun v hv => ?_, fun a ha => ?_⟩
    · cases hc : (aj_cov m n).testBit v
      · rw [hu v (by omega) hc]
        exact ⟨by omega, fun z => absurd z (by decide)⟩
      · refine ⟨?_, fun _ => rfl⟩
        obtain ⟨a, ha, hma⟩ := (ap_cov_bit n).mp hc
        obtain ⟨o1, o2, o3, o4⟩ := (hM a ha _ (h64 a ha)).2 ((hM a ha _ (h64 a ha)).1.mp (hr a ha))
        have hd := ap_kx_dig (c := ap_up6 V p) hma 6 (by omega)
        have hz := aj_sz_mono (m a) (a := v + 1) 6 (by omega)
        rw [aj_sz_t hma] at hz
        have h4 := (hs a ha).2.2.2
        have e : aj_sz (m a) v = 0 ∨ aj_sz (m a) v = 1 ∨ aj_sz (m a) v = 2 := by omega
        rcases e with e | e | e
        · rw [e, show 4 ^ 0 = 1 from rfl, Nat.div_one] at hd
          omega
        · rw [e, show 4 ^ 1 = 4 from rfl] at hd
          omega
        · rw [e, show 4 ^ 2 = 16 from rfl] at hd
          omega
    · by_cases hn : a < n
      · right
        rw [ap_sc_lt hn, ← hkx a hn]
        exact (hM a hn _ (h64 a hn)).1.mp (hr a hn)
      · exact Or.inl (if_neg hn)
  · intro ⟨hl, hr⟩
    refine ⟨fun v hv hc => ?_, fun a ha => ?_⟩
    · by_cases hvV : v < V
      · have := (hl v hvV).2
        rw [hc] at this
        exact Nat.eq_zero_of_not_pos fun z => absurd (this z) (by decide)
      · exact ap_dig0 b1 b2 (by omega) hv
    · have := hr a (by omega)
      rw [ap_sc_lt ha, ← hkx a ha] at this
      rcases this with z | z
      · have := (hs a ha).2.1
        omega
      · exact (hM a ha _ (h64 a ha)).1.mpr z
section
variable {post : Int32 → Prop} {L : Nat} {xs : Nat → Int32} {J99 : Int32 → Int32 → Int64 → Int64 → Int64 → Int64 → Int64 → Int64 → Int64 → Int32 → Int32 → Int32 → Int32 → Int32 → Int32 → Int32 → Int32 → (Nat → Int32) → (Nat → Int32) → (Nat → Int32) → (Nat → Int32) → (Nat → Int32) → Prop}
variable {V D AL n g rd : Nat} {m : Nat → Nat} {x6 fR rs : Int32} {sc sx an lv ps : Nat → Int32} {M E : Nat → Int64} {kc ks : Nat}
theorem al_1461 {J1383 : Int32 → Prop} {a : Nat} {x24 x31 : Int32} (hp : ap_pic V D AL n m sc sx M) (ha : a < n) (hE : ∀ r, r < 64 → (al_b (E a) r = true ↔ ¬ lv (a * 64 + r) = 0)) (k : J1383 (nI (a + 1))) : ∃ fu, wL_law_1461 post L xs J99 J1383 (nI V) (nI D) (nI AL) x6 (nI g) (nI n) (nI (aj_cov m n)) (lN (ap_pk m n)) (M 0) (M 1) (M 2) (M 3) (M 4) (M 5) x24 x31 (E 0) (E 1) (E 2) (E 3) (E 4) (E 5) (nI a) (M a) (E a) kc ks (nI V) (nI D) (nI AL) fR (nI n) (nI 1) rs sc sx an lv ps fu 0 := by
  refine loop_0 (fun n' r (_ : Unit) => wL_law_1461 post L xs J99 J1383 (nI V) (nI D) (nI AL) x6 (nI g) (nI n) (nI (aj_cov m n)) (lN (ap_pk m n)) (M 0) (M 1) (M 2) (M 3) (M 4) (M 5) x24 x31 (E 0) (E 1) (E 2) (E 3) (E 4) (E 5) (nI a) (M a) (E a) kc ks (nI V) (nI D) (nI AL) fR (nI n) (nI 1) rs sc sx an lv ps n' (nI r)) (fun _ _ => True) 64 () trivial ?_ ?_
  · intro n' _ _
    exact pk_le 64 64 (fun _ => nm_r (nI_1 a) k) (fun z => absurd z (by omega))
  · intro n' r _ hr _ hw
    have hw' := hw () trivial
    obtain ⟨⟨b1, b2, b3, b4, b5, b6⟩, hs, hM, hM0⟩ := hp
    have key : ∀ z0 : Int32, al_b (M a) r = true → (lv (a * 64 + r) = 0 → 3 = z0) → (¬ lv (a * 64 + r) = 0 → 2 = z0) → wL_law_1500 post L xs J99 J1383 (wL_law_1461 post L xs J99 J1383 (nI V) (nI D) (nI AL) x6 (nI g) (nI n) (nI (aj_cov m n)) (lN (ap_pk m n)) (M 0) (M 1) (M 2) (M 3) (M 4) (M 5) x24 x31 (E 0) (E 1) (E 2) (E 3) (E 4) (E 5) (nI a) (M a) (E a) kc ks (nI V) (nI D) (nI AL) fR (nI n) (nI 1) rs sc sx an lv ps n') (nI V) (nI D) (nI AL) x6 (nI g) (nI n) (nI (aj_cov m n)) (lN (ap_pk m n)) (M 0) (M 1) (M 2) (M 3) (M 4) (M 5) x24 x31 (E 0) (E 1) (E 2) (E 3) (E 4) (E 5) (nI a) (M a) (E a) (nI r) z0 kc ks (nI V) (nI D) (nI AL) fR (nI n) (nI 1) rs sc sx an lv ps := by
      intro z0 hb h3 h2
      unfold wL_law_1500
      rw [(ap_d3 r hr).1, (ap_d3 r hr).2.1, (ap_d3 r hr).2.2]
      exact aq_rowState b2 (by omega) b4 hs ha ((hM a ha r hr).2 hb) ((hM a ha r hr).1.mpr hb) (fun l => br_t (h3 l) (nm_r (nI_1 r) hw')) (fun l => br_t (h2 l) (nm_r (nI_1 r) hw'))
    exact pk_le 64 r (fun z => absurd z (by omega)) (fun _ => al_t0 hr (fun hb => al_t1 hr (fun he => key 2 hb (fun l => absurd l ((hE r hr).mp he)) (fun _ => rfl)) (fun he => key 3 hb (fun _ => rfl) (fun l => by rw [(hE r hr).mpr l] at he; exact absurd he (by decide)))) (fun hb => nm_r (nI_1 r) hw'))
theorem al_1383 {seen : Nat} (hp : ap_pic V D AL n m sc sx M) (hE : ∀ a, a < n → ∀ r, r < 64 → (al_b (E a) r = true ↔ ¬ lv (a * 64 + r) = 0)) (hL : ∀ a, a < n → (aj_cn (fun i => lv (a * 64 + i)) 64 = 0 ↔ seen = 0)) (hse : seen ≤ 4096) (k : J99 (nI n) (nI (aj_cov m n)) (lN (ap_pk m n)) (M 0) (M 1) (M 2) (M 3) (M 4) (M 5) (nI (rd + 1)) (nI V) (nI D) (nI AL) fR (nI n) (nI 1) rs sc sx an lv ps) : ∃ fu, wL_law_1383 post L xs J99 (nI V) (nI D) (nI AL) x6 (nI g) (nI n) (nI (aj_cov m n)) (lN (ap_pk m n)) (M 0) (M 1) (M 2) (M 3) (M 4) (M 5) (nI rd) (nI seen) (E 0) (E 1) (E 2) (E 3) (E 4) (E 5) kc ks (nI V) (nI D) (nI AL) fR (nI n) (nI 1) rs sc sx an lv ps fu 0 := by
  have hn : n ≤ 6 := by have := hp.1; omega
  refine loop_0 (fun n' a (_ : Unit) => wL_law_1383 post L xs J99 (nI V) (nI D) (nI AL) x6 (nI g) (nI n) (nI (aj_cov m n)) (lN (ap_pk m n)) (M 0) (M 1) (M 2) (M 3) (M 4) (M 5) (nI rd) (nI seen) (E 0) (E 1) (E 2) (E 3) (E 4) (E 5) kc ks (nI V) (nI D) (nI AL) fR (nI n) (nI 1) rs sc sx an lv ps n' (nI a)) (fun _ _ => True) n () trivial ?_ ?_
  · intro n' _ _
    exact pk_le n n (fun _ => nm_r (nI_1 rd) k) (fun z => absurd z (by omega))
  · intro n' a _ ha _ hw
    have hcn := aj_cn_le (fun i => lv (a * 64 + i)) 64
    have hLa := hL a ha
    refine pk_le n a (fun z => absurd z (by omega)) (fun _ => al_sel (M := M) (by omega) (al_sel (M := E) (by omega) (aq_live hn ha (pk_le (aj_cn (fun i => lv (a * 64 + i)) 64) 0 (fun z => ?_) (fun z => ?_)))))
    · exact br_t (nI_le (b := 0) (by omega) (by decide)) (br_t rfl (al_1461 hp ha (hE a ha) (hw () trivial)))
    · exact br_f (nI_ge (a := 0) (by omega) (by omega)) (br_t rfl (al_1461 hp ha (hE a ha) (hw () trivial)))
theorem al_1354 {seen c : Nat} (hc : c < 2) (hp : ap_pic V D AL n m sc sx M) (hE : ∀ a, a < n → ∀ r, r < 64 → (al_b (E a) r = true ↔ ¬ lv (a * 64 + r) = 0)) (hL : ∀ a, a < n → (aj_cn (fun i => lv (a * 64 + i)) 64 = 0 ↔ seen = 0)) (hse : seen ≤ 4096) (hF : ∃ F, F ≤ 4096 ∧ ps c + 1 = nI F ∧ ∀ x, F ≤ x → x < 4096 → an x = 0) (k : ∀ ps', J99 (nI n) (nI (aj_cov m n)) (lN (ap_pk m n)) (M 0) (M 1) (M 2) (M 3) (M 4) (M 5) (nI (rd + 1)) (nI V) (nI D) (nI AL) fR (nI n) (nI 1) rs sc sx an lv ps') : ∃ fu, wL_law_1354 post L xs J99 (nI V) (nI D) (nI AL) x6 (nI g) (nI n) (nI (aj_cov m n)) (lN (ap_pk m n)) (M 0) (M 1) (M 2) (M 3) (M 4) (M 5) (nI rd) (nI c) (nI seen) (E 0) (E 1) (E 2) (E 3) (E 4) (E 5) kc ks fu 0 (nI V) (nI D) (nI AL) fR (nI n) (nI 1) rs sc sx an lv ps := by
  refine loop_0 (fun n' i (q : Nat → Int32) => wL_law_1354 post L xs J99 (nI V) (nI D) (nI AL) x6 (nI g) (nI n) (nI (aj_cov m n)) (lN (ap_pk m n)) (M 0) (M 1) (M 2) (M 3) (M 4) (M 5) (nI rd) (nI c) (nI seen) (E 0) (E 1) (E 2) (E 3) (E 4) (E 5) kc ks n' (nI i) (nI V) (nI D) (nI AL) fR (nI n) (nI 1) rs sc sx an lv q) (fun _ q => q c = 4096 ∨ ∃ F, F ≤ 4096 ∧ q c + 1 = nI F ∧ ∀ x, F ≤ x → x < 4096 → an x = 0) 3 ps (Or.inr hF) ?_ ?_
  · intro n' q _
    exact pk_le 3 3 (fun _ => al_1383 hp hE hL hse (k q)) (fun z => absurd z (by omega))
  · intro n' i q hi hI hw
    refine pk_le 3 i (fun z => absurd z (by omega)) (fun _ => ?_)
    rcases hI with e | ⟨F, f1, f2, f3⟩
    · exact aq_nextE hc e (br_t rfl (nm_r (nI_1 i) (hw q (Or.inl e))))
    · exact aq_next hc f2 f1 (q := 4096) ⟨f1, Nat.le_refl _, fun x h1 h2 => f3 x h1 h2, fun z => absurd z (by omega)⟩ (br_t rfl (nm_r (nI_1 i) (hw _ (Or.inl pk_us))))
end
end
section
theorem ap_sh4 : ∀ V, V < 7 → (1 : Int32) <<< (2 * nI V &&& 31) = nI (4 ^ V) := by decide +kernel
theorem ap_up_4 {V : Nat} (h3 : 3 ≤ V) (h6 : V ≤ 6) : ap_up6 V (4 ^ V) = 4096 := by
  rcases ap_V h3 h6 with e | e | e | e <;> subst e <;> rfl
theorem ap_u6s {V p : Nat} : ap_up6 V (p + 1) = ap_up6 V p + 4 ^ (6 - V) := by
  unfold ap_up6
  rw [Nat.succ_mul]
theorem ap_up_lt {V p : Nat} (h3 : 3 ≤ V) (h6 : V ≤ 6) (h : p < 4 ^ V) : ap_up6 V (p + 1) ≤ 4096 := by
  have := ap_up_4 h3 h6
  unfold ap_up6 at this ⊢
  rw [← this]
  exact Nat.mul_le_mul_right _ h
theorem ap_4V {V p : Nat} (h3 : 3 ≤ V) (h6 : V ≤ 6) (h : p < 4 ^ V) : p < 4096 := by
  have : 4 ^ V ≤ 4 ^ 6 := Nat.pow_le_pow_right (by decide) h6
  have e : 4 ^ 6 = 4096 := rfl
  omega
theorem ap_gap {V p y : Nat} (h3 : 3 ≤ V) (h6 : V ≤ 6) (h1 : ap_up6 V p < y) (h2 : y < ap_up6 V (p + 1)) : ¬ y % 2 ^ (12 - 2 * V) = 0 := by
  unfold ap_up6 at h1 h2
  rcases ap_V h3 h6 with e | e | e | e <;> subst e <;> simp only [Nat.reduceSub, Nat.reduceMul, Nat.reducePow] at h1 h2 ⊢ <;> omega
theorem ap_p1 {V : Nat} : 1 ≤ 4 ^ (6 - V) := Nat.pow_pos (by decide)
theorem aj_cn_gap {f : Nat → Int32} {a : Nat} : ∀ d, (∀ y, a ≤ y → y < a + d → f y = 0) → aj_cn f (a + d) = aj_cn f a
  | 0, _ => rfl
  | d + 1, h => by
    rw [← Nat.add_assoc, aj_cn_z (h (a + d) (by omega) (by omega))]
    exact aj_cn_gap d fun y h1 h2 => h y h1 (by omega)
section
variable {post : Int32 → Prop} {L : Nat} {xs : Nat → Int32} {J99 : Int32 → Int32 → Int64 → Int64 → Int64 → Int64 → Int64 → Int64 → Int64 → Int32 → Int32 → Int32 → Int32 → Int32 → Int32 → Int32 → Int32 → (Nat → Int32) → (Nat → Int32) → (Nat → Int32) → (Nat → Int32) → (Nat → Int32) → Prop}
variable {V D AL n g rd : Nat} {m : Nat → Nat} {x6 fR rs : Int32} {sc sx an lv ps : Nat → Int32} {M E : Nat → Int64} {kc ks : Nat}
/-- what holds when the law looks at p -/
def ap_at (V n : Nat) (m : Nat → Nat) (sx an : Nat → Int32) (c p seen : Nat) (E : Nat → Int64) (ps : Nat → Int32) : Prop :=
  seen = aj_cn an (ap_up6 V p) ∧ (∀ a, a < n → ∀ r, r < 64 → (al_b (E a) r = true ↔ ∃ x, x < ap_up6 V p ∧ aj_ans m n sx x ∧ aj_kx (m a) x 6 = r)) ∧ (∃ F, F ≤ ap_up6 V p ∧ ps c + 1 = nI F ∧ ∀ x, F ≤ x → x < ap_up6 V p → an x = 0) ∧ ap_ps ps
theorem ap_an_gap {AL p y : Nat} (hp : ap_pic V D AL n m sc sx M) (hA : aj_rdA m n sx an 4096) (h4 : p < 4 ^ V) (h1 : ap_up6 V p < y) (h2 : y < ap_up6 V (p + 1)) : an y = 0 := by
  have hl := ap_up_lt hp.1.1 hp.1.2.1 h4
  exact (hA y (by omega)).mpr fun H => ap_gap hp.1.1 hp.1.2.1 h1 h2 (aj_unc_mod hp.1.1 hp.1.2.1 (fun a ha => (hp.2.1 a ha).2.2.1) H.1)
theorem ap_at_no {c p seen : Nat} (hp : ap_pic V D AL n m sc sx M) (hA : aj_rdA m n sx an 4096) (h4 : p < 4 ^ V) (h : ap_at V n m sx an c p seen E ps) (hno : ¬ aj_ans m n sx (ap_up6 V p)) : ap_at V n m sx an c (p + 1) seen E ps := by
  obtain ⟨h1, h2, ⟨F, f1, f2, f3⟩, h5⟩ := h
  have hl := ap_up_lt hp.1.1 hp.1.2.1 h4
  have hs := ap_u6s (V := V) (p := p)
  have hp1 := ap_p1 (V := V)
  have hz : ∀ y, ap_up6 V p ≤ y → y < ap_up6 V (p + 1) → an y = 0 := fun y y1 y2 => by
    by_cases e : y = ap_up6 V p
    · subst e
      exact (hA _ (by omega)).mpr hno
    · exact ap_an_gap hp hA h4 (by omega) y2
  refine ⟨?_, fun a ha r hr => ?_, ⟨F, by omega, f2, fun x x1 x2 => ?_⟩, h5⟩
  · rw [h1, hs]
    exact (aj_cn_gap _ fun y y1 y2 => hz y y1 (by omega)).symm
  · rw [h2 a ha r hr]
    constructor
    · exact fun ⟨x, x1, x2⟩ => ⟨x, by omega, x2⟩
    · intro ⟨x, x1, x2, x3⟩
      by_cases e : x < ap_up6 V p
      · exact ⟨x, e, x2, x3⟩
      · exact absurd x2 ((hA x (by omega)).mp (hz x (by omega) x1))
  · by_cases e : x < ap_up6 V p
    · exact f3 x x1 e
    · exact hz x (by omega) x2
/-- the marks of an answer, as the law makes them -/
def ap_nE (m : Nat → Nat) (V n p : Nat) (E : Nat → Int64) : Nat → Int64 := fun a => E a ||| ((1 : Int64) <<< ((nI (aj_kx (ap_sc m n a) (ap_up6 V p) V)).toInt64 &&& 63))
theorem ap_at_yes {c p seen : Nat} {ps' : Nat → Int32} (hp : ap_pic V D AL n m sc sx M) (hA : aj_rdA m n sx an 4096) (h4 : p < 4 ^ V) (h : ap_at V n m sx an c p seen E ps) (hy : aj_ans m n sx (ap_up6 V p)) (hps : ap_ps ps') : ap_at V n m sx an c (p + 1) (seen + 1) (ap_nE m V n p E) (upd ps' c (nI (ap_up6 V p))) := by
  obtain ⟨h1, h2, ⟨F, f1, f2, f3⟩, h5⟩ := h
  have hl := ap_up_lt hp.1.1 hp.1.2.1 h4
  have hs := ap_u6s (V := V) (p := p)
  have hp1 := ap_p1 (V := V)
  have hz : ∀ y, ap_up6 V p + 1 ≤ y → y < ap_up6 V (p + 1) → an y = 0 := fun y y1 y2 => ap_an_gap hp hA h4 (by omega) y2
  refine ⟨?_, fun a ha r hr => ?_, ⟨ap_up6 V p + 1, by omega, by rw [pk_us, nI_1], hz⟩, ap_ps_upd hps (by omega)⟩
  · have e : ap_up6 V (p + 1) = ap_up6 V p + 1 + (4 ^ (6 - V) - 1) := by omega
    rw [e, aj_cn_gap _ fun y y1 y2 => hz y y1 (by omega), aj_cn_p fun z => (hA _ (by omega)).mp z hy, h1]
  · have h64 := aj_kx_64 (c := ap_up6 V p) (hp.2.1 a ha).2.2.2
    have e6 := ap_kx_6 (c := ap_up6 V p) (hp.2.1 a ha).2.2.1 hp.1.2.1
    unfold ap_nE
    rw [ap_sc_lt ha, ← e6, al_or h64 hr, Bool.or_eq_true, h2 a ha r hr]
    constructor
    · rintro (⟨x, x1, x2⟩ | z)
      · exact ⟨x, by omega, x2⟩
      · exact ⟨ap_up6 V p, by omega, hy, of_decide_eq_true z⟩
    · intro ⟨x, x1, x2, x3⟩
      by_cases e : x < ap_up6 V p
      · exact Or.inl ⟨x, e, x2, x3⟩
      · by_cases e2 : x = ap_up6 V p
        · subst e2
          exact Or.inr (decide_eq_true x3)
        · exact absurd x2 ((hA x (by omega)).mp (hz x (by omega) x1))
theorem ap_sc64 (hp : ap_pic V D AL n m sc sx M) (a : Nat) : ap_sc m n a < 64 ∧ aj_sz (ap_sc m n a) 6 < 4 := by
  by_cases h : a < n
  · rw [ap_sc_lt h]
    exact ⟨ap_m64 hp a h, (hp.2.1 a h).2.2.2⟩
  · rw [ap_sc, if_neg h]
    decide
theorem al_1206 {J990 : Int32 → Int64 → Int64 → Int64 → Int64 → Int64 → Int64 → Int32 → Int32 → Int32 → Int32 → Int32 → Int32 → Int32 → Int32 → (Nat → Int32) → (Nat → Int32) → (Nat → Int32) → (Nat → Int32) → (Nat → Int32) → Prop} {c p seen : Nat} {x24 x25 : Int32} (hc : c < 2) (hp : ap_pic V D AL n m sc sx M) (h4 : p < 4 ^ V) (hq : ps c = nI (ap_up6 V p))
    (k : J990 (nI (seen + 1)) (ap_nE m V n p E 0) (ap_nE m V n p E 1) (ap_nE m V n p E 2) (ap_nE m V n p E 3) (ap_nE m V n p E 4) (ap_nE m V n p E 5) (nI (p + 1)) (nI V) (nI D) (nI AL) fR (nI n) (nI 1) rs sc sx an lv ps) : ∃ fu, wL_law_1206 post L xs J99 J990 (nI V) (nI D) (nI AL) x6 (nI g) (nI n) (nI (aj_cov m n)) (lN (ap_pk m n)) (M 0) (M 1) (M 2) (M 3) (M 4) (M 5) x24 x25 (nI c) (nI seen) (nI (ap_sc m n 0)) (nI (ap_sc m n 1)) (nI (ap_sc m n 2)) (nI (ap_sc m n 3)) (nI (ap_sc m n 4)) (nI (ap_sc m n 5)) (E 0) (E 1) (E 2) (E 3) (E 4) (E 5) (nI p) kc ks (nI V) (nI D) (nI AL) fR (nI n) (nI 1) rs sc sx an lv ps fu 0 := by
  have b1 := hp.1.1
  have b2 := hp.1.2.1
  have h4' := ap_4V b1 b2 h4
  have hl := ap_up_lt b1 b2 h4
  have hs := ap_u6s (V := V) (p := p)
  have hp1 := ap_p1 (V := V)
  refine loop_0 (fun n' w (_ : Unit) => wL_law_1206 post L xs J99 J990 (nI V) (nI D) (nI AL) x6 (nI g) (nI n) (nI (aj_cov m n)) (lN (ap_pk m n)) (M 0) (M 1) (M 2) (M 3) (M 4) (M 5) x24 x25 (nI c) (nI seen) (nI (ap_sc m n 0)) (nI (ap_sc m n 1)) (nI (ap_sc m n 2)) (nI (ap_sc m n 3)) (nI (ap_sc m n 4)) (nI (ap_sc m n 5)) (E 0) (E 1) (E 2) (E 3) (E 4) (E 5) (nI p) kc ks (nI V) (nI D) (nI AL) fR (nI n) (nI 1) rs sc sx an lv ps n' (nI w)) (fun _ _ => True) V () trivial ?_ ?_
  · intro n' _ _
    refine pk_le V V (fun _ => ?_) (fun z => absurd z (by omega))
    have q := ap_sc64 hp
    exact al_proj b1 b2 h4' (q 0).1 (q 0).2 (nm_e (al_proj b1 b2 h4' (q 1).1 (q 1).2 (nm_e (al_proj b1 b2 h4' (q 2).1 (q 2).2 (nm_e (al_proj b1 b2 h4' (q 3).1 (q 3).2 (nm_e (al_proj b1 b2 h4' (q 4).1 (q 4).2 (nm_e (al_proj b1 b2 h4' (q 5).1 (q 5).2 (nm_e (nm_r (nI_1 seen) (nm_r (nI_1 p) k)))))))))))))
  · intro n' w _ hw _ hk
    exact pk_le V w (fun z => absurd z (by omega)) (fun _ => aq_value b2 hw hc hq (by omega) (al_dig b1 b2 h4' hw (br_t rfl (nm_r (nI_1 w) (hk () trivial)))))
theorem al_1190 {J990 : Int32 → Int64 → Int64 → Int64 → Int64 → Int64 → Int64 → Int32 → Int32 → Int32 → Int32 → Int32 → Int32 → Int32 → Int32 → (Nat → Int32) → (Nat → Int32) → (Nat → Int32) → (Nat → Int32) → (Nat → Int32) → Prop} {c p seen F : Nat} {x24 x25 : Int32} (hc : c < 2) (hp : ap_pic V D AL n m sc sx M) (hA : aj_rdA m n sx an 4096) (h4 : p < 4 ^ V) (hy : aj_ans m n sx (ap_up6 V p)) (f1 : F ≤ ap_up6 V p) (f2 : ps c + 1 = nI F) (f3 : ∀ x, F ≤ x → x < ap_up6 V p → an x = 0)
    (k : J990 (nI (seen + 1)) (ap_nE m V n p E 0) (ap_nE m V n p E 1) (ap_nE m V n p E 2) (ap_nE m V n p E 3) (ap_nE m V n p E 4) (ap_nE m V n p E 5) (nI (p + 1)) (nI V) (nI D) (nI AL) fR (nI n) (nI 1) rs sc sx an lv (upd ps c (nI (ap_up6 V p)))) : wL_law_1190 post L xs J99 J990 (nI V) (nI D) (nI AL) x6 (nI g) (nI n) (nI (aj_cov m n)) (lN (ap_pk m n)) (M 0) (M 1) (M 2) (M 3) (M 4) (M 5) x24 x25 (nI c) (nI seen) (nI (ap_sc m n 0)) (nI (ap_sc m n 1)) (nI (ap_sc m n 2)) (nI (ap_sc m n 3)) (nI (ap_sc m n 4)) (nI (ap_sc m n 5)) (E 0) (E 1) (E 2) (E 3) (E 4) (E 5) (nI p) kc ks (nI V) (nI D) (nI AL) fR (nI n) (nI 1) rs sc sx an lv ps := by
  have hl := ap_up_lt hp.1.1 hp.1.2.1 h4
  have hs := ap_u6s (V := V) (p := p)
  have hp1 := ap_p1 (V := V)
  unfold wL_law_1190
  refine aq_next hc f2 (by omega) (q := ap_up6 V p) ⟨f1, by omega, f3, fun z y => (hA _ z).mp y hy⟩ ?_
  rw [aj_out1_t (show ap_up6 V p < 4096 by omega)]
  exact br_t rfl (al_1206 hc hp h4 pk_us k)
theorem al_990 {c base : Nat} (hL : L ≤ 260) (hc : c < 2) (hb : base < 1000) (hn0 : 0 < n) (hp : ap_pic V D AL n m sc sx M) (hA : aj_rdA m n sx an 4096) (hV : aj_rdL m n sx lv 4096) (hps : ap_ps ps) (hq : ps c = -1) (k : ∀ ps', J99 (nI n) (nI (aj_cov m n)) (lN (ap_pk m n)) (M 0) (M 1) (M 2) (M 3) (M 4) (M 5) (nI (rd + 1)) (nI V) (nI D) (nI AL) fR (nI n) (nI 1) rs sc sx an lv ps') : ∃ fu, wL_law_990 post L xs J99 (nI V) (nI D) (nI AL) x6 (nI g) (nI n) (nI (aj_cov m n)) (lN (ap_pk m n)) (M 0) (M 1) (M 2) (M 3) (M 4) (M 5) (nI rd) (nI base) (nI c) (nI (ap_sc m n 0)) (nI (ap_sc m n 1)) (nI (ap_sc m n 2)) (nI (ap_sc m n 3)) (nI (ap_sc m n 4)) (nI (ap_sc m n 5)) kc ks fu 0 0 0 0 0 0 0 0 (nI V) (nI D) (nI AL) fR (nI n) (nI 1) rs sc sx an lv ps := by
  have b1 := hp.1.1
  have b2 := hp.1.2.1
  have hn : n ≤ 6 := by have := hp.1; omega
  refine loop_0 (fun n' p (s : Nat × (Nat → Int64) × (Nat → Int32)) => wL_law_990 post L xs J99 (nI V) (nI D) (nI AL) x6 (nI g) (nI n) (nI (aj_cov m n)) (lN (ap_pk m n)) (M 0) (M 1) (M 2) (M 3) (M 4) (M 5) (nI rd) (nI base) (nI c) (nI (ap_sc m n 0)) (nI (ap_sc m n 1)) (nI (ap_sc m n 2)) (nI (ap_sc m n 3)) (nI (ap_sc m n 4)) (nI (ap_sc m n 5)) kc ks n' (nI s.1) (s.2.1 0) (s.2.1 1) (s.2.1 2) (s.2.1 3) (s.2.1 4) (s.2.1 5) (nI p) (nI V) (nI D) (nI AL) fR (nI n) (nI 1) rs sc sx an lv s.2.2) (fun p s => ap_at V n m sx an c p s.1 s.2.1 s.2.2) (4 ^ V) (0, (fun _ => 0), ps) ⟨?_, fun a ha r hr => ?_, ⟨0, Nat.zero_le _, by show ps c + 1 = nI 0; rw [hq]; rfl, fun x _ h2 => ?_⟩, hps⟩ ?_ ?_
  · rw [ap_up6, Nat.zero_mul]
    rfl
  · (try dsimp only)
    rw [al_z, ap_up6, Nat.zero_mul]
    exact ⟨fun z => absurd z (by decide), fun ⟨x, h, _⟩ => absurd h (Nat.not_lt_zero x)⟩
  · rw [ap_up6, Nat.zero_mul] at h2
    exact absurd h2 (Nat.not_lt_zero x)
  · rintro n' ⟨seen, E, q⟩ ⟨h1, h2, h3, h5⟩
    (try dsimp only at h1 h2 h3 h5 ⊢)
    rw [ap_up_4 b1 b2] at h1 h2 h3
    have hcn := aj_cn_le an 4096
    refine br_t (by rw [ap_sh4 V (by omega)]; exact Int32.le_refl _) (aq_count (br_t (by rw [h1]) (al_1354 hc hp (fun a ha r hr => ?_) (fun a ha => ?_) (by omega) h3 k)))
    · rw [h2 a ha r hr, hV a ha r hr]
      exact ⟨fun z y => y z, fun z => Classical.byContradiction z⟩
    · rw [h1, aj_cn_0, aj_cn_0]
      constructor
      · intro z x hx
        refine (hA x hx).mpr fun H => ?_
        have h64 := aj_kx_64 (c := x) (hp.2.1 a ha).2.2.2
        exact (hV a ha _ h64).mp (z _ h64) ⟨x, hx, H, rfl⟩
      · intro z r hr
        exact (hV a ha r hr).mpr fun ⟨x, x1, x2, _⟩ => (hA x x1).mp (z x x1) x2
  · rintro n' p ⟨seen, E, q⟩ hp4 hI hw
    (try dsimp only at hI ⊢)
    have h4' := ap_4V b1 b2 hp4
    have hcov : aj_cov m n < 64 := aj_cov_lt (k := 6) n (ap_m64 hp)
    have hiff := ap_ansL (p := p) hp
    have no : ¬ aj_ans m n sx (ap_up6 V p) → wL_law_990 post L xs J99 (nI V) (nI D) (nI AL) x6 (nI g) (nI n) (nI (aj_cov m n)) (lN (ap_pk m n)) (M 0) (M 1) (M 2) (M 3) (M 4) (M 5) (nI rd) (nI base) (nI c) (nI (ap_sc m n 0)) (nI (ap_sc m n 1)) (nI (ap_sc m n 2)) (nI (ap_sc m n 3)) (nI (ap_sc m n 4)) (nI (ap_sc m n 5)) kc ks n' (nI seen) (E 0) (E 1) (E 2) (E 3) (E 4) (E 5) (nI (p + 1)) (nI V) (nI D) (nI AL) fR (nI n) (nI 1) rs sc sx an lv q := fun hno => hw (seen, E, q) (ap_at_no hp hA hp4 hI hno)
    have q64 := ap_sc64 hp
    have hs1 : seen ≤ 4096 := by
      have h1 := hI.1
      have h2 := aj_cn_le an (ap_up6 V p)
      have h3 := ap_up_lt b1 b2 hp4
      have h4 := ap_u6s (V := V) (p := p)
      have h5 := ap_p1 (V := V)
      omega
    have hno6 : ∀ a, a < 6 → ¬ (ap_sc m n a = 0 ∨ al_b (M a) (aj_kx (ap_sc m n a) (ap_up6 V p) V) = true) → ¬ aj_ans m n sx (ap_up6 V p) := fun a ha z H => z ((hiff.mp H).2 a ha)
    refine br_f (by rw [ap_sh4 V (by omega)]; exact nI_ge hp4 (by have := ap_up_4 b1 b2; have e : 4 ^ V ≤ 4 ^ 6 := Nat.pow_le_pow_right (by decide) b2; have e6 : 4 ^ 6 = 4096 := rfl; omega)) (al_legal b1 b2 hp.1.2.2.2.1 h4' hcov (fun hl => br_f (by decide) ?_) (fun hl => br_t rfl (nm_r (nI_1 p) (no fun H => hl (hiff.mp H).1))))
    refine al_has b1 b2 h4' (q64 0).1 (q64 0).2 (fun h0 => br_f (by decide) ?_) (fun z => br_t rfl (nm_r (nI_1 p) (no (hno6 0 (by decide) z))))
    refine al_has b1 b2 h4' (q64 1).1 (q64 1).2 (fun h1 => br_f (by decide) ?_) (fun z => br_t rfl (nm_r (nI_1 p) (no (hno6 1 (by decide) z))))
    refine al_has b1 b2 h4' (q64 2).1 (q64 2).2 (fun h2 => br_f (by decide) ?_) (fun z => br_t rfl (nm_r (nI_1 p) (no (hno6 2 (by decide) z))))
    refine al_has b1 b2 h4' (q64 3).1 (q64 3).2 (fun h3 => br_f (by decide) ?_) (fun z => br_t rfl (nm_r (nI_1 p) (no (hno6 3 (by decide) z))))
    refine al_has b1 b2 h4' (q64 4).1 (q64 4).2 (fun h4 => br_f (by decide) ?_) (fun z => br_t rfl (nm_r (nI_1 p) (no (hno6 4 (by decide) z))))
    refine al_has b1 b2 h4' (q64 5).1 (q64 5).2 (fun h5 => br_f (by decide) ?_) (fun z => br_t rfl (nm_r (nI_1 p) (no (hno6 5 (by decide) z))))
    have hy : aj_ans m n sx (ap_up6 V p) := hiff.mpr ⟨hl, fun a ha => by
      have e : a = 0 ∨ a = 1 ∨ a = 2 ∨ a = 3 ∨ a = 4 ∨ a = 5 := by omega
      rcases e with e | e | e | e | e | e <;> subst e <;> assumption⟩
    obtain ⟨F, f1, f2, f3⟩ := hI.2.2.1
    have go : ∀ q', ap_ps q' → q' c = q c → wL_law_1190 post L xs J99 (wL_law_990 post L xs J99 (nI V) (nI D) (nI AL) x6 (nI g) (nI n) (nI (aj_cov m n)) (lN (ap_pk m n)) (M 0) (M 1) (M 2) (M 3) (M 4) (M 5) (nI rd) (nI base) (nI c) (nI (ap_sc m n 0)) (nI (ap_sc m n 1)) (nI (ap_sc m n 2)) (nI (ap_sc m n 3)) (nI (ap_sc m n 4)) (nI (ap_sc m n 5)) kc ks n') (nI V) (nI D) (nI AL) x6 (nI g) (nI n) (nI (aj_cov m n)) (lN (ap_pk m n)) (M 0) (M 1) (M 2) (M 3) (M 4) (M 5) (nI rd) (nI base) (nI c) (nI seen) (nI (ap_sc m n 0)) (nI (ap_sc m n 1)) (nI (ap_sc m n 2)) (nI (ap_sc m n 3)) (nI (ap_sc m n 4)) (nI (ap_sc m n 5)) (E 0) (E 1) (E 2) (E 3) (E 4) (E 5) (nI p) kc ks (nI V) (nI D) (nI AL) fR (nI n) (nI 1) rs sc sx an lv q' := fun q' h1 h2 =>
      al_1190 hc hp hA hp4 hy f1 (by rw [h2]; exact f2) f3 (hw (seen + 1, ap_nE m V n p E, upd q' c (nI (ap_up6 V p))) (ap_at_yes hp hA hp4 hI hy h1))
    have h1c : (1 : Int32) - nI c = nI (1 - c) := pk_sub (a := 1) (by omega)
    have hoc : ∀ j, j ≠ 1 - c → j = c ∨ True := fun j _ => Or.inr trivial
    obtain ⟨j31, hj31, e31⟩ := pk_andE (nI seen) (m := 31) 5 (by decide)
    refine al_pick hL (base + 64 + j31) (by rw [e31, show (nI base + 64 : Int32) = nI (base + 64) from nI_add base 64, nI_add]) (by omega) 8 rfl (by decide) (by decide) fun j hj => ?_
    rw [h1c]
    refine pk_eq j 0 (fun _ => aq_rewind (by omega) (go _ (ap_ps_rew hI.2.2.2) (pk_un (by omega)))) (fun _ => pk_lt 2 j (fun _ => pk_lt 5 j (fun _ => pk_le 32 seen (fun _ => go q hI.2.2.2 rfl) (fun _ => ⟨aj_n0 (by omega) (by omega), ?_⟩)) (fun _ => aq_nextN (by omega) hI.2.2.2 fun r q' g1 g2 => go q' g1 (g2 c (by omega)))) (fun _ => ⟨aj_n0 (by omega) (by omega), ?_⟩))
    · rw [pk_rem (by omega) hn0 (by omega)]
      exact aq_live hn (Nat.mod_lt _ hn0) (go q hI.2.2.2 rfl)
    · rw [pk_rem (by omega) (by omega) (by omega)]
      exact aq_skipN b2 (Nat.mod_lt _ (by omega)) (by omega) hI.2.2.2 fun r q' g1 g2 => go q' g1 (g2 c (by omega))
theorem al_921 {c base : Nat} (hL : L ≤ 260) (hc : c < 2) (hb : base < 1000) (hn0 : 0 < n) (hp : ap_pic V D AL n m sc sx M) (hA : aj_rdA m n sx an 4096) (hV : aj_rdL m n sx lv 4096) (hps : ap_ps ps) (hq : ps c = -1) (k : ∀ ps', J99 (nI n) (nI (aj_cov m n)) (lN (ap_pk m n)) (M 0) (M 1) (M 2) (M 3) (M 4) (M 5) (nI (rd + 1)) (nI V) (nI D) (nI AL) fR (nI n) (nI 1) rs sc sx an lv ps') : wL_law_921 post L xs J99 (nI V) (nI D) (nI AL) x6 (nI g) (nI n) (nI (aj_cov m n)) (lN (ap_pk m n)) (M 0) (M 1) (M 2) (M 3) (M 4) (M 5) (nI rd) (nI base) (nI c) 0 kc ks (nI V) (nI D) (nI AL) fR (nI n) (nI 1) rs sc sx an lv ps := by
  have hn : n ≤ 6 := by have := hp.1; omega
  have hm := ap_m64 hp
  unfold wL_law_921
  exact al_scopeAt (a := 0) hn hm rfl (by decide) (al_scopeAt (a := 1) hn hm rfl (by decide) (al_scopeAt (a := 2) hn hm rfl (by decide) (al_scopeAt (a := 3) hn hm rfl (by decide) (al_scopeAt (a := 4) hn hm rfl (by decide) (al_scopeAt (a := 5) hn hm rfl (by decide) (al_990 hL hc hb hn0 hp hA hV hps hq k))))))
theorem al_869 {c base pre : Nat} (hL : L ≤ 260) (hc : c < 2) (hb : base < 1000) (hpre : pre < 4) (hn0 : 0 < n) (hp : ap_pic V D AL n m sc sx M) (hA : aj_rdA m n sx an 4096) (hV : aj_rdL m n sx lv 4096) (hps : ap_ps ps) (hq : ps c = -1) (k : ∀ ps', J99 (nI n) (nI (aj_cov m n)) (lN (ap_pk m n)) (M 0) (M 1) (M 2) (M 3) (M 4) (M 5) (nI (rd + 1)) (nI V) (nI D) (nI AL) fR (nI n) (nI 1) rs sc sx an lv ps') : ∃ fu, wL_law_869 post L xs J99 (nI V) (nI D) (nI AL) x6 (nI g) (nI n) (nI (aj_cov m n)) (lN (ap_pk m n)) (M 0) (M 1) (M 2) (M 3) (M 4) (M 5) (nI rd) (nI base) (nI c) (nI pre) 0 kc ks fu 0 (nI V) (nI D) (nI AL) fR (nI n) (nI 1) rs sc sx an lv ps := by
  have b2 := hp.1.2.1
  refine loop_0 (fun n' i (q : Nat → Int32) => wL_law_869 post L xs J99 (nI V) (nI D) (nI AL) x6 (nI g) (nI n) (nI (aj_cov m n)) (lN (ap_pk m n)) (M 0) (M 1) (M 2) (M 3) (M 4) (M 5) (nI rd) (nI base) (nI c) (nI pre) 0 kc ks n' (nI i) (nI V) (nI D) (nI AL) fR (nI n) (nI 1) rs sc sx an lv q) (fun i q => ap_ps q ∧ (i = 0 → q c = -1)) pre ps ⟨hps, fun _ => hq⟩ ?_ ?_
  · intro n' q hI
    refine pk_le pre pre (fun _ => pk_le pre 0 (fun z => al_921 hL hc hb hn0 hp hA hV hI.1 (hI.2 (by omega)) k) (fun _ => aq_rewind hc (al_921 hL hc hb hn0 hp hA hV (ap_ps_rew hI.1) pk_us k))) (fun z => absurd z (by omega))
  · intro n' i q hi hI hw
    refine pk_le pre i (fun z => absurd z (by omega)) (fun _ => pk_eq i 1 (fun _ => aq_skipN (w := 0) b2 (by have := hp.1; omega) hc hI.1 fun r q' g1 _ => nm_r (nI_1 i) (hw q' ⟨g1, fun z => absurd z (by omega)⟩)) (fun _ => aq_nextN hc hI.1 fun r q' g1 _ => nm_r (nI_1 i) (hw q' ⟨g1, fun z => absurd z (by omega)⟩)))
end
end
section
theorem ap_kx_D {k D c : Nat} (hD : 0 < D) : ∀ v, (∀ w, w < v → k.testBit w = true → aj_val c w < D) → ∀ j, aj_kx k c v / 4 ^ j % 4 < D
  | 0, _, j => by rw [aj_kx, Nat.zero_div]; exact hD
  | v + 1, h, j => by
    have ih := ap_kx_D (k := k) (c := c) hD v (fun w hw => h w (by omega)) j
    have hl := aj_kx_lt k c v
    rw [aj_kx]
    by_cases hb : k.testBit v = true
    · rw [if_pos hb]
      have hd := h v (by omega) hb
      have hv := aj_val_lt c v
      rcases Nat.lt_trichotomy j (aj_sz k v) with z | z | z
      · obtain ⟨d, hd2⟩ : ∃ d, aj_sz k v = j + (d + 1) := ⟨aj_sz k v - j - 1, by omega⟩
        have e2 : aj_val c v * 4 ^ aj_sz k v = (aj_val c v * 4 ^ d * 4) * 4 ^ j := by
          rw [hd2, Nat.pow_add, Nat.pow_succ, Nat.mul_assoc, Nat.mul_assoc, Nat.mul_comm (4 ^ j), Nat.mul_assoc]
        rw [e2, Nat.add_mul_div_right _ _ (Nat.pow_pos (by decide)), Nat.add_mul_mod_self_right]
        exact ih
      · rw [z, Nat.add_mul_div_right _ _ (Nat.pow_pos (by decide)), Nat.div_eq_of_lt hl, Nat.zero_add, Nat.mod_eq_of_lt hv]
        exact hd
      · have h1 : aj_val c v * 4 ^ aj_sz k v ≤ 3 * 4 ^ aj_sz k v := Nat.mul_le_mul_right _ (by omega)
        have h2 : 4 ^ (aj_sz k v + 1) ≤ 4 ^ j := Nat.pow_le_pow_right (by decide) z
        rw [Nat.pow_succ] at h2
        rw [Nat.div_eq_of_lt (by omega)]
        exact hD
    · rw [if_neg hb]
      exact ih
theorem ap_shl2 {p j : Nat} (hp : p < 1024) (hj : j < 4) : (nI p <<< ((2 : Int32) &&& 31)) ||| nI j = nI (p * 4 + j) := by
  have h1 : p * 2 ^ 2 ||| j = p * 2 ^ 2 + j := by rw [← Nat.shiftLeft_eq, Nat.shiftLeft_add_eq_or_of_lt hj]
  rw [pk_shlN _ 2 (by decide) (by omega), aj_or, h1]
def ap_digs (D v p : Nat) : Prop := p < 4 ^ v ∧ ∀ i, i < v → p / 4 ^ i % 4 < D
theorem ap_digs_s {D v p j : Nat} (hD : D ≤ 4) (h : ap_digs D v p) (hj : j < D) : ap_digs D (v + 1) (p * 4 + j) := by
  refine ⟨by rw [Nat.pow_succ]; have := h.1; omega, fun i hi => ?_⟩
  cases i with
  | zero =>
    rw [Nat.pow_zero, Nat.div_one]
    omega
  | succ i =>
    have e : (p * 4 + j) / 4 ^ (i + 1) = p / 4 ^ i := by
      rw [Nat.pow_succ, Nat.mul_comm (4 ^ i) 4, ← Nat.div_div_eq_div_mul, show (p * 4 + j) / 4 = p by omega]
    rw [e]
    exact h.2 i (by omega)
theorem ap_digs_ok {V D AL n p a : Nat} {m : Nat → Nat} {sc sx : Nat → Int32} {M : Nat → Int64} (hp : ap_pic V D AL n m sc sx M) (h : ap_digs D V p) (ha : a < n) : ap_ok D (aj_sz (m a) 6) (aj_kx (m a) (ap_up6 V p) V) := by
  obtain ⟨⟨b1, b2, b3, b4, b5, b6⟩, hs, _⟩ := hp
  have e := ap_kx_6 (c := ap_up6 V p) (hs a ha).2.2.1 b2
  have hd := ap_kx_D (k := m a) (c := ap_up6 V p) (D := D) (by omega) V fun w hw _ => by
    rw [ap_dig b1 b2 hw, Nat.pow_mul]
    exact h.2 (V - 1 - w) (by omega)
  refine ⟨by rw [← e]; exact aj_kx_lt _ _ 6, ?_, ?_, ?_⟩
  · have := hd 0
    rw [Nat.pow_zero, Nat.div_one] at this
    exact this
  · exact hd 1
  · exact hd 2
theorem ap_uL {f : Nat → Int64} {k : Nat} {x : Int64} : vp_updL f k x k = x := if_pos rfl
theorem ap_uN {f : Nat → Int64} {k j : Nat} {x : Int64} (h : j ≠ k) : vp_updL f k x j = f j := if_neg h
theorem ap_pic_upd {V D AL n a r : Nat} {m : Nat → Nat} {sc sx : Nat → Int32} {M : Nat → Int64} {y : Int64} {z : Int32} (hp : ap_pic V D AL n m sc sx M) (ha : a < n) (hok : ap_ok D (aj_sz (m a) 6) r) (hy : ∀ i, i < 64 → i ≠ r → al_b y i = al_b (M a) i) (hz : ¬ z = 0 ↔ al_b y r = true) : ap_pic V D AL n m sc (upd sx (a * 64 + r) z) (vp_updL M a y) := by
  obtain ⟨hb, hs, h1, h2⟩ := hp
  have hr := ap_ok64 (hs a ha).2.2.2 hok
  refine ⟨hb, hs, fun b hbn i hi => ?_, fun b hbn hb6 i hi => ?_⟩
  · by_cases e : b = a
    · subst e
      rw [ap_uL]
      by_cases e2 : i = r
      · subst e2
        rw [pk_us]
        exact ⟨hz, fun _ => hok⟩
      · rw [pk_un (by omega), hy i hi e2]
        exact h1 b hbn i hi
    · rw [ap_uN e, pk_un (by omega)]
      exact h1 b hbn i hi
  · rw [ap_uN (by omega), pk_un (by omega)]
    exact h2 b hbn hb6 i hi
section
variable {post : Int32 → Prop} {L : Nat} {xs : Nat → Int32} {J99 : Int32 → Int32 → Int64 → Int64 → Int64 → Int64 → Int64 → Int64 → Int64 → Int32 → Int32 → Int32 → Int32 → Int32 → Int32 → Int32 → Int32 → (Nat → Int32) → (Nat → Int32) → (Nat → Int32) → (Nat → Int32) → (Nat → Int32) → Prop} {J406 : Int64 → Int64 → Int64 → Int64 → Int64 → Int64 → Int32 → Int32 → Int32 → Int32 → Int32 → Int32 → Int32 → Int32 → (Nat → Int32) → (Nat → Int32) → (Nat → Int32) → (Nat → Int32) → (Nat → Int32) → Prop}
variable {V D AL n g rd t : Nat} {m : Nat → Nat} {x6 fR rs x24 x25 x26 x28 : Int32} {sc sx an lv ps : Nat → Int32} {M E : Nat → Int64} {kc ks : Nat}
theorem al_689ok {a r : Nat} {x36 : Int32} (ha : a < 6) (k : ∀ y, (x36 = 0 → y = M a ||| ((1 : Int64) <<< ((nI r).toInt64 &&& 63))) → (¬ x36 = 0 → y = M a &&& (((1 : Int64) <<< ((nI r).toInt64 &&& 63)) ^^^ (-1))) → J406 (vp_updL M a y 0) (vp_updL M a y 1) (vp_updL M a y 2) (vp_updL M a y 3) (vp_updL M a y 4) (vp_updL M a y 5) (nI (t + 1)) (nI V) (nI D) (nI AL) fR (nI n) (nI 0) rs sc sx an lv ps) : wL_law_689 post L xs J99 J406 (nI V) (nI D) (nI AL) x6 (nI g) (nI n) (nI (aj_cov m n)) (lN (ap_pk m n)) (M 0) (M 1) (M 2) (M 3) (M 4) (M 5) x24 x25 x26 x28 (nI t) (nI a) x36 (nI r) 0 kc ks (nI V) (nI D) (nI AL) fR (nI n) (nI 0) rs sc sx an lv ps := by
  have pt : ∀ (post' : Int64 → Prop), (∀ y, (x36 = 0 → y = M a ||| ((1 : Int64) <<< ((nI r).toInt64 &&& 63))) → (¬ x36 = 0 → y = M a &&& (((1 : Int64) <<< ((nI r).toInt64 &&& 63)) ^^^ (-1))) → post' y) → wpL_put post' () (M a) (nI r) x36 := fun post' H => br_c (fun z => H _ (fun _ => rfl) (fun y => absurd z y)) (fun z => H _ (fun y => absurd y z) (fun _ => rfl))
  have e : a = 0 ∨ a = 1 ∨ a = 2 ∨ a = 3 ∨ a = 4 ∨ a = 5 := by omega
  refine br_t rfl ?_
  rcases e with e | e | e | e | e | e <;> subst e
  · exact br_t rfl (pt _ fun y h1 h2 => nm_r (nI_1 t) (k y h1 h2))
  · exact br_f (by decide) (br_t rfl (pt _ fun y h1 h2 => nm_r (nI_1 t) (k y h1 h2)))
  · exact br_f (by decide) (br_f (by decide) (br_t rfl (pt _ fun y h1 h2 => nm_r (nI_1 t) (k y h1 h2))))
  · exact br_f (by decide) (br_f (by decide) (br_f (by decide) (br_t rfl (pt _ fun y h1 h2 => nm_r (nI_1 t) (k y h1 h2)))))
  · exact br_f (by decide) (br_f (by decide) (br_f (by decide) (br_f (by decide) (br_t rfl (pt _ fun y h1 h2 => nm_r (nI_1 t) (k y h1 h2))))))
  · exact br_f (by decide) (br_f (by decide) (br_f (by decide) (br_f (by decide) (br_f (by decide) (pt _ fun y h1 h2 => nm_r (nI_1 t) (k y h1 h2))))))
theorem al_567 {a fr wd : Nat} {x31 x34 x36 : Int32} (hL : L ≤ 260) (hp : ap_pic V D AL n m sc sx M) (ha : a < n) (hfr : fr < 1000) (hwd : 0 < wd) (hwd6 : wd ≤ 6) (h34 : x34 = -1 ∨ ∃ e, e < 10000 ∧ x31 = nI e) (k : ∀ sx' M', ap_pic V D AL n m sc sx' M' → J406 (M' 0) (M' 1) (M' 2) (M' 3) (M' 4) (M' 5) (nI (t + 1)) (nI V) (nI D) (nI AL) fR (nI n) (nI 0) rs sc sx' an lv ps) : ∃ fu, wL_law_567 post L xs J99 J406 (nI V) (nI D) (nI AL) x6 (nI g) (nI n) (nI (aj_cov m n)) (lN (ap_pk m n)) (M 0) (M 1) (M 2) (M 3) (M 4) (M 5) x24 x25 x26 x28 (nI t) (nI a) x31 (nI fr) (nI wd) x34 x36 kc ks (nI V) (nI D) (nI AL) fR (nI n) (nI 0) rs sc sx an lv ps fu 0 0 := by
  have b1 := hp.1.1
  have b2 := hp.1.2.1
  have b3 := hp.1.2.2.1
  have b4 := hp.1.2.2.2.1
  have hn : n ≤ 6 := by have := hp.1; omega
  refine loop_0 (fun n' v p => wL_law_567 post L xs J99 J406 (nI V) (nI D) (nI AL) x6 (nI g) (nI n) (nI (aj_cov m n)) (lN (ap_pk m n)) (M 0) (M 1) (M 2) (M 3) (M 4) (M 5) x24 x25 x26 x28 (nI t) (nI a) x31 (nI fr) (nI wd) x34 x36 kc ks (nI V) (nI D) (nI AL) fR (nI n) (nI 0) rs sc sx an lv ps n' (nI p) (nI v)) (fun v p => ap_digs D v p) V 0 ⟨by decide, fun i hi => absurd hi (Nat.not_lt_zero i)⟩ ?_ ?_
  · intro n' p hI
    have h4' := ap_4V b1 b2 hI.1
    have hok := ap_digs_ok hp hI ha
    have h64 := ap_ok64 (hp.2.1 a ha).2.2.2 hok
    refine pk_le V V (fun _ => al_scopeAt hn (ap_m64 hp) rfl (by omega) ?_) (fun z => absurd z (by omega))
    rw [ap_sc_lt ha]
    refine al_proj b1 b2 h4' (ap_m64 hp a ha) (hp.2.1 a ha).2.2.2 ?_
    rw [(ap_d3 _ h64).1, (ap_d3 _ h64).2.1, (ap_d3 _ h64).2.2]
    refine nm_e (nm_e (nm_e (br_c (fun z => ?_) (fun z => ?_))))
    · refine aq_addRow b2 hn b4 hp.2.1 ha hok (al_689ok (by omega) fun y h1 h2 => k _ _ (ap_pic_upd hp ha hok (fun i hi e => ?_) ?_)) (fun rc hrc => br_f hrc (nm_r (nI_1 t) (k sx M hp)))
      · rw [h1 z, al_or h64 hi, decide_eq_false (fun y => e y.symm), Bool.or_false]
      · rw [h1 z, al_or h64 h64, decide_eq_true rfl, Bool.or_true]
        exact ⟨fun _ => rfl, fun _ => by decide⟩
    · refine aq_dropRow b2 hn b4 hp.2.1 ha hok (al_689ok (by omega) fun y h1 h2 => k _ _ (ap_pic_upd hp ha hok (fun i hi e => ?_) ?_)) (fun rc hrc => br_f hrc (nm_r (nI_1 t) (k sx M hp)))
      · rw [h2 z, al_andn h64 hi, decide_eq_false (fun y => e y.symm), Bool.not_false, Bool.and_true]
      · rw [h2 z, al_andn h64 h64, decide_eq_true rfl, Bool.not_true, Bool.and_false]
        exact ⟨fun y => absurd rfl y, fun y => absurd y (by decide)⟩
  · intro n' v p hv hI hw
    have hp4 : p < 1024 := by
      have h1 := hI.1
      have h2 : 4 ^ v ≤ 4 ^ 5 := Nat.pow_le_pow_right (by decide) (by omega)
      have h3 : 4 ^ 5 = 1024 := rfl
      omega
    have nx : ∀ j, j < D → wL_law_567 post L xs J99 J406 (nI V) (nI D) (nI AL) x6 (nI g) (nI n) (nI (aj_cov m n)) (lN (ap_pk m n)) (M 0) (M 1) (M 2) (M 3) (M 4) (M 5) x24 x25 x26 x28 (nI t) (nI a) x31 (nI fr) (nI wd) x34 x36 kc ks (nI V) (nI D) (nI AL) fR (nI n) (nI 0) rs sc sx an lv ps n' (nI (p * 4 + j)) (nI (v + 1)) := fun j hj => hw _ (ap_digs_s b4 hI hj)
    refine pk_le V v (fun z => absurd z (by omega)) (fun _ => br_c (fun z => ?_) (fun z => ⟨aj_n0 (by omega) (by omega), ?_⟩))
    · rcases h34 with e | ⟨e, he, e31⟩
      · exact absurd (z.trans e) (aj_nm1 (by omega))
      · exact al_pick hL (e + 4) (by rw [e31]; exact nI_add e 4) (by omega) D rfl (by omega) (by omega) fun j hj => nm_r (ap_shl2 hp4 (by omega)) (nm_r (nI_1 v) (nx j hj))
    · have hmod := Nat.mod_lt v hwd
      exact al_pick hL (fr + v % wd) (by rw [pk_rem (by omega) hwd (by omega), nI_add]) (by omega) D rfl (by omega) (by omega) fun j hj => nm_r (ap_shl2 hp4 (by omega)) (nm_r (nI_1 v) (nx j hj))
theorem al_504 {a e kd : Nat} {z0 : Int32} (hL : L ≤ 260) (hp : ap_pic V D AL n m sc sx M) (ha : a < n) (hg : g ≤ 4) (he : e < 900) (hkd : kd < 4) (k : ∀ sx' M', ap_pic V D AL n m sc sx' M' → J406 (M' 0) (M' 1) (M' 2) (M' 3) (M' 4) (M' 5) (nI (t + 1)) (nI V) (nI D) (nI AL) fR (nI n) (nI 0) rs sc sx' an lv ps) : wL_law_504 post L xs J99 J406 (nI V) (nI D) (nI AL) x6 (nI g) (nI n) (nI (aj_cov m n)) (lN (ap_pk m n)) (M 0) (M 1) (M 2) (M 3) (M 4) (M 5) x24 x25 x26 x28 (nI t) (nI a) (nI e) 6 (-1) 0 (nI kd) z0 kc ks (nI V) (nI D) (nI AL) fR (nI n) (nI 0) rs sc sx an lv ps := by
  have b1 := hp.1.1
  have b2 := hp.1.2.1
  have f547 : ∀ fr wd, fr < 1000 → 0 < wd → wd ≤ 6 → wL_law_547 post L xs J99 J406 (nI V) (nI D) (nI AL) x6 (nI g) (nI n) (nI (aj_cov m n)) (lN (ap_pk m n)) (M 0) (M 1) (M 2) (M 3) (M 4) (M 5) x24 x25 x26 x28 (nI t) (nI a) (nI e) (nI fr) (nI wd) (-1) 0 z0 (nI kd) kc ks (nI V) (nI D) (nI AL) fR (nI n) (nI 0) rs sc sx an lv ps := fun fr wd h1 h2 h3 => pk_le kd 1 (fun _ => al_567 hL hp ha h1 h2 h3 (Or.inl rfl) k) (fun _ => al_pick hL (e + 3) (nI_add e 3) (by omega) V rfl (by omega) (by omega) fun j _ => al_567 hL hp ha h1 h2 h3 (Or.inr ⟨e, by omega, rfl⟩) k)
  have f517 : wL_law_517 post L xs J99 J406 (nI V) (nI D) (nI AL) x6 (nI g) (nI n) (nI (aj_cov m n)) (lN (ap_pk m n)) (M 0) (M 1) (M 2) (M 3) (M 4) (M 5) x24 x25 x26 x28 (nI t) (nI a) (nI e) (-1) 0 z0 (nI kd) kc ks (nI V) (nI D) (nI AL) fR (nI n) (nI 0) rs sc sx an lv ps := nm_r (nI_add e 2) (f547 (e + 2) 3 (by omega) (by decide) (by decide))
  refine pk_eq g 0 (fun _ => f517) (fun hg0 => pk_eq kd 1 (fun _ => f517) (fun _ => ?_))
  refine al_pick hL (e + 2) (nI_add e 2) (by omega) g rfl (by omega) (by omega) fun j hj => nm_r (e' := nI (32 + 6 * j)) ?_ (f547 (32 + 6 * j) 6 (by omega) (by decide) (by decide))
  rw [show (6 : Int32) * nI j = nI (6 * j) from pk_mul 6 j]
  exact nI_add 32 (6 * j)
theorem al_406 {base c steps : Nat} (hL : L ≤ 260) (hc : c < 2) (hb : base < 300) (hg : g ≤ 4) (hst : steps ≤ 40) (hn0 : 0 < n) (hp : ap_pic V D AL n m sc sx M) (k : ∀ sx' M' ph rs' an' lv' ps', ap_pic V D AL n m sc sx' M' → ph ≠ 0 → ph ≤ 2 → J99 (nI n) (nI (aj_cov m n)) (lN (ap_pk m n)) (M' 0) (M' 1) (M' 2) (M' 3) (M' 4) (M' 5) (nI (rd + 1)) (nI V) (nI D) (nI AL) fR (nI n) (nI ph) rs' sc sx' an' lv' ps') : ∃ fu, wL_law_406 post L xs J99 (nI V) (nI D) (nI AL) x6 (nI g) (nI n) (nI (aj_cov m n)) (lN (ap_pk m n)) (nI rd) (nI base) (nI c) (nI steps) kc ks fu (M 0) (M 1) (M 2) (M 3) (M 4) (M 5) 0 (nI V) (nI D) (nI AL) fR (nI n) (nI 0) rs sc sx an lv ps := by
  have hn : n ≤ 6 := by have := hp.1; omega
  refine loop_0 (fun n' t (s : (Nat → Int32) × (Nat → Int64)) => wL_law_406 post L xs J99 (nI V) (nI D) (nI AL) x6 (nI g) (nI n) (nI (aj_cov m n)) (lN (ap_pk m n)) (nI rd) (nI base) (nI c) (nI steps) kc ks n' (s.2 0) (s.2 1) (s.2 2) (s.2 3) (s.2 4) (s.2 5) (nI t) (nI V) (nI D) (nI AL) fR (nI n) (nI 0) rs sc s.1 an lv ps) (fun _ s => ap_pic V D AL n m sc s.1 s.2) steps (sx, M) hp ?_ ?_
  · rintro n' ⟨sx', M'⟩ hI
    dsimp only at hI ⊢
    have hm := ap_m64 hI
    refine pk_le steps steps (fun _ => aq_compile hn (by omega) (aj_msk_of hI.1.2.1 hI.2.1) (fun K hres hK => ?_) (fun hres a1 l1 hA hV => ?_)) (fun z => absurd z (by omega))
    · have h64 := hres.1.1
      refine al_tree hn0 hn hm hres (fun z => absurd z hK) (fun _ => br_t rfl (br_t rfl (br_f (by decide) (br_f (aj_n0 hK (by omega)) (nm_r (nI_1 rd) ?_)))))
      exact k sx' M' 2 _ _ _ _ hI (by decide) (by decide)
    · refine al_tree hn0 hn hm hres (fun _ => br_f (by decide) (br_t rfl (al_pick hL (base + 2) (nI_add base 2) (by omega) 4 rfl (by decide) (by decide) fun j hj => ?_))) (fun z => absurd rfl z)
      have e : c = 0 ∨ c = 1 := by omega
      exact al_869 hL hc (by omega) hj hn0 hI hA hV ap_ps0 (by rcases e with e | e <;> subst e <;> rfl) fun ps' => k sx' M' 1 _ _ _ ps' hI (by decide) (by decide)
  · rintro n' t ⟨sx', M'⟩ ht hI hw
    dsimp only at hI ⊢
    have hz := aj_n0 (show n ≠ 0 by omega) (show n < 2 ^ 31 by omega)
    have hmod := Nat.mod_lt t hn0
    have hdiv := Nat.div_le_self t n
    have egn : nI g * nI n = nI (g * n) := pk_mul g n
    have hgn : g * n ≤ 24 := Nat.mul_le_mul hg hn
    refine pk_le steps t (fun z => absurd z (by omega)) (fun _ => ⟨hz, ?_⟩)
    rw [pk_rem (by omega) hn0 (by omega), pk_div (by omega) hn0 (by omega), egn]
    refine nm_e (nm_e ⟨hz, nm_r (e' := nI (32 + 6 * (t / n))) (by rw [show (6 : Int32) * nI (t / n) = nI (6 * (t / n)) from pk_mul 6 _]; exact nI_add 32 _) (pk_lt t (g * n) (fun _ => ?_) (fun hge => ?_))⟩)
    · exact al_567 hL hI hmod (by omega) (by decide) (by decide) (Or.inl rfl) fun sx2 M2 h2 => hw (sx2, M2) h2
    · have e31 : (nI base + 3) + 5 * (nI t - nI (g * n)) = nI (base + 3 + 5 * (t - g * n)) := by
        rw [pk_sub hge, show (5 : Int32) * nI (t - g * n) = nI (5 * (t - g * n)) from pk_mul 5 _, show nI base + 3 = nI (base + 3) from nI_add base 3, nI_add]
      rw [e31]
      have hlt : base + 3 + 5 * (t - g * n) < 900 := by omega
      refine al_pick hL (base + 3 + 5 * (t - g * n) + 1) (nI_add _ 1) (by omega) 4 rfl (by decide) (by decide) fun kd hkd => al_pick hL (base + 3 + 5 * (t - g * n)) rfl (by omega) n rfl hn0 (by omega) fun a ha => ?_
      exact br_c (fun _ => al_504 hL hI ha hg hlt hkd fun sx2 M2 h2 => hw (sx2, M2) h2) (fun _ => al_504 hL hI ha hg hlt hkd fun sx2 M2 h2 => hw (sx2, M2) h2)
end
end
section
theorem ap_cov_mk {m : Nat → Nat} {s k : Nat} : ∀ n, n ≤ k → aj_cov (aj_mk m k s) n = aj_cov m n
  | 0, _ => rfl
  | n + 1, h => by rw [aj_cov, aj_cov, ap_cov_mk n (by omega), aj_mk_lt (by omega)]
theorem ap_pk_mk {m : Nat → Nat} {s k : Nat} : ∀ n, n ≤ k → ap_pk (aj_mk m k s) n = ap_pk m n
  | 0, _ => rfl
  | n + 1, h => by rw [ap_pk, ap_pk, ap_pk_mk n (by omega), aj_mk_lt (by omega)]
theorem ap_low1 : ∀ s, s < 64 → 0 < s → nI s &&& (nI s - 1) = nI (s &&& (s - 1)) ∧ aj_sz (s &&& (s - 1)) 6 + 1 = aj_sz s 6 ∧ s &&& (s - 1) ≤ s := by decide +kernel
theorem ap_pow1 : ∀ j, j < 6 → aj_sz (2 ^ j) 6 = 1 := by decide +kernel
theorem ap_and64 {y : Nat} (hy : y < 64) (w : Int32) : ∃ j, j < 64 ∧ nI y &&& w = nI j := by
  have e : nI y &&& 63 = nI y := by rw [al_and63, Nat.mod_eq_of_lt hy]
  obtain ⟨j, hj, ej⟩ := pk_andE (nI y &&& w) (m := 63) 6 (by decide)
  refine ⟨j, hj, ?_⟩
  rw [← ej, Int32.and_assoc, Int32.and_comm w 63, ← Int32.and_assoc, e]
theorem ap_pic_add {V D AL n s : Nat} {m : Nat → Nat} {sc sx : Nat → Int32} {M : Nat → Int64} (hp : ap_pic V D AL n m sc sx M) (hA : n < AL) (h0 : 0 < s) (h1 : s < 2 ^ V) (h2 : aj_sz s 6 < 4) : ap_pic V D AL (n + 1) (aj_mk m n s) (upd sc n (nI s)) sx M := by
  obtain ⟨⟨b1, b2, b3, b4, b5, b6⟩, hs, h3, h4⟩ := hp
  refine ⟨⟨b1, b2, b3, b4, b5, by omega⟩, aj_scp_add hs h0 h1 h2, fun a ha r hr => ?_, fun a ha => h4 a (by omega)⟩
  by_cases e : a = n
  · subst e
    obtain ⟨z1, z2⟩ := h4 a (Nat.le_refl a) (by omega) r hr
    rw [z1, z2]
    exact ⟨⟨fun y => absurd rfl y, fun y => absurd y (by decide)⟩, fun y => absurd y (by decide)⟩
  · rw [aj_mk_lt (by omega)]
    exact h3 a (by omega) r hr
def ap_par (V par : Nat) : Prop := par = 0 ∨ (0 < par ∧ par < 2 ^ V ∧ aj_sz par 6 < 4)
section
variable {post : Int32 → Prop} {L : Nat} {xs : Nat → Int32} {J99 : Int32 → Int32 → Int64 → Int64 → Int64 → Int64 → Int64 → Int64 → Int64 → Int32 → Int32 → Int32 → Int32 → Int32 → Int32 → Int32 → Int32 → (Nat → Int32) → (Nat → Int32) → (Nat → Int32) → (Nat → Int32) → (Nat → Int32) → Prop} {J169 : Int32 → Int32 → Int64 → Int32 → Int32 → Int32 → Int32 → Int32 → Int32 → Int32 → (Nat → Int32) → (Nat → Int32) → (Nat → Int32) → (Nat → Int32) → (Nat → Int32) → Prop}
variable {V D AL n g rd : Nat} {m : Nat → Nat} {x6 fR rs x24 x25 x26 x27 x28 : Int32} {sc sx an lv ps : Nat → Int32} {M : Nat → Int64} {kc ks : Nat}
theorem al_332 {s : Nat} (hp : ap_pic V D AL n m sc sx M) (hA : n < AL) (h0 : 0 < s) (h1 : s < 2 ^ V) (h2 : aj_sz s 6 < 4) (k : ap_pic V D AL (n + 1) (aj_mk m n s) (upd sc n (nI s)) sx M → J169 (nI (n + 1)) (nI (aj_cov (aj_mk m n s) (n + 1))) (lN (ap_pk (aj_mk m n s) (n + 1))) (nI V) (nI D) (nI AL) fR (nI (n + 1)) (nI 0) rs (upd sc n (nI s)) sx an lv ps) : wL_law_332 post L xs J99 J169 (nI V) (nI D) (nI AL) x6 (nI g) (nI n) (nI (aj_cov m n)) (lN (ap_pk m n)) (M 0) (M 1) (M 2) (M 3) (M 4) (M 5) x24 x25 x26 x27 (nI s) kc ks (nI V) (nI D) (nI AL) fR (nI n) (nI 0) rs sc sx an lv ps := by
  have b2 := hp.1.2.1
  have hn6 : n < 6 := by have := hp.1; omega
  have hs64 : s < 64 := Nat.lt_of_lt_of_le h1 (aj_p2 b2)
  have hpk := ap_pk_lt n (ap_m64 hp)
  have h36 := ap_pk_36 (by omega) (ap_m64 hp)
  have hk := k (ap_pic_add hp hA h0 h1 h2)
  unfold wL_law_332
  refine aq_addAtom b2 (by have := hp.1; omega) hA h0 h1 h2 (br_t rfl (aq_scope (by omega) (by omega) ?_))
  rw [pk_us]
  refine br_t rfl (nm_r (e' := lN (ap_pk (aj_mk m n s) (n + 1))) ?_ (nm_r (e' := nI (aj_cov (aj_mk m n s) (n + 1))) ?_ (nm_r (nI_1 n) hk)))
  · have hb : s * 2 ^ (6 * n) < 2 ^ 36 := by
      have h3 : 2 ^ (6 * n) ≤ 2 ^ 30 := Nat.pow_le_pow_right (by decide) (by omega)
      have h4 : s * 2 ^ (6 * n) ≤ 63 * 2 ^ 30 := Nat.mul_le_mul (by omega) h3
      have h5 : 63 * 2 ^ 30 < 2 ^ 36 := by decide
      omega
    have e64 : 64 ^ n = 2 ^ (6 * n) := by rw [Nat.pow_mul]
    have hor : s * 2 ^ (6 * n) ||| ap_pk m n = s * 2 ^ (6 * n) + ap_pk m n := by
      rw [← Nat.shiftLeft_eq, Nat.shiftLeft_add_eq_or_of_lt (by rw [← e64]; exact hpk)]
    rw [show (6 : Int32) * nI n = nI (6 * n) from pk_mul 6 n, nI_l (by omega), wb_shl s (by omega), wb_or (by omega) (by omega), Nat.or_comm, hor, ap_pk, ap_pk_mk n (Nat.le_refl n), aj_mk_n, e64, Nat.add_comm]
  · rw [aj_or, aj_cov, ap_cov_mk n (Nat.le_refl n), aj_mk_n]
theorem al_274 {par kk s : Nat} (hL : L ≤ 260) (hkk : kk < 1000) (hp : ap_pic V D AL n m sc sx M) (hA : n < AL) (hpar : ap_par V par) (hs : s < 2 ^ V) (k : ∀ s, 0 < s → ap_pic V D AL (n + 1) (aj_mk m n s) (upd sc n (nI s)) sx M → J169 (nI (n + 1)) (nI (aj_cov (aj_mk m n s) (n + 1))) (lN (ap_pk (aj_mk m n s) (n + 1))) (nI V) (nI D) (nI AL) fR (nI (n + 1)) (nI 0) rs (upd sc n (nI s)) sx an lv ps) : ∃ fu, wL_law_274 post L xs J99 J169 (nI V) (nI D) (nI AL) x6 (nI g) (nI n) (nI (aj_cov m n)) (lN (ap_pk m n)) (M 0) (M 1) (M 2) (M 3) (M 4) (M 5) x24 x25 x26 x27 (nI kk) (nI par) kc ks (nI V) (nI D) (nI AL) fR (nI n) (nI 0) rs sc sx an lv ps fu (nI s) 0 := by
  have b2 := hp.1.2.1
  have hV64 := aj_p2 b2
  refine loop_0 (fun n' i s => wL_law_274 post L xs J99 J169 (nI V) (nI D) (nI AL) x6 (nI g) (nI n) (nI (aj_cov m n)) (lN (ap_pk m n)) (M 0) (M 1) (M 2) (M 3) (M 4) (M 5) x24 x25 x26 x27 (nI kk) (nI par) kc ks (nI V) (nI D) (nI AL) fR (nI n) (nI 0) rs sc sx an lv ps n' (nI s) (nI i)) (fun i s => s < 2 ^ V ∧ (aj_sz s 6 ≤ 3 ∨ aj_sz s 6 + i ≤ 6)) 3 s ⟨hs, Or.inr (aj_sz_le s 6)⟩ ?_ ?_
  · intro n' s hI
    have h3 : aj_sz s 6 < 4 := by have := hI.2; omega
    refine pk_le 3 3 (fun _ => pk_eq s 0 (fun _ => ?_) (fun z => al_332 hp hA (by omega) hI.1 h3 (k s (by omega))) rfl rfl (by have := hI.1; omega)) (fun z => absurd z (by omega))
    have hpl : par < 2 ^ 31 := by rcases hpar with z | z <;> omega
    refine pk_eq par 0 (fun _ => ?_) (fun z => ?_)
    · refine al_pick hL (kk + 3) (nI_add kk 3) (by omega) V rfl (by have := hp.1; omega) (by omega) fun j hj => ?_
      rw [aj_shV j (by omega)]
      exact al_332 hp hA (Nat.two_pow_pos j) (Nat.pow_lt_pow_right (by decide) hj) (by rw [ap_pow1 j (by omega)]; decide) (k (2 ^ j) (Nat.two_pow_pos j))
    · rcases hpar with y | ⟨y1, y2, y3⟩
      · exact absurd y z
      · exact al_332 hp hA y1 y2 y3 (k par y1)
  · intro n' i s hi hI hw
    have hz := aj_sz_le s 6
    refine pk_le 3 i (fun z => absurd z (by omega)) (fun _ => al_bits rfl (by have := hI.1; omega) (pk_le (aj_sz s 6) 3 (fun z => nm_r (nI_1 i) (hw s ⟨hI.1, Or.inl z⟩)) (fun z => ?_)))
    have hs0 : 0 < s := Nat.pos_of_ne_zero fun e => by
      subst e
      exact absurd z (by decide)
    obtain ⟨l1, l2, l3⟩ := ap_low1 s (by have := hI.1; omega) hs0
    exact nm_r l1 (nm_r (nI_1 i) (hw _ ⟨by have := hI.1; omega, Or.inr (by have := hI.2; omega)⟩))
theorem al_214 {par kk : Nat} (hL : L ≤ 260) (hkk : kk < 1000) (hp : ap_pic V D AL n m sc sx M) (hA : n < AL) (hpar : ap_par V par) (k : ∀ s, 0 < s → ap_pic V D AL (n + 1) (aj_mk m n s) (upd sc n (nI s)) sx M → J169 (nI (n + 1)) (nI (aj_cov (aj_mk m n s) (n + 1))) (lN (ap_pk (aj_mk m n s) (n + 1))) (nI V) (nI D) (nI AL) fR (nI (n + 1)) (nI 0) rs (upd sc n (nI s)) sx an lv ps) : wL_law_214 post L xs J99 J169 (nI V) (nI D) (nI AL) x6 (nI g) (nI n) (nI (aj_cov m n)) (lN (ap_pk m n)) (M 0) (M 1) (M 2) (M 3) (M 4) (M 5) x24 x25 x26 x27 (nI kk) (nI par) kc ks (nI V) (nI D) (nI AL) fR (nI n) (nI 0) rs sc sx an lv ps := by
  have b2 := hp.1.2.1
  have f263 : ∀ z, z < 64 → wL_law_263 post L xs J99 J169 (nI V) (nI D) (nI AL) x6 (nI g) (nI n) (nI (aj_cov m n)) (lN (ap_pk m n)) (M 0) (M 1) (M 2) (M 3) (M 4) (M 5) x24 x25 x26 x27 (nI kk) (nI par) (nI z) kc ks (nI V) (nI D) (nI AL) fR (nI n) (nI 0) rs sc sx an lv ps := fun z hz => by
    have hV := Nat.two_pow_pos V
    have e : nI z &&& (((1 : Int32) <<< (nI V &&& 31)) - 1) = nI (z % 2 ^ V) := by
      rw [aj_shV V (by omega), show nI (2 ^ V) - 1 = nI (2 ^ V - 1) from pk_sub (b := 1) (by omega), nx_and, Nat.and_two_pow_sub_one_eq_mod]
    exact nm_r e (al_274 hL hkk hp hA hpar (Nat.mod_lt _ hV) k)
  unfold wL_law_214
  refine al_pick hL (kk + 1) (nI_add kk 1) (by omega) 64 rfl (by decide) (by decide) fun x hx => al_pick hL (kk + 2) (nI_add kk 2) (by omega) 64 rfl (by decide) (by decide) fun y hy => br_c (fun _ => f263 x hx) (fun _ => ?_)
  obtain ⟨j, hj, ej⟩ := ap_and64 hy (nI (aj_cov m n) ^^^ (-1))
  rw [ej, nx_and, aj_or]
  exact f263 _ (Nat.or_lt_two_pow (n := 6) (Nat.and_lt_two_pow (n := 6) par hx) hj)
theorem al_169 {base c goal : Nat} (hL : L ≤ 260) (hc : c < 2) (hb : base < 300) (hg : g ≤ 4) (hgo : 0 < goal) (hgo2 : goal < 100) (hAL : 3 ≤ AL) (k : ∀ n m sc sx' M' ph rs' an' lv' ps', 0 < n → ap_pic V D AL n m sc sx' M' → ph ≠ 0 → ph ≤ 2 → J99 (nI n) (nI (aj_cov m n)) (lN (ap_pk m n)) (M' 0) (M' 1) (M' 2) (M' 3) (M' 4) (M' 5) (nI (rd + 1)) (nI V) (nI D) (nI AL) fR (nI n) (nI ph) rs' sc sx' an' lv' ps') : ∀ d n m sc, AL - n < d → ap_pic V D AL n m sc sx M → wL_law_169 post L xs J99 (nI V) (nI D) (nI AL) x6 (nI g) (M 0) (M 1) (M 2) (M 3) (M 4) (M 5) (nI rd) (nI base) (nI c) (nI goal) kc ks d (nI n) (nI (aj_cov m n)) (lN (ap_pk m n)) (nI V) (nI D) (nI AL) fR (nI n) (nI 0) rs sc sx an lv ps := by
  intro d
  induction d with
  | zero => exact fun n m sc h => absurd h (Nat.not_lt_zero _)
  | succ d ih =>
    intro n m sc hd hp
    have hn : n ≤ 6 := by have := hp.1; omega
    have hgn : g * n ≤ 24 := Nat.mul_le_mul hg hn
    have f385 : 0 < n → wL_law_385 post L xs J99 (nI V) (nI D) (nI AL) x6 (nI g) (nI n) (nI (aj_cov m n)) (lN (ap_pk m n)) (M 0) (M 1) (M 2) (M 3) (M 4) (M 5) (nI rd) (nI base) (nI c) kc ks (nI V) (nI D) (nI AL) fR (nI n) (nI 0) rs sc sx an lv ps := fun hn0 => by
      unfold wL_law_385
      refine al_pick hL (base + 1) (nI_add base 1) (by omega) 13 rfl (by decide) (by decide) fun j hj => nm_r (e' := nI (g * n + j)) (by rw [pk_mul g n, nI_add]) ?_
      exact al_406 hL hc hb hg (by omega) hn0 hp fun sx' M' ph rs' an' lv' ps' h1 h2 h3 => k n m sc sx' M' ph rs' an' lv' ps' hn0 h1 h2 h3
    refine pk_le goal n (fun z => f385 (by omega)) (fun z1 => pk_le AL n (fun z => f385 (by omega)) (fun z2 => ?_) rfl rfl (by have := hp.1; omega))
    refine nm_r (e' := nI (8 + 4 * n)) (by rw [show (4 : Int32) * nI n = nI (4 * n) from pk_mul 4 n]; exact nI_add 8 _) (pk_eq n 0 (fun _ => ?_) (fun hn0 => ?_))
    · exact al_214 (par := 0) hL (by omega) hp z2 (Or.inl rfl) fun s _ h => ih (n + 1) _ _ (by omega) h
    · refine al_pick hL (8 + 4 * n) rfl (by omega) n rfl (by omega) (by omega) fun j hj => al_scopeAt hn (ap_m64 hp) rfl (by omega) ?_
      rw [ap_sc_lt hj]
      obtain ⟨_, q1, q2, q3⟩ := hp.2.1 j hj
      exact al_214 hL (by omega) hp z2 (Or.inr ⟨q1, q2, q3⟩) fun s _ h => ih (n + 1) _ _ (by omega) h
end
section
variable {post : Int32 → Prop} {L : Nat} {xs : Nat → Int32} {V D AL g : Nat} {x6 fR : Int32} {kc ks : Nat}
theorem ap_cx : ∀ j, j < 2 → ∀ rd, rd < 3 → nI j ^^^ (nI rd &&& 1) = nI ((j + rd) % 2) := by decide +kernel
theorem al_99 (hL : L ≤ 260) (hg : g ≤ 4) (hAL : 3 ≤ AL) (h1 : post 1) : ∀ d rd, rd + d = 3 → ∀ n m sc sx M ph rs an lv ps, ap_pic V D AL n m sc sx M → ph ≤ 2 → (rd = 0 → ph = 0) → (rd ≠ 0 → ph ≠ 0 ∧ 0 < n) → wL_law_99 post L xs (nI V) (nI D) (nI AL) x6 (nI g) kc ks (d + 1) (nI n) (nI (aj_cov m n)) (lN (ap_pk m n)) (M 0) (M 1) (M 2) (M 3) (M 4) (M 5) (nI rd) (nI V) (nI D) (nI AL) fR (nI n) (nI ph) rs sc sx an lv ps := by
  intro d
  induction d with
  | zero =>
    intro rd hrd n m sc sx M ph rs an lv ps _ _ _ _
    exact pk_le 3 rd (fun _ => h1) (fun z => absurd z (by omega))
  | succ d ih =>
    intro rd hrd n m sc sx M ph rs an lv ps hp hph h0 hne
    refine pk_le 3 rd (fun z => absurd z (by omega)) (fun _ => nm_r (e' := nI (56 + 96 * rd)) (by rw [show (96 : Int32) * nI rd = nI (96 * rd) from pk_mul 96 rd]; exact nI_add 56 _) (al_pick hL 6 rfl (by decide) 2 rfl (by decide) (by decide) fun j hj => nm_r (ap_cx j hj rd (by omega)) ?_))
    have hcc : (j + rd) % 2 < 2 := Nat.mod_lt _ (by decide)
    have hALn := hp.1
    have go : wL_law_140 post L xs (wL_law_99 post L xs (nI V) (nI D) (nI AL) x6 (nI g) kc ks (d + 1)) (nI V) (nI D) (nI AL) x6 (nI g) (nI n) (nI (aj_cov m n)) (lN (ap_pk m n)) (M 0) (M 1) (M 2) (M 3) (M 4) (M 5) (nI rd) (nI (56 + 96 * rd)) (nI ((j + rd) % 2)) kc ks (nI V) (nI D) (nI AL) fR (nI n) (nI 0) rs sc sx an lv ps := by
      have key : ∀ goal, 0 < goal → goal < 100 → ∃ fu, wL_law_169 post L xs (wL_law_99 post L xs (nI V) (nI D) (nI AL) x6 (nI g) kc ks (d + 1)) (nI V) (nI D) (nI AL) x6 (nI g) (M 0) (M 1) (M 2) (M 3) (M 4) (M 5) (nI rd) (nI (56 + 96 * rd)) (nI ((j + rd) % 2)) (nI goal) kc ks fu (nI n) (nI (aj_cov m n)) (lN (ap_pk m n)) (nI V) (nI D) (nI AL) fR (nI n) (nI 0) rs sc sx an lv ps := fun goal g1 g2 => ⟨AL + 1, al_169 hL hcc (by omega) hg g1 g2 hAL (fun n' m' sc' sx' M' ph' rs' an' lv' ps' hn' hp' hq1 hq2 => ih (rd + 1) (by omega) n' m' sc' sx' M' ph' rs' an' lv' ps' hp' hq2 (fun z => absurd z (by omega)) (fun _ => ⟨hq1, hn'⟩)) (AL + 1) n m sc (by omega) hp⟩
      refine pk_eq rd 0 (fun _ => ?_) (fun hr => ?_)
      · refine al_pick hL 4 rfl (by decide) 3 rfl (by decide) (by decide) fun i hi => nm_r (pk_sub (show i ≤ AL by omega)) (key (AL - i) (by omega) (by omega))
      · refine al_pick hL (56 + 96 * rd) rfl (by omega) 2 rfl (by decide) (by decide) fun i hi => nm_r (nI_add n i) (key (n + i) (by have := (hne hr).2; omega) (by omega))
    refine pk_le rd 0 (fun z => ?_) (fun z => ?_)
    · rw [h0 (by omega)]
      exact go
    · exact aq_reopen (hne (by omega)).1 hph go
end
theorem al_clamp {post : Int32 → Prop} {k lo hi : Nat} (h1 : lo ≤ k) (h2 : k ≤ hi) (hh : hi < 2 ^ 31) (h : post (nI k)) : wpX_clamp post () (nI k) (nI lo) (nI hi) := br_t (nI_le h1 (by omega)) (br_t (nI_le h2 hh) h)
theorem i_vc (xs : Nat → Int32) (L : Nat) (hL : L ≤ 260) : wpL_law (fun r => r = 1) L xs := by
  refine al_pick hL 0 rfl (by decide) 4 rfl (by decide) (by decide) fun a ha => nm_r (nI_add 3 a) (al_pick hL 1 rfl (by decide) 3 rfl (by decide) (by decide) fun b hb => nm_r (nI_add 2 b) (al_pick hL 2 rfl (by decide) 4 rfl (by decide) (by decide) fun c hc => nm_r (nI_add 3 c) (al_pick hL 3 rfl (by decide) 7 rfl (by decide) (by decide) fun d hd => ⟨5, 4872, by decide, by decide, by decide, by decide, by decide, by decide, by decide, by decide, by decide, by decide, by decide, by decide, ?_⟩)))
  rw [show (2 : Int32) + nI d = nI (2 + d) from nI_add 2 d]
  refine al_clamp (lo := 3) (hi := 6) (by omega) (by omega) (by decide) (al_clamp (lo := 2) (hi := 4) (by omega) (by omega) (by decide) (al_clamp (lo := 3) (hi := 6) (by omega) (by omega) (by decide) (al_clamp (lo := 2) (hi := 8) (by omega) (by omega) (by decide) (ax_put (n := 0) ?_))))
  refine al_pick hL 5 rfl (by decide) 4 rfl (by decide) (by decide) fun md _ => al_pick hL 7 rfl (by decide) 5 rfl (by decide) (by decide) fun g hg => ⟨4, ?_⟩
  exact al_99 (post := fun r => r = 1) (V := 3 + a) (D := 2 + b) (AL := 3 + c) (g := g) hL (by omega) (by omega) rfl 3 0 rfl 0 (fun _ => 0) (fun _ => 0) (fun _ => 0) (fun _ => 0) 0 0 (fun _ => 0) (fun _ => 0) _ ⟨⟨by omega, by omega, by omega, by omega, by omega, by omega⟩, lt_0, lt_0, fun a _ _ r _ => ⟨rfl, al_z r⟩⟩ (by decide) (fun _ => rfl) (fun z => absurd rfl z)
end
