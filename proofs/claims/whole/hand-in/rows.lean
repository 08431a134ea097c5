section
/-! rows taken from the kit to paste -/
theorem pk_us {f : Nat → Int32} {k : Nat} {x : Int32} : upd f k x k = x := if_pos rfl
theorem pk_un {f : Nat → Int32} {k j : Nat} {x : Int32} (h : j ≠ k) : upd f k x j = f j := if_neg h
theorem pk_sub {a b : Nat} (h : b ≤ a) : nI a - nI b = nI (a - b) := by
  obtain ⟨c, rfl⟩ : ∃ c, a = c + b := ⟨a - b, by omega⟩
  rw [← nI_add, Int32.add_sub_cancel, Nat.add_sub_cancel]
theorem pk_m1 (n : Nat) : nI (n + 1) + (-1) = nI n := by
  rw [← nI_1, Int32.add_assoc, show (1 : Int32) + (-1) = 0 from rfl, Int32.add_zero]
theorem pk_mul (a b : Nat) : nI a * nI b = nI (a * b) := (Int32.ofNat_mul a b).symm
theorem pk_ix (x : Int32) {n : Nat} (hn : n < 2 ^ 31) : x < 0 ∨ nI n ≤ x ∨ ∃ j : Nat, j < n ∧ x = nI j := by
  by_cases h : x < 0
  · exact Or.inl h
  · obtain ⟨j, hj, rfl⟩ := nI_of h
    by_cases h2 : j < n
    · exact Or.inr (Or.inr ⟨j, h2, rfl⟩)
    · exact Or.inr (Or.inl (nI_le (by omega) hj))
theorem pk_le {x y : Int32} {A B : Prop} (a b : Nat) (f : a ≤ b → A) (g : b < a → B) (hx : x = nI a := by rfl) (hy : y = nI b := by rfl) (ha : a < 2 ^ 31 := by omega) (hb : b < 2 ^ 31 := by omega) : (x ≤ y → A) ∧ (¬ x ≤ y → B) := by
  subst hx hy
  rw [nI_leI ha hb]
  exact ⟨f, fun z => g (by omega)⟩
theorem pk_lt {x y : Int32} {A B : Prop} (a b : Nat) (f : a < b → A) (g : b ≤ a → B) (hx : x = nI a := by rfl) (hy : y = nI b := by rfl) (ha : a < 2 ^ 31 := by omega) (hb : b < 2 ^ 31 := by omega) : (x < y → A) ∧ (¬ x < y → B) := by
  subst hx hy
  rw [nI_ltI ha hb]
  exact ⟨f, fun z => g (by omega)⟩
theorem pk_eq {x y : Int32} {A B : Prop} (a b : Nat) (f : a = b → A) (g : a ≠ b → B) (hx : x = nI a := by rfl) (hy : y = nI b := by rfl) (ha : a < 2 ^ 31 := by omega) (hb : b < 2 ^ 31 := by omega) : (x = y → A) ∧ (¬ x = y → B) := by
  subst hx hy
  rw [nI_eq ha hb]
  exact ⟨f, g⟩
theorem pk_in {x : Int32} (n N : Nat) (h : n < N) (hx : x = nI n := by rfl) (hN : N < 2 ^ 31 := by omega) : vp_in x N := by
  subst hx
  exact vp_in_nI h hN
theorem pk_cl {x : Int32} (n : Nat) (hx : x = nI n := by rfl) (h : n < 2 ^ 31 := by omega) : x.toNatClampNeg = n := by
  subst hx
  exact nI_clamp h
theorem pk_tn {n : Nat} (h : n < 2 ^ 32) : (nI n).toBitVec.toNat = n := Nat.mod_eq_of_lt h
theorem pk_and (x : Int32) {m : Int32} (k : Nat) (hm : m.toBitVec.toNat = 2 ^ k - 1) : x &&& m = nI (x.toBitVec.toNat % 2 ^ k) := by
  apply Int32.toBitVec_inj.mp
  apply BitVec.eq_of_toNat_eq
  rw [Int32.toBitVec_and, BitVec.toNat_and, hm, Nat.and_two_pow_sub_one_eq_mod]
  show _ = (BitVec.ofNat 32 _).toNat
  rw [BitVec.toNat_ofNat]
  exact (Nat.mod_eq_of_lt (Nat.lt_of_le_of_lt (Nat.mod_le _ _) x.toBitVec.isLt)).symm
theorem pk_andN {n : Nat} (h : n < 2 ^ 32) {m : Int32} (k : Nat) (hm : m.toBitVec.toNat = 2 ^ k - 1) : nI n &&& m = nI (n % 2 ^ k) := by
  rw [pk_and _ k hm, pk_tn h]
theorem pk_shl (a s : Int32) (k : Nat) (hs : (s.toBitVec.smod 32).toNat = k) : (a <<< s).toBitVec.toNat = a.toBitVec.toNat * 2 ^ k % 2 ^ 32 := by
  show (a.toBitVec <<< (s.toBitVec.smod 32).toNat).toNat = _
  rw [hs, BitVec.toNat_shiftLeft, Nat.shiftLeft_eq]
theorem pk_shlN {n : Nat} (s : Int32) (k : Nat) (hs : (s.toBitVec.smod 32).toNat = k) (h : n * 2 ^ k < 2 ^ 32) : nI n <<< s = nI (n * 2 ^ k) := by
  apply Int32.toBitVec_inj.mp
  apply BitVec.eq_of_toNat_eq
  have hn : n < 2 ^ 32 := Nat.lt_of_le_of_lt (Nat.le_mul_of_pos_right n (Nat.two_pow_pos k)) h
  rw [pk_shl _ _ k hs, pk_tn hn, pk_tn h, Nat.mod_eq_of_lt h]
theorem pk_shr (a s : Int32) (k : Nat) (hs : (s.toBitVec.smod 32).toNat = k) : (a >>> s).toInt = a.toInt >>> k := by
  show (a.toBitVec.sshiftRight (s.toBitVec.smod 32).toNat).toInt = _
  rw [hs, BitVec.toInt_sshiftRight]
  rfl
theorem pk_shrN {n : Nat} (h : n < 2 ^ 31) (s : Int32) (k : Nat) (hs : (s.toBitVec.smod 32).toNat = k) : nI n >>> s = nI (n / 2 ^ k) := by
  apply Int32.toInt_inj.mp
  have h2 : n / 2 ^ k ≤ n := Nat.div_le_self _ _
  rw [pk_shr _ _ k hs, nI_toInt h, nI_toInt (by omega), Int.shiftRight_eq_div_pow]
  rfl
theorem pk_loop {σ : Type} (W : Nat → Nat → σ → Prop) (I : Nat → σ → Prop) (e i0 : Nat) (s : σ) (hi : i0 ≤ e) (h0 : I i0 s) (hx : ∀ n s, I e s → W (n + 1) e s)
    (hs : ∀ n i s, i < e → I i s → (∀ s', I (i + 1) s' → W n (i + 1) s') → W (n + 1) i s) : ∃ n, W n i0 s :=
  ⟨e + 1, loop_i W I e hx hs (e + 1) i0 s hi (by omega) h0⟩
theorem s_l : ∀ n, n < 32 → ((nI n &&& 31).toBitVec.smod 32).toNat = n := by decide +kernel
theorem nx_and (a b : Nat) : nI a &&& nI b = nI (a &&& b) := by
  apply Int32.toBitVec_inj.1
  show BitVec.ofNat 32 a &&& BitVec.ofNat 32 b = BitVec.ofNat 32 (a &&& b)
  apply BitVec.eq_of_getLsbD_eq
  intro i hi
  simp [hi]
end
section
/-! masks below 64 as naturals -/
theorem aj_or (a b : Nat) : nI a ||| nI b = nI (a ||| b) := by
  apply Int32.toBitVec_inj.1
  show BitVec.ofNat 32 a ||| BitVec.ofNat 32 b = BitVec.ofNat 32 (a ||| b)
  apply BitVec.eq_of_getLsbD_eq
  intro i hi
  simp [hi]
theorem aj_has : ∀ m, m < 64 → ∀ v, v < 6 → ((nI m &&& ((1 : Int32) <<< (nI v &&& 31))) = 0 ↔ m.testBit v = false) := by decide +kernel
theorem aj_bit : ∀ m, m < 64 → ∀ v, v < 6 → (nI m >>> (nI v &&& 31)) &&& 1 = nI (m.testBit v).toNat := by decide +kernel
def aj_rm (k v : Nat) : Nat := if k.testBit v then k - 2 ^ v else k
theorem aj_rmI : ∀ k, k < 64 → ∀ v, v < 6 → nI k &&& (((1 : Int32) <<< (nI v &&& 31)) ^^^ (-1)) = nI (aj_rm k v) := by decide +kernel
theorem aj_rm_lt : ∀ k, k < 64 → ∀ v, v < 6 → aj_rm k v < 64 := by decide +kernel
theorem aj_rm_bit : ∀ k, k < 64 → ∀ v, v < 6 → ∀ w, w < 6 → (aj_rm k v).testBit w = (k.testBit w && !decide (w = v)) := by decide +kernel
def aj_sub (a b : Nat) : Prop := ∀ w, w < 6 → a.testBit w = true → b.testBit w = true
theorem aj_hi {b i : Nat} (hb : b < 64) (hi : 6 ≤ i) : b.testBit i = false :=
  Nat.testBit_lt_two_pow (Nat.lt_of_lt_of_le hb (Nat.pow_le_pow_right (by decide) hi : 2 ^ 6 ≤ 2 ^ i))
theorem aj_and_sub {a b : Nat} (hb : b < 64) : a &&& b = b ↔ aj_sub b a := by
  constructor
  · intro h w _ hw
    have e := congrArg (fun x => Nat.testBit x w) h
    simp only [Nat.testBit_and, hw, Bool.and_true] at e
    exact e
  · intro h
    apply Nat.eq_of_testBit_eq
    intro i
    rw [Nat.testBit_and]
    rcases Nat.lt_or_ge i 6 with hi | hi
    · cases hb' : b.testBit i
      · simp
      · simp [h i hi hb']
    · simp [aj_hi hb hi]
theorem aj_ext {a b : Nat} (ha : a < 64) (hb : b < 64) (h : ∀ w, w < 6 → a.testBit w = b.testBit w) : a = b := by
  apply Nat.eq_of_testBit_eq
  intro i
  rcases Nat.lt_or_ge i 6 with hi | hi
  · exact h i hi
  · rw [aj_hi ha hi, aj_hi hb hi]
def aj_cov (m : Nat → Nat) : Nat → Nat
  | 0 => 0
  | n + 1 => aj_cov m n ||| m n
theorem aj_cov_lt {m : Nat → Nat} {k : Nat} : ∀ n, (∀ a, a < n → m a < 2 ^ k) → aj_cov m n < 2 ^ k
  | 0, _ => Nat.two_pow_pos k
  | n + 1, h => Nat.or_lt_two_pow (aj_cov_lt n fun a ha => h a (by omega)) (h n (by omega))
def aj_nr (m : Nat → Nat) (S v : Nat) : Nat → Nat
  | 0 => 0
  | n + 1 => if (m n).testBit v = true then aj_nr m S v n ||| (m n &&& S) else aj_nr m S v n
theorem aj_nr_lt {m : Nat → Nat} {S v : Nat} (hS : S < 64) : ∀ n, aj_nr m S v n < 64
  | 0 => by show 0 < 64; decide
  | n + 1 => by
    rw [aj_nr]
    split
    · exact Nat.or_lt_two_pow (n := 6) (aj_nr_lt hS n) (Nat.and_lt_two_pow (n := 6) (m n) hS)
    · exact aj_nr_lt hS n
theorem aj_nr_bit {m : Nat → Nat} {S v w : Nat} : ∀ n, (aj_nr m S v n).testBit w = true ↔ ∃ a, a < n ∧ (m a).testBit v = true ∧ (m a).testBit w = true ∧ S.testBit w = true
  | 0 => by
    rw [aj_nr]
    constructor
    · intro h
      rw [Nat.zero_testBit] at h
      exact absurd h (by decide)
    · intro ⟨a, h, _⟩
      exact absurd h (Nat.not_lt_zero a)
  | n + 1 => by
    rw [aj_nr]
    constructor
    · intro h
      split at h
      · rename_i hv
        rw [Nat.testBit_or, Bool.or_eq_true] at h
        rcases h with h | h
        · obtain ⟨a, h1, h2⟩ := (aj_nr_bit n).mp h
          exact ⟨a, by omega, h2⟩
        · rw [Nat.testBit_and, Bool.and_eq_true] at h
          exact ⟨n, by omega, hv, h.1, h.2⟩
      · obtain ⟨a, h1, h2⟩ := (aj_nr_bit n).mp h
        exact ⟨a, by omega, h2⟩
    · intro ⟨a, h1, h2, h3, h4⟩
      by_cases e : a = n
      · subst e
        rw [if_pos h2, Nat.testBit_or, Nat.testBit_and, h3, h4]
        simp
      · have := (aj_nr_bit (m := m) (S := S) (v := v) (w := w) n).mpr ⟨a, by omega, h2, h3, h4⟩
        split
        · rw [Nat.testBit_or, this]
          simp
        · exact this
def aj_cl (m : Nat → Nat) (n S v : Nat) : Prop := ∃ a, a < n ∧ m a &&& aj_nr m S v n = aj_nr m S v n
theorem aj_cl_mono {m : Nat → Nat} {n S K v : Nat} (hS : S < 64) (hK : K < 64) (h : aj_sub S K) (hc : aj_cl m n K v) : aj_cl m n S v := by
  obtain ⟨a, ha, e⟩ := hc
  refine ⟨a, ha, (aj_and_sub (aj_nr_lt hS n)).mpr fun w hw hb => ?_⟩
  obtain ⟨b, h1, h2, h3, h4⟩ := (aj_nr_bit n).mp hb
  exact (aj_and_sub (aj_nr_lt hK n)).mp e w hw ((aj_nr_bit n).mpr ⟨b, h1, h2, h3, h w hw h4⟩)
def aj_stk (m : Nat → Nat) (n S : Nat) : Prop := ∀ v, v < 6 → S.testBit v = true → ¬ aj_cl m n S v
def aj_top (m : Nat → Nat) (n K : Nat) : Prop := K < 64 ∧ aj_sub K (aj_cov m n) ∧ ∀ S, S < 64 → aj_sub S (aj_cov m n) → aj_stk m n S → aj_sub S K
def aj_res (m : Nat → Nat) (n K : Nat) : Prop := aj_top m n K ∧ aj_stk m n K
theorem aj_top0 {m : Nat → Nat} {n : Nat} (h : aj_cov m n < 64) : aj_top m n (aj_cov m n) := ⟨h, fun _ _ h => h, fun _ _ h _ => h⟩
theorem aj_top_rm {m : Nat → Nat} {n K v : Nat} (h : aj_top m n K) (hv : v < 6) (hc : aj_cl m n K v) : aj_top m n (aj_rm K v) := by
  obtain ⟨h1, h2, h3⟩ := h
  refine ⟨aj_rm_lt K h1 v hv, fun w hw hb => ?_, fun S hS hSC hst w hw hb => ?_⟩
  · rw [aj_rm_bit K h1 v hv w hw, Bool.and_eq_true] at hb
    exact h2 w hw hb.1
  · have hs := h3 S hS hSC hst
    rw [aj_rm_bit K h1 v hv w hw, Bool.and_eq_true]
    refine ⟨hs w hw hb, ?_⟩
    by_cases e : w = v
    · subst e
      exact absurd (aj_cl_mono hS h1 hs hc) (hst w hw hb)
    · simp [e]
theorem aj_res_un {m : Nat → Nat} {n K U : Nat} (h : aj_res m n K) (hU : U < 64) (hb : ∀ w, w < 6 → (U.testBit w = true ↔ ∃ S, S < 64 ∧ (aj_sub S (aj_cov m n) ∧ aj_stk m n S) ∧ S.testBit w = true)) : U = K := by
  apply aj_ext hU h.1.1
  intro w hw
  have e : U.testBit w = true ↔ K.testBit w = true := by
    rw [hb w hw]
    constructor
    · intro ⟨S, h1, h2, h3⟩
      exact h.1.2.2 S h1 h2.1 h2.2 w hw h3
    · intro hk
      exact ⟨K, h.1.1, ⟨h.1.2.1, h.2⟩, hk⟩
  cases h1 : U.testBit w <;> cases h2 : K.testBit w <;> simp [h1, h2] at e ⊢
/-! the number of bits; the peeling's two loops -/
def aj_sz (m : Nat) : Nat → Nat
  | 0 => 0
  | v + 1 => aj_sz m v + (m.testBit v).toNat
theorem aj_sz_le (m : Nat) : ∀ v, aj_sz m v ≤ v
  | 0 => Nat.le_refl 0
  | v + 1 => by
    have := aj_sz_le m v
    rw [aj_sz]
    cases m.testBit v <;> simp <;> omega
theorem aj_sz_mono (m : Nat) {a : Nat} : ∀ b, a ≤ b → aj_sz m a ≤ aj_sz m b
  | 0, h => by rw [Nat.le_zero.mp h]; exact Nat.le_refl _
  | b + 1, h => by
    by_cases e : a = b + 1
    · subst e
      exact Nat.le_refl _
    · have := aj_sz_mono m (a := a) b (by omega)
      rw [aj_sz]
      omega
theorem aj_sz_rm : ∀ k, k < 64 → ∀ v, v < 6 → k.testBit v = true → aj_sz (aj_rm k v) 6 < aj_sz k 6 := by decide +kernel
theorem aj_sz_0 : ∀ k, k < 64 → aj_sz k 6 = 0 → k = 0 := by decide +kernel
theorem aj_sz_1 : ∀ k, k < 64 → 0 < k → 0 < aj_sz k 6 := by decide +kernel
def aj_inn (m : Nat → Nat) (n K0 v K : Nat) : Prop := aj_top m n K ∧ ((K = K0 ∧ ∀ w, w < v → K0.testBit w = true → ¬ aj_cl m n K0 w) ∨ (aj_sz K 6 < aj_sz K0 6 ∧ ¬ aj_stk m n K0))
def aj_out (m : Nat → Nat) (n i K : Nat) : Prop := aj_top m n K ∧ (aj_stk m n K ∨ aj_sz K 6 + i ≤ 6)
theorem aj_inn0 {m : Nat → Nat} {n K : Nat} (h : aj_top m n K) : aj_inn m n K 0 K := ⟨h, Or.inl ⟨rfl, fun w hw => absurd hw (Nat.not_lt_zero w)⟩⟩
theorem aj_inn_no {m : Nat → Nat} {n K0 v K : Nat} (h : aj_inn m n K0 v K) (hn : K.testBit v = true → ¬ aj_cl m n K v) : aj_inn m n K0 (v + 1) K := by
  refine ⟨h.1, ?_⟩
  rcases h.2 with ⟨e, h2⟩ | h2
  · subst e
    exact Or.inl ⟨rfl, lt_s h2 hn⟩
  · exact Or.inr h2
theorem aj_inn_yes {m : Nat → Nat} {n K0 v K : Nat} (h : aj_inn m n K0 v K) (hv : v < 6) (hb : K.testBit v = true) (hc : aj_cl m n K v) : aj_inn m n K0 (v + 1) (aj_rm K v) := by
  refine ⟨aj_top_rm h.1 hv hc, Or.inr ?_⟩
  have hs := aj_sz_rm K h.1.1 v hv hb
  rcases h.2 with ⟨e, h2⟩ | h2
  · subst e
    exact ⟨hs, fun z => z v hv hb hc⟩
  · exact ⟨Nat.lt_trans hs h2.1, h2.2⟩
theorem aj_out_s {m : Nat → Nat} {n i K0 K : Nat} (ho : aj_out m n i K0) (h : aj_inn m n K0 6 K) : aj_out m n (i + 1) K := by
  refine ⟨h.1, ?_⟩
  rcases h.2 with ⟨e, h2⟩ | ⟨h1, h2⟩
  · subst e
    exact Or.inl h2
  · rcases ho.2 with h3 | h3
    · exact absurd h3 h2
    · exact Or.inr (by omega)
theorem aj_out0 {m : Nat → Nat} {n : Nat} (h : aj_cov m n < 64) : aj_out m n 0 (aj_cov m n) := ⟨aj_top0 h, Or.inr (aj_sz_le _ 6)⟩
theorem aj_out6 {m : Nat → Nat} {n K : Nat} (h : aj_out m n 6 K) : aj_res m n K := by
  refine ⟨h.1, ?_⟩
  rcases h.2 with h2 | h2
  · exact h2
  · have := aj_sz_0 K h.1.1 (by omega)
    subst this
    intro v hv hb
    rw [Nat.zero_testBit] at hb
    exact absurd hb (by decide)
/-! values, keys, and the turn between the two orders of a row's digits -/
def aj_val (c v : Nat) : Nat := c / 2 ^ (10 - 2 * v) % 4
theorem aj_val_lt (c v : Nat) : aj_val c v < 4 := Nat.mod_lt _ (by decide)
def aj_kx (m c : Nat) : Nat → Nat
  | 0 => 0
  | v + 1 => if m.testBit v = true then aj_kx m c v + aj_val c v * 4 ^ aj_sz m v else aj_kx m c v
def aj_ky (m c : Nat) : Nat → Nat
  | 0 => 0
  | v + 1 => if m.testBit v = true then aj_ky m c v * 4 + aj_val c v else aj_ky m c v
def aj_rv : Nat → Nat → Nat
  | 0, _ => 0
  | k + 1, x => aj_rv k (x % 4 ^ k) * 4 + x / 4 ^ k
def aj_pm (k x : Nat) : Nat := if x < 4 ^ k then aj_rv k x else x
theorem aj_sz_t {m v : Nat} (h : m.testBit v = true) : aj_sz m (v + 1) = aj_sz m v + 1 := by rw [aj_sz, h]; rfl
theorem aj_sz_f {m v : Nat} (h : ¬ m.testBit v = true) : aj_sz m (v + 1) = aj_sz m v := by
  rw [aj_sz, Bool.eq_false_iff.mpr h]; rfl
theorem aj_kx_lt (m c : Nat) : ∀ v, aj_kx m c v < 4 ^ aj_sz m v
  | 0 => by show 0 < 4 ^ 0; decide
  | v + 1 => by
    have h := aj_kx_lt m c v
    have hd := aj_val_lt c v
    rw [aj_kx]
    by_cases hb : m.testBit v = true
    · rw [if_pos hb, aj_sz_t hb, Nat.pow_succ]
      have : aj_val c v * 4 ^ aj_sz m v ≤ 3 * 4 ^ aj_sz m v := Nat.mul_le_mul_right _ (by omega)
      omega
    · rw [if_neg hb, aj_sz_f hb]
      exact h
theorem aj_ky_rv (m c : Nat) : ∀ v, aj_ky m c v = aj_rv (aj_sz m v) (aj_kx m c v)
  | 0 => rfl
  | v + 1 => by
    have h := aj_ky_rv m c v
    have hl := aj_kx_lt m c v
    rw [aj_kx, aj_ky]
    by_cases hb : m.testBit v = true
    · have hp : 0 < 4 ^ aj_sz m v := Nat.pow_pos (by decide)
      rw [if_pos hb, if_pos hb, aj_sz_t hb, aj_rv, Nat.add_mul_mod_self_right, Nat.mod_eq_of_lt hl, Nat.add_mul_div_right _ _ hp, Nat.div_eq_of_lt hl, h, Nat.zero_add]
    · rw [if_neg hb, if_neg hb, aj_sz_f hb]
      exact h
theorem aj_ky_pm (m c : Nat) : aj_ky m c 6 = aj_pm (aj_sz m 6) (aj_kx m c 6) := by
  rw [aj_pm, if_pos (aj_kx_lt m c 6)]
  exact aj_ky_rv m c 6
theorem aj_pm_in : ∀ k, k < 4 → ∀ x, x < 64 → aj_pm k x < 64 ∧ aj_pm k (aj_pm k x) = x := by decide +kernel
theorem aj_p4 {k : Nat} (h : k < 4) : 4 ^ k ≤ 64 := Nat.pow_le_pow_right (n := 4) (by decide) (show k ≤ 3 by omega)
theorem aj_kx_64 {m c : Nat} (h : aj_sz m 6 < 4) : aj_kx m c 6 < 64 := Nat.lt_of_lt_of_le (aj_kx_lt m c 6) (aj_p4 h)
theorem aj_ky_64 {m c : Nat} (h : aj_sz m 6 < 4) : aj_ky m c 6 < 64 := by
  rw [aj_ky_pm]
  exact (aj_pm_in _ h _ (aj_kx_64 h)).1
theorem aj_pm_inj {k x y : Nat} (hk : k < 4) (hx : x < 64) (hy : y < 64) (h : aj_pm k x = aj_pm k y) : x = y := by
  rw [← (aj_pm_in k hk x hx).2, h, (aj_pm_in k hk y hy).2]
/-! counting -/
def aj_cn (f : Nat → Int32) : Nat → Nat
  | 0 => 0
  | n + 1 => aj_cn f n + (if f n = 0 then 0 else 1)
theorem aj_cn_le (f : Nat → Int32) : ∀ n, aj_cn f n ≤ n
  | 0 => Nat.le_refl 0
  | n + 1 => by
    have := aj_cn_le f n
    rw [aj_cn]
    split <;> omega
theorem aj_cn_z {f : Nat → Int32} {n : Nat} (h : f n = 0) : aj_cn f (n + 1) = aj_cn f n := by rw [aj_cn, if_pos h]; rfl
theorem aj_cn_p {f : Nat → Int32} {n : Nat} (h : ¬ f n = 0) : aj_cn f (n + 1) = aj_cn f n + 1 := by rw [aj_cn, if_neg h]
theorem aj_cn_congr {f g : Nat → Int32} : ∀ n, (∀ i, i < n → (f i = 0 ↔ g i = 0)) → aj_cn f n = aj_cn g n
  | 0, _ => rfl
  | n + 1, h => by
    have e := aj_cn_congr n fun i hi => h i (by omega)
    have hn := h n (by omega)
    by_cases z : f n = 0
    · rw [aj_cn_z z, aj_cn_z (hn.mp z), e]
    · rw [aj_cn_p z, aj_cn_p (fun y => z (hn.mpr y)), e]
theorem aj_cn_cp (f : Nat → Int32) : ∀ n, aj_cn f n = (List.range n).countP (fun i => !decide (f i = 0))
  | 0 => rfl
  | n + 1 => by
    rw [List.range_succ, List.countP_append, aj_cn, aj_cn_cp f n]
    by_cases h : f n = 0 <;> simp [h]
theorem aj_perm : ∀ k, k < 4 → List.Perm ((List.range 64).map (aj_pm k)) (List.range 64) := by decide +kernel
theorem aj_cn_pm (f : Nat → Int32) {k : Nat} (hk : k < 4) : aj_cn (fun i => f (aj_pm k i)) 64 = aj_cn f 64 := by
  have e := (aj_perm k hk).countP_eq (fun i => !decide (f i = 0))
  rw [List.countP_map] at e
  rw [aj_cn_cp, aj_cn_cp f]
  exact e
end
section
/-! answers, stored rows in the two orders, what READY holds -/
def aj_unc (m : Nat → Nat) (n c : Nat) : Prop := ∀ v, v < 6 → (aj_cov m n).testBit v = false → aj_val c v = 0
def aj_ans (m : Nat → Nat) (n : Nat) (sx : Nat → Int32) (c : Nat) : Prop := aj_unc m n c ∧ ∀ a, a < n → ¬ sx (a * 64 + aj_kx (m a) c 6) = 0
def aj_anY (m : Nat → Nat) (n : Nat) (sy : Nat → Int32) (c : Nat) : Prop := aj_unc m n c ∧ ∀ a, a < n → ¬ sy (a * 64 + aj_ky (m a) c 6) = 0
def aj_scp (m : Nat → Nat) (V n : Nat) (sc : Nat → Int32) : Prop := ∀ a, a < n → sc a = nI (m a) ∧ 0 < m a ∧ m a < 2 ^ V ∧ aj_sz (m a) 6 < 4
def aj_sto (m : Nat → Nat) (n : Nat) (sx sy : Nat → Int32) : Prop := (∀ a, a < n → ∀ x, x < 64 → sx (a * 64 + x) = sy (a * 64 + aj_pm (aj_sz (m a) 6) x)) ∧ ∀ a, n ≤ a → ∀ x, x < 64 → sx (a * 64 + x) = 0 ∧ sy (a * 64 + x) = 0
def aj_rdA (m : Nat → Nat) (n : Nat) (sx an : Nat → Int32) (k : Nat) : Prop := ∀ c, c < k → (an c = 0 ↔ ¬ aj_ans m n sx c)
def aj_rdL (m : Nat → Nat) (n : Nat) (sx lv : Nat → Int32) (k : Nat) : Prop := ∀ a, a < n → ∀ x, x < 64 → (lv (a * 64 + x) = 0 ↔ ¬ ∃ c, c < k ∧ aj_ans m n sx c ∧ aj_kx (m a) c 6 = x)
def aj_pos (V : Nat) (ps : Nat → Int32) : Prop := ∀ i, i < 2 → ps i = -1 ∨ ∃ p, p ≤ 4096 ∧ p % 2 ^ (12 - 2 * V) = 0 ∧ ps i = nI p
theorem aj_p2 {V : Nat} (h : V ≤ 6) : 2 ^ V ≤ 64 := Nat.pow_le_pow_right (n := 2) (by decide) h
theorem aj_ansXY {m : Nat → Nat} {V n : Nat} {sc sx sy : Nat → Int32} (hs : aj_scp m V n sc) (h : aj_sto m n sx sy) (c : Nat) : aj_ans m n sx c ↔ aj_anY m n sy c := by
  have e : ∀ a, a < n → sx (a * 64 + aj_kx (m a) c 6) = sy (a * 64 + aj_ky (m a) c 6) := fun a ha => by
    rw [aj_ky_pm]
    exact h.1 a ha _ (aj_kx_64 (hs a ha).2.2.2)
  constructor
  · exact fun ⟨h1, h2⟩ => ⟨h1, fun a ha => by rw [← e a ha]; exact h2 a ha⟩
  · exact fun ⟨h1, h2⟩ => ⟨h1, fun a ha => by rw [e a ha]; exact h2 a ha⟩
theorem aj_unc_mod {m : Nat → Nat} {V n c : Nat} (h3 : 3 ≤ V) (h6 : V ≤ 6) (hm : ∀ a, a < n → m a < 2 ^ V) (h : aj_unc m n c) : c % 2 ^ (12 - 2 * V) = 0 := by
  have hz : ∀ v, V ≤ v → v < 6 → aj_val c v = 0 := fun v h1 h2 =>
    h v h2 (Nat.testBit_lt_two_pow (Nat.lt_of_lt_of_le (aj_cov_lt n hm) (Nat.pow_le_pow_right (by decide) h1)))
  have e : V = 3 ∨ V = 4 ∨ V = 5 ∨ V = 6 := by omega
  rcases e with e | e | e | e
  · subst e
    have a1 : c / 16 % 4 = 0 := hz 3 (by omega) (by omega)
    have a2 : c / 4 % 4 = 0 := hz 4 (by omega) (by omega)
    have a3 : c / 1 % 4 = 0 := hz 5 (by omega) (by omega)
    show c % 64 = 0
    omega
  · subst e
    have a2 : c / 4 % 4 = 0 := hz 4 (by omega) (by omega)
    have a3 : c / 1 % 4 = 0 := hz 5 (by omega) (by omega)
    show c % 16 = 0
    omega
  · subst e
    have a3 : c / 1 % 4 = 0 := hz 5 (by omega) (by omega)
    show c % 4 = 0
    omega
  · subst e
    show c % 1 = 0
    omega
/-! the least answer from F on -/
def aj_fst (an : Nat → Int32) (F q : Nat) : Prop := F ≤ q ∧ q ≤ 4096 ∧ (∀ c, F ≤ c → c < q → an c = 0) ∧ (q < 4096 → ¬ an q = 0)
def aj_out1 (q : Nat) : Int32 := if q < 4096 then 1 else -8
theorem aj_out1_t {q : Nat} (h : q < 4096) : aj_out1 q = 1 := if_pos h
theorem aj_out1_f : aj_out1 4096 = -8 := rfl
/-! a row put in or taken out on both sides -/
theorem aj_sto_upd {m : Nat → Nat} {V n a x : Nat} {sc sx sy : Nat → Int32} (z : Int32) (hs : aj_scp m V n sc) (h : aj_sto m n sx sy) (ha : a < n) (hx : x < 64) : aj_sto m n (upd sx (a * 64 + x) z) (upd sy (a * 64 + aj_pm (aj_sz (m a) 6) x) z) := by
  have hk := (hs a ha).2.2.2
  have hp := (aj_pm_in _ hk x hx).1
  refine ⟨fun b hb y hy => ?_, fun b hb y hy => ?_⟩
  · have hq := (aj_pm_in _ (hs b hb).2.2.2 y hy).1
    by_cases e : b = a
    · subst e
      by_cases e2 : y = x
      · subst e2
        rw [pk_us, pk_us]
      · rw [pk_un (by omega), pk_un, h.1 b hb y hy]
        intro e3
        exact e2 (aj_pm_inj hk hy hx (by omega))
    · rw [pk_un (by omega), pk_un (by omega), h.1 b hb y hy]
  · rw [pk_un (by omega), pk_un (by omega)]
    exact h.2 b hb y hy
theorem aj_sto_cn {m : Nat → Nat} {V n a : Nat} {sc sx sy : Nat → Int32} (hs : aj_scp m V n sc) (h : aj_sto m n sx sy) (ha : a < n) : aj_cn (fun i => sx (a * 64 + i)) 64 = aj_cn (fun i => sy (a * 64 + i)) 64 := by
  rw [← aj_cn_pm (fun i => sy (a * 64 + i)) (hs a ha).2.2.2]
  exact aj_cn_congr 64 fun i hi => by
    rw [h.1 a ha i hi]
def aj_mk (m : Nat → Nat) (n : Nat) (s : Nat) : Nat → Nat := fun a => if a = n then s else m a
theorem aj_mk_n {m : Nat → Nat} {n s : Nat} : aj_mk m n s n = s := if_pos rfl
theorem aj_mk_lt {m : Nat → Nat} {n s a : Nat} (h : a < n) : aj_mk m n s a = m a := if_neg (by omega)
theorem aj_scp_add {m : Nat → Nat} {V n s : Nat} {sc : Nat → Int32} (hs : aj_scp m V n sc) (h0 : 0 < s) (h1 : s < 2 ^ V) (h2 : aj_sz s 6 < 4) : aj_scp (aj_mk m n s) V (n + 1) (upd sc n (nI s)) := by
  intro a ha
  by_cases e : a = n
  · subst e
    rw [aj_mk_n, pk_us]
    exact ⟨rfl, h0, h1, h2⟩
  · rw [aj_mk_lt (by omega), pk_un e]
    exact hs a (by omega)
theorem aj_sto_add {m : Nat → Nat} {n s : Nat} {sx sy : Nat → Int32} (h : aj_sto m n sx sy) (h2 : aj_sz s 6 < 4) : aj_sto (aj_mk m n s) (n + 1) sx sy := by
  refine ⟨fun a ha x hx => ?_, fun a ha => h.2 a (by omega)⟩
  by_cases e : a = n
  · subst e
    rw [aj_mk_n, (h.2 a (Nat.le_refl a) x hx).1, (h.2 a (Nat.le_refl a) _ (aj_pm_in _ h2 x hx).1).2]
  · rw [aj_mk_lt (by omega)]
    exact h.1 a (by omega) x hx
/-! rows as they are given -/
theorem aj_or2 : ∀ x, x < 4 → ∀ y, y < 4 → nI x ||| (nI y <<< ((2 : Int32) &&& 31)) = nI (x + y * 4) := by decide +kernel
theorem aj_or3 : ∀ x, x < 16 → ∀ y, y < 4 → nI x ||| (nI y <<< ((4 : Int32) &&& 31)) = nI (x + y * 16) := by decide +kernel
theorem aj_pm1 : ∀ x, x < 4 → aj_pm 1 x = x := by decide +kernel
theorem aj_pm2 : ∀ x, x < 4 → ∀ y, y < 4 → aj_pm 2 (x + y * 4) = x * 4 + y := by decide +kernel
theorem aj_pm3 : ∀ x, x < 4 → ∀ y, y < 4 → ∀ z, z < 4 → aj_pm 3 (x + y * 4 + z * 16) = x * 16 + y * 4 + z := by decide +kernel
theorem aj_orK : ∀ k, k < 3 → ∀ x, x < 4 ^ k → ∀ y, y < 4 → nI x ||| (nI y <<< (nI (2 * k) &&& 31)) = nI (x + y * 4 ^ k) := by decide +kernel
/-! a value out of an assignment -/
theorem aj_shc : ∀ v, v < 6 → (((10 : Int32) - nI v * 2 &&& 31).toBitVec.smod 32).toNat = 10 - 2 * v := by decide +kernel
theorem aj_shd : ∀ v, v < 6 → (((10 : Int32) - 2 * nI v &&& 31).toBitVec.smod 32).toNat = 10 - 2 * v := by decide +kernel
theorem aj_vX {c v : Nat} (hc : c < 4096) (hv : v < 6) : (nI c >>> ((10 : Int32) - nI v * 2 &&& 31)) &&& 3 = nI (aj_val c v) := by
  rw [pk_shrN (by omega) _ _ (aj_shc v hv), pk_andN (Nat.lt_of_le_of_lt (Nat.div_le_self _ _) (by omega)) 2 (by decide)]
  rfl
theorem aj_vY {c v : Nat} (hc : c < 4096) (hv : v < 6) : (nI c >>> ((10 : Int32) - 2 * nI v &&& 31)) &&& 3 = nI (aj_val c v) := by
  rw [pk_shrN (by omega) _ _ (aj_shd v hv), pk_andN (Nat.lt_of_le_of_lt (Nat.div_le_self _ _) (by omega)) 2 (by decide)]
  rfl
end
section
section
variable {fV fD fA fR fp fr : Int32} {sc sx an lv ps : Nat → Int32} {n : Nat} {m : Nat → Nat}
def aj_msk (m : Nat → Nat) (n : Nat) (sc : Nat → Int32) : Prop := ∀ a, a < n → sc a = nI (m a) ∧ m a < 64 ∧ aj_sz (m a) 6 < 4
theorem aj_msk_of {V : Nat} (hV : V ≤ 6) (h : aj_scp m V n sc) : aj_msk m n sc := fun a ha => ⟨(h a ha).1, Nat.lt_of_lt_of_le (h a ha).2.2.1 (aj_p2 hV), (h a ha).2.2.2⟩
theorem aj_at (f : Nat → Int32) {a : Nat} (h : a < 2 ^ 31) : f (nI a).toNatClampNeg = f a := by rw [nI_clamp h]
theorem aj_cov64 (h : aj_msk m n sc) : aj_cov m n < 64 := aj_cov_lt (k := 6) n fun a ha => (h a ha).2.1
theorem aj_ix (a k : Nat) : nI a * 64 + nI k = nI (a * 64 + k) := by
  rw [show nI a * 64 = nI (a * 64) from pk_mul a 64, nI_add]
theorem ax_contains {post : Int32 → Prop} {x : Int32} {k v : Nat} (hx : x = nI k) (hm : k < 64) (hv : v < 6) (h1 : k.testBit v = true → post 1) (h0 : ¬ k.testBit v = true → post 0) : wpX_contains post x (nI v) := by
  subst hx
  exact br_c (fun z => h0 (by rw [(aj_has k hm v hv).mp z]; decide)) (fun z => h1 (by
    cases hb : k.testBit v
    · exact absurd ((aj_has k hm v hv).mpr hb) z
    · rfl))
theorem ax_sizeOf {post : Int32 → Prop} {x : Int32} {k : Nat} (hx : x = nI k) (hm : k < 64) (h : post (nI (aj_sz k 6))) : wpX_sizeOf post x := by
  subst hx
  exact loop_0 (fun n i (_ : Unit) => wX_sizeOf_4 post (nI k) n (nI (aj_sz k i)) (nI i)) (fun _ _ => True) 6 () trivial
    (fun n _ _ => pk_le 6 6 (fun _ => h) (fun z => absurd z (by omega)))
    (fun n i _ hi _ hw => pk_le 6 i (fun z => absurd z (by omega)) (fun _ => ax_contains rfl hm hi
      (fun hb => br_f (by decide) (nm_r (nI_1 _) (nm_r (nI_1 i) (by have := hw () trivial; rw [aj_sz_t hb] at this; exact this))))
      (fun hb => br_t rfl (nm_r (nI_1 i) (by have := hw () trivial; rw [aj_sz_f hb] at this; exact this)))))
theorem ax_valueIn {post : Int32 → Prop} {c v : Nat} (hc : c < 4096) (hv : v < 6) (h : post (nI (aj_val c v))) : wpX_valueIn post (nI c) (nI v) := by
  intro y ey
  subst ey
  rw [aj_vX hc hv]
  exact h
theorem ax_slotA {post : Int32 → Prop} {a c k : Nat} (ha : a < 6) (hsc : sc a = nI k) (hk : k < 64) (h4 : aj_sz k 6 < 4) (hc : c < 4096) (h : post (nI (a * 64 + aj_kx k c 6))) : wpX_slotOfAssignment post (fV, fD, fA, fR, nI n, fp, fr, sc, sx, an, lv, ps) (nI a) (nI c) :=
  loop_0 (fun n' i (_ : Unit) => wX_slotOfAssignment_8 post (nI a) (nI c) fV fD fA fR (nI n) fp fr sc sx an lv ps n' (nI (aj_kx k c i)) (nI (2 * aj_sz k i)) (nI i)) (fun _ _ => True) 6 () trivial
    (fun n _ _ => pk_le 6 6 (fun _ => by rw [aj_ix]; exact h) (fun z => absurd z (by omega)))
    (fun n i _ hi _ hw => pk_le 6 i (fun z => absurd z (by omega)) (fun _ => ⟨pk_in a 6 ha, ax_contains ((aj_at sc (by omega)).trans hsc) hk hi
      (fun hb => br_f (by decide) (ax_valueIn hc hi (nm_r (aj_orK _ (by
          have h5 := aj_sz_mono k (a := i + 1) 6 (by omega)
          rw [aj_sz_t hb] at h5
          omega) _ (aj_kx_lt k c i) _ (aj_val_lt c i)) (nm_r (e' := nI (2 * (aj_sz k i + 1))) (nI_add _ 2) (nm_r (nI_1 i) (by
          have := hw () trivial
          rw [aj_sz_t hb, aj_kx, if_pos hb] at this
          exact this))))))
      (fun hb => br_t rfl (nm_r (nI_1 i) (by
          have := hw () trivial
          rw [aj_sz_f hb, aj_kx, if_neg hb] at this
          exact this)))⟩))
theorem ax_isAns {post : Int32 → Prop} {c : Nat} (hn : n ≤ 6) (hs : aj_msk m n sc) (hc : c < 4096) (h1 : aj_ans m n sx c → post 1) (h0 : ¬ aj_ans m n sx c → post 0) : wpX_isAnswer post (fV, fD, fA, fR, nI n, fp, fr, sc, sx, an, lv, ps) (nI c) (nI (aj_cov m n)) := by
  have second : aj_unc m n c → ∃ n', wX_isAnswer_34 post (nI c) fV fD fA fR (nI n) fp fr sc sx an lv ps n' 0 := fun hu =>
    loop_0 (fun n' i (_ : Unit) => wX_isAnswer_34 post (nI c) fV fD fA fR (nI n) fp fr sc sx an lv ps n' (nI i)) (fun i _ => ∀ a, a < i → ¬ sx (a * 64 + aj_kx (m a) c 6) = 0) n () lt_0
      (fun n' _ hI => pk_le n n (fun _ => h1 ⟨hu, hI⟩) (fun z => absurd z (by omega)))
      (fun n' i _ hi hI hw => pk_le n i (fun z => absurd z (by omega)) (fun _ => ax_slotA (by omega) (hs i hi).1 (hs i hi).2.1 (hs i hi).2.2 hc (by
        have hk := aj_kx_64 (c := c) (hs i hi).2.2
        refine ⟨pk_in (i * 64 + aj_kx (m i) c 6) 384 (by omega), ?_⟩
        rw [nI_clamp (show i * 64 + aj_kx (m i) c 6 < 2 ^ 31 by omega)]
        exact br_c (fun z => h0 fun H => H.2 i hi z) (fun z => nm_r (nI_1 i) (hw () (lt_s hI z))))))
  exact loop_0 (fun n' i (_ : Unit) => wX_isAnswer_2 post (nI c) (nI (aj_cov m n)) fV fD fA fR (nI n) fp fr sc sx an lv ps n' (nI i)) (fun i _ => ∀ v, v < i → (aj_cov m n).testBit v = false → aj_val c v = 0) 6 () lt_0
    (fun n' _ hI => pk_le 6 6 (fun _ => second hI) (fun z => absurd z (by omega)))
    (fun n' i _ hi hI hw => pk_le 6 i (fun z => absurd z (by omega)) (fun _ => ax_contains rfl (aj_cov64 hs) hi
      (fun hb => br_f (by decide) (nm_r (nI_1 i) (hw () (lt_s hI fun z => by rw [hb] at z; exact absurd z (by decide)))))
      (fun hb => br_t rfl (ax_valueIn hc hi (pk_eq (aj_val c i) 0 (fun z => nm_r (nI_1 i) (hw () (lt_s hI fun _ => z))) (fun z => h0 fun H => z (H.1 i hi (Bool.eq_false_iff.mpr hb))) rfl rfl (by have := aj_val_lt c i; omega))))))
theorem ax_count {post : Int32 → Prop} (h : post (nI (aj_cn an 4096))) : ∃ n', wX_count_14 post fV fD fA fR (nI n) fp fr sc sx an lv ps n' 0 0 :=
  loop_0 (fun n' i (_ : Unit) => wX_count_14 post fV fD fA fR (nI n) fp fr sc sx an lv ps n' (nI (aj_cn an i)) (nI i)) (fun _ _ => True) 4096 () trivial
    (fun n' _ _ => pk_le 4096 4096 (fun _ => h) (fun z => absurd z (by omega)))
    (fun n' i _ hi _ hw => pk_le 4096 i (fun z => absurd z (by omega)) (fun _ => ⟨pk_in i 4096 hi, by
      rw [aj_at an (show i < 2 ^ 31 by omega)]
      exact br_c (fun z => nm_r (nI_1 i) (by have := hw () trivial; rw [aj_cn_z z] at this; exact this)) (fun z => nm_r (nI_1 _) (nm_r (nI_1 i) (by have := hw () trivial; rw [aj_cn_p z] at this; exact this)))⟩))
theorem ax_rowsS {post : Int32 → Prop} {a : Nat} (ha : a < 6) (h : post (nI (aj_cn (fun i => sx (a * 64 + i)) 64))) : wpX_rowsMarked__storedRows post (fV, fD, fA, fR, nI n, fp, fr, sc, sx, an, lv, ps) (nI a) :=
  nm_r (pk_mul a 64) (loop_0 (fun n' i (_ : Unit) => wX_rowsMarked__storedRows_10 post (nI (a * 64)) fV fD fA fR (nI n) fp fr sc sx an lv ps n' (nI (aj_cn (fun i => sx (a * 64 + i)) i)) (nI i)) (fun _ _ => True) 64 () trivial
    (fun n' _ _ => pk_le 64 64 (fun _ => h) (fun z => absurd z (by omega)))
    (fun n' i _ hi _ hw => pk_le 64 i (fun z => absurd z (by omega)) (fun _ => by
      rw [nI_add, aj_at sx (show a * 64 + i < 2 ^ 31 by omega)]
      exact ⟨pk_in (a * 64 + i) 384 (by omega), br_c (fun z => nm_r (nI_1 i) (by have := hw () trivial; rw [aj_cn_z (f := fun i => sx (a * 64 + i)) z] at this; exact this)) (fun z => nm_r (nI_1 _) (nm_r (nI_1 i) (by have := hw () trivial; rw [aj_cn_p (f := fun i => sx (a * 64 + i)) z] at this; exact this)))⟩)))
theorem ax_rowsL {post : Int32 → Prop} {a : Nat} (ha : a < 6) (h : post (nI (aj_cn (fun i => lv (a * 64 + i)) 64))) : wpX_rowsMarked__liveRows post (fV, fD, fA, fR, nI n, fp, fr, sc, sx, an, lv, ps) (nI a) :=
  nm_r (pk_mul a 64) (loop_0 (fun n' i (_ : Unit) => wX_rowsMarked__liveRows_10 post (nI (a * 64)) fV fD fA fR (nI n) fp fr sc sx an lv ps n' (nI (aj_cn (fun i => lv (a * 64 + i)) i)) (nI i)) (fun _ _ => True) 64 () trivial
    (fun n' _ _ => pk_le 64 64 (fun _ => h) (fun z => absurd z (by omega)))
    (fun n' i _ hi _ hw => pk_le 64 i (fun z => absurd z (by omega)) (fun _ => by
      rw [nI_add, aj_at lv (show a * 64 + i < 2 ^ 31 by omega)]
      exact ⟨pk_in (a * 64 + i) 384 (by omega), br_c (fun z => nm_r (nI_1 i) (by have := hw () trivial; rw [aj_cn_z (f := fun i => lv (a * 64 + i)) z] at this; exact this)) (fun z => nm_r (nI_1 _) (nm_r (nI_1 i) (by have := hw () trivial; rw [aj_cn_p (f := fun i => lv (a * 64 + i)) z] at this; exact this)))⟩)))
theorem ax_move {post : Int32 → SX → Prop} {i F q : Nat} {x : Int32} (hx : x = nI F) (hi : i < 2) (hq : aj_fst an F q) (h : post (aj_out1 q) (fV, fD, fA, fR, nI n, fp, fr, sc, sx, an, lv, upd ps i (nI q))) : wpX_moveToAnswerFrom post (fV, fD, fA, fR, nI n, fp, fr, sc, sx, an, lv, ps) (nI i) x := by
  subst hx
  obtain ⟨q1, q2, q3, q4⟩ := hq
  refine pk_loop (fun n' j (_ : Unit) => wX_moveToAnswerFrom_2 post (nI i) fV fD fA fR (nI n) fp fr sc sx an lv ps n' (nI j)) (fun j _ => F ≤ j) q F () q1 (Nat.le_refl F) ?_ ?_
  · intro n' _ _
    refine pk_le 4096 q (fun z => ?_) (fun z => ⟨pk_in q 4096 z, ?_⟩)
    · have e : q = 4096 := by omega
      subst e
      exact ⟨pk_in i 2 hi, nm_r (by rw [nI_clamp (show i < 2 ^ 31 by omega)]; rfl) h⟩
    · rw [aj_at an (show q < 2 ^ 31 by omega)]
      rw [aj_out1_t z] at h
      exact br_f (q4 z) ⟨pk_in i 2 hi, nm_r (by rw [nI_clamp (show i < 2 ^ 31 by omega)]) h⟩
  · intro n' j _ hj hF hw
    refine pk_le 4096 j (fun z => absurd z (by omega)) (fun z => ⟨pk_in j 4096 z, ?_⟩)
    rw [aj_at an (show j < 2 ^ 31 by omega)]
    exact br_c (fun _ => nm_r (nI_1 j) (hw () (by omega))) (fun z => absurd (q3 j hF hj) z)
end
end
section
section
variable {fV fD fA fR fp : Int32} {sc sy ps : Nat → Int32} {n : Nat} {m : Nat → Nat}
theorem ay_size {post : Int32 → Prop} {x : Int32} {k : Nat} (hx : x = nI k) (hm : k < 64) (h : post (nI (aj_sz k 6))) : wpY_size post (fV, fD, fA, fR, fp, nI n, sc, sy, ps) x := by
  subst hx
  exact loop_0 (fun n' i (_ : Unit) => wY_size_4 post (nI k) fV fD fA fR fp (nI n) sc sy ps n' (nI (aj_sz k i)) (nI i)) (fun _ _ => True) 6 () trivial
    (fun n' _ _ => pk_le 6 6 (fun _ => h) (fun z => absurd z (by omega)))
    (fun n' i _ hi _ hw => pk_le 6 i (fun z => absurd z (by omega)) (fun _ => nm_r (e' := nI (aj_sz k (i + 1))) (by rw [aj_bit k hm i hi, nI_add]; rfl) (nm_r (nI_1 i) (hw () trivial))))
theorem ay_cov {post : Int32 → Prop} (hn : n ≤ 6) (hs : aj_msk m n sc) (h : post (nI (aj_cov m n))) : wpY_coveredMask post (fV, fD, fA, fR, fp, nI n, sc, sy, ps) :=
  loop_0 (fun n' i (_ : Unit) => wY_coveredMask_4 post fV fD fA fR fp (nI n) sc sy ps n' (nI (aj_cov m i)) (nI i)) (fun _ _ => True) n () trivial
    (fun n' _ _ => pk_le n n (fun _ => h) (fun z => absurd z (by omega)))
    (fun n' i _ hi _ hw => pk_le n i (fun z => absurd z (by omega)) (fun _ => ⟨pk_in i 6 (by omega), nm_r (e' := nI (aj_cov m (i + 1))) (by rw [aj_at sc (show i < 2 ^ 31 by omega), (hs i hi).1, aj_or]; rfl) (nm_r (nI_1 i) (hw () trivial))⟩))
theorem ay_tb1 {x : Int32} {k v : Nat} {A B : Prop} (hx : x = nI k) (hm : k < 64) (hv : v < 6) (h1 : k.testBit v = true → A) (h0 : ¬ k.testBit v = true → B) : (((x >>> (nI v &&& 31)) &&& 1) = 1 → A) ∧ (¬ ((x >>> (nI v &&& 31)) &&& 1) = 1 → B) := by
  subst hx
  rw [aj_bit k hm v hv]
  cases hb : k.testBit v
  · exact br_f (by decide) (h0 (by rw [hb]; decide))
  · exact br_t (by decide) (h1 hb)
theorem ay_tb0 {x : Int32} {k v : Nat} {A B : Prop} (hx : x = nI k) (hm : k < 64) (hv : v < 6) (h1 : k.testBit v = true → B) (h0 : ¬ k.testBit v = true → A) : (((x >>> (nI v &&& 31)) &&& 1) = 0 → A) ∧ (¬ ((x >>> (nI v &&& 31)) &&& 1) = 0 → B) := by
  subst hx
  rw [aj_bit k hm v hv]
  cases hb : k.testBit v
  · exact br_t (by decide) (h0 (by rw [hb]; decide))
  · exact br_f (by decide) (h1 hb)
theorem ay_placeIn {post : Int32 → Prop} {a c k : Nat} (ha : a < 6) (hsc : sc a = nI k) (hk : k < 64) (hc : c < 4096) (h : post (nI (a * 64 + aj_ky k c 6))) : wpY_placeIn post (fV, fD, fA, fR, fp, nI n, sc, sy, ps) (nI a) (nI c) :=
  loop_0 (fun n' i (_ : Unit) => wY_placeIn_5 post (nI a) (nI c) fV fD fA fR fp (nI n) sc sy ps n' (nI (aj_ky k c i)) (nI i)) (fun _ _ => True) 6 () trivial
    (fun n _ _ => pk_le 6 6 (fun _ => by rw [aj_ix]; exact h) (fun z => absurd z (by omega)))
    (fun n i _ hi _ hw => pk_le 6 i (fun z => absurd z (by omega)) (fun _ => ⟨pk_in a 6 ha, ay_tb1 ((aj_at sc (by omega)).trans hsc) hk hi
      (fun hb => nm_r (e' := nI (aj_ky k c i * 4 + aj_val c i)) (by rw [aj_vY hc hi, show nI (aj_ky k c i) * 4 = nI (aj_ky k c i * 4) from pk_mul _ 4, nI_add]) (nm_r (nI_1 i) (by
          have := hw () trivial
          rw [aj_ky, if_pos hb] at this
          exact this)))
      (fun hb => nm_r (nI_1 i) (by
          have := hw () trivial
          rw [aj_ky, if_neg hb] at this
          exact this))⟩))
theorem ay_isAns {post : Int32 → Prop} {c : Nat} (hn : n ≤ 6) (hs : aj_msk m n sc) (hc : c < 4096) (h1 : aj_anY m n sy c → post 1) (h0 : ¬ aj_anY m n sy c → post 0) : wpY_isAnswer post (fV, fD, fA, fR, fp, nI n, sc, sy, ps) (nI c) := by
  have second : aj_unc m n c → ∃ n', wY_isAnswer_44 post (nI c) fV fD fA fR fp (nI n) sc sy ps n' 0 := fun hu =>
    loop_0 (fun n' i (_ : Unit) => wY_isAnswer_44 post (nI c) fV fD fA fR fp (nI n) sc sy ps n' (nI i)) (fun i _ => ∀ a, a < i → ¬ sy (a * 64 + aj_ky (m a) c 6) = 0) n () lt_0
      (fun n' _ hI => pk_le n n (fun _ => h1 ⟨hu, hI⟩) (fun z => absurd z (by omega)))
      (fun n' i _ hi hI hw => pk_le n i (fun z => absurd z (by omega)) (fun _ => ay_placeIn (by omega) (hs i hi).1 (hs i hi).2.1 hc (by
        have hk := aj_ky_64 (c := c) (hs i hi).2.2
        refine ⟨pk_in (i * 64 + aj_ky (m i) c 6) 384 (by omega), ?_⟩
        rw [nI_clamp (show i * 64 + aj_ky (m i) c 6 < 2 ^ 31 by omega)]
        exact br_c (fun z => h0 fun H => H.2 i hi z) (fun z => nm_r (nI_1 i) (hw () (lt_s hI z))))))
  exact ay_cov hn hs (loop_0 (fun n' i (_ : Unit) => wY_isAnswer_7 post (nI c) (nI (aj_cov m n)) fV fD fA fR fp (nI n) sc sy ps n' (nI i)) (fun i _ => ∀ v, v < i → (aj_cov m n).testBit v = false → aj_val c v = 0) 6 () lt_0
    (fun n' _ hI => pk_le 6 6 (fun _ => second hI) (fun z => absurd z (by omega)))
    (fun n' i _ hi hI hw => pk_le 6 i (fun z => absurd z (by omega)) (fun _ => ay_tb0 rfl (aj_cov64 hs) hi
      (fun hb => nm_r (nI_1 i) (hw () (lt_s hI fun z => by rw [hb] at z; exact absurd z (by decide))))
      (fun hb => pk_eq (aj_val c i) 0 (fun z => nm_r (nI_1 i) (hw () (lt_s hI fun _ => z))) (fun z => h0 fun H => z (H.1 i hi (Bool.eq_false_iff.mpr hb))) (aj_vY hc hi) rfl (by have := aj_val_lt c i; omega)))))
theorem ay_isLive {post : Int32 → Prop} {a p : Nat} (hn : n ≤ 6) (hs : aj_msk m n sc) (ha : a < n) (hp : p < 64) (h1 : (∃ c, c < 4096 ∧ aj_anY m n sy c ∧ aj_ky (m a) c 6 = p) → post 1) (h0 : (¬ ∃ c, c < 4096 ∧ aj_anY m n sy c ∧ aj_ky (m a) c 6 = p) → post 0) : wpY_isLive post (fV, fD, fA, fR, fp, nI n, sc, sy, ps) (nI a) (nI (a * 64 + p)) :=
  loop_0 (fun n' i (_ : Unit) => wY_isLive_2 post (nI a) (nI (a * 64 + p)) fV fD fA fR fp (nI n) sc sy ps n' (nI i)) (fun i _ => ∀ c, c < i → ¬ (aj_anY m n sy c ∧ aj_ky (m a) c 6 = p)) 4096 () lt_0
    (fun n' _ hI => pk_le 4096 4096 (fun _ => h0 fun ⟨c, hc, H⟩ => hI c hc H) (fun z => absurd z (by omega)))
    (fun n' i _ hi hI hw => pk_le 4096 i (fun z => absurd z (by omega)) (fun _ => ay_placeIn (by omega) (hs a ha).1 (hs a ha).2.1 hi (by
      have hk := aj_ky_64 (c := i) (hs a ha).2.2
      exact pk_eq (a * 64 + aj_ky (m a) i 6) (a * 64 + p) (fun z => ay_isAns hn hs hi (fun H => br_f (by decide) (h1 ⟨i, hi, H, by omega⟩)) (fun H => br_t rfl (nm_r (nI_1 i) (hw () (lt_s hI fun G => H G.1))))) (fun z => nm_r (nI_1 i) (hw () (lt_s hI fun G => z (by rw [G.2])))))))
theorem ay_stuck {post : Int32 → Prop} {S : Nat} (hn : n ≤ 6) (hs : aj_msk m n sc) (hS : S < 64) (h1 : aj_stk m n S → post 1) (h0 : ¬ aj_stk m n S → post 0) : wpY_isStuck post (fV, fD, fA, fR, fp, nI n, sc, sy, ps) (nI S) :=
  loop_0 (fun n' i (_ : Unit) => wY_isStuck_2 post (nI S) fV fD fA fR fp (nI n) sc sy ps n' (nI i)) (fun i _ => ∀ v, v < i → S.testBit v = true → ¬ aj_cl m n S v) 6 () lt_0
    (fun n' _ hI => pk_le 6 6 (fun _ => h1 hI) (fun z => absurd z (by omega)))
    (fun n' i _ hi hI hw => pk_le 6 i (fun z => absurd z (by omega)) (fun _ => ay_tb0 rfl hS hi
      (fun hb => loop_0 (fun n'' j (_ : Unit) => wY_isStuck_24 post (wY_isStuck_2 post (nI S) fV fD fA fR fp (nI n) sc sy ps n') (nI S) (nI i) fV fD fA fR fp (nI n) sc sy ps n'' (nI (aj_nr m S i j)) (nI j)) (fun _ _ => True) n () trivial
        (fun n'' _ _ => pk_le n n (fun _ => loop_0 (fun n3 j (_ : Unit) => wY_isStuck_69 post (wY_isStuck_2 post (nI S) fV fD fA fR fp (nI n) sc sy ps n') (nI S) (nI i) (nI (aj_nr m S i n)) fV fD fA fR fp (nI n) sc sy ps n3 (nI j)) (fun j _ => ∀ a, a < j → ¬ m a &&& aj_nr m S i n = aj_nr m S i n) n () lt_0
            (fun n3 _ hJ => pk_le n n (fun _ => nm_r (nI_1 i) (hw () (lt_s hI fun _ ⟨a, ha, e⟩ => hJ a ha e))) (fun z => absurd z (by omega)))
            (fun n3 j _ hj hJ hw3 => pk_le n j (fun z => absurd z (by omega)) (fun _ => ⟨pk_in j 6 (by omega), by
              have hl := aj_nr_lt (m := m) (v := i) hS n
              have hl2 : m j &&& aj_nr m S i n < 64 := Nat.and_lt_two_pow (n := 6) (m j) hl
              exact pk_eq (m j &&& aj_nr m S i n) (aj_nr m S i n) (fun z => h0 fun H => H i hi hb ⟨j, hj, z⟩) (fun z => nm_r (nI_1 j) (hw3 () (lt_s hJ z))) (by rw [aj_at sc (show j < 2 ^ 31 by omega), (hs j hj).1, nx_and])⟩))) (fun z => absurd z (by omega)))
        (fun n'' j _ hj _ hw2 => pk_le n j (fun z => absurd z (by omega)) (fun _ => ⟨pk_in j 6 (by omega), ay_tb1 ((aj_at sc (by omega)).trans (hs j hj).1) (hs j hj).2.1 hi
          (fun hb2 => ⟨pk_in j 6 (by omega), nm_r (e' := nI (aj_nr m S i (j + 1))) (by rw [aj_at sc (show j < 2 ^ 31 by omega), (hs j hj).1, nx_and, aj_or, aj_nr, if_pos hb2]) (nm_r (nI_1 j) (hw2 () trivial))⟩)
          (fun hb2 => nm_r (nI_1 j) (by
            have := hw2 () trivial
            rw [aj_nr, if_neg hb2] at this
            exact this))⟩)))
      (fun hb => nm_r (nI_1 i) (hw () (lt_s hI fun z => absurd z hb)))))
theorem ay_resMask {post : Int32 → Prop} {K : Nat} (hn : n ≤ 6) (hs : aj_msk m n sc) (hK : aj_res m n K) (h : post (nI K)) : wpY_residueMask post (fV, fD, fA, fR, fp, nI n, sc, sy, ps) := by
  have hC := aj_cov64 hs
  refine ay_cov hn hs (loop_0 (fun n' i U => wY_residueMask_9 post (nI (aj_cov m n)) fV fD fA fR fp (nI n) sc sy ps n' (nI U) (nI i)) (fun i U => U < 64 ∧ ∀ w, w < 6 → (U.testBit w = true ↔ ∃ S, S < i ∧ (aj_sub S (aj_cov m n) ∧ aj_stk m n S) ∧ S.testBit w = true)) 64 0 ⟨by decide, fun w _ => ?_⟩ ?_ ?_)
  · rw [Nat.zero_testBit]
    exact ⟨fun z => absurd z (by decide), fun ⟨S, hS, _⟩ => absurd hS (Nat.not_lt_zero S)⟩
  · intro n' U hI
    have e := aj_res_un hK hI.1 hI.2
    subst e
    exact pk_le 64 64 (fun _ => h) (fun z => absurd z (by omega))
  · intro n' i U hi hI hw
    have no : ¬ (aj_sub i (aj_cov m n) ∧ aj_stk m n i) → wY_residueMask_9 post (nI (aj_cov m n)) fV fD fA fR fp (nI n) sc sy ps n' (nI U) (nI (i + 1)) := fun hno => hw U ⟨hI.1, fun w hw' => by
      rw [hI.2 w hw']
      constructor
      · exact fun ⟨S, h1, h2⟩ => ⟨S, by omega, h2⟩
      · intro ⟨S, h1, h2, h3⟩
        by_cases e : S = i
        · subst e
          exact absurd h2 hno
        · exact ⟨S, by omega, h2, h3⟩⟩
    have yes : (aj_sub i (aj_cov m n) ∧ aj_stk m n i) → wY_residueMask_9 post (nI (aj_cov m n)) fV fD fA fR fp (nI n) sc sy ps n' (nI (U ||| i)) (nI (i + 1)) := fun hyes => hw (U ||| i) ⟨Nat.or_lt_two_pow (n := 6) hI.1 hi, fun w hw' => by
      rw [Nat.testBit_or, Bool.or_eq_true, hI.2 w hw']
      constructor
      · rintro (⟨S, h1, h2⟩ | h)
        · exact ⟨S, by omega, h2⟩
        · exact ⟨i, by omega, hyes, h⟩
      · intro ⟨S, h1, h2, h3⟩
        by_cases e : S = i
        · subst e
          exact Or.inr h3
        · exact Or.inl ⟨S, by omega, h2, h3⟩⟩
    have hl : i &&& aj_cov m n < 64 := Nat.and_lt_two_pow (n := 6) i hC
    have hc : i &&& aj_cov m n = i ↔ aj_sub i (aj_cov m n) := by
      rw [Nat.and_comm]
      exact aj_and_sub hi
    refine pk_le 64 i (fun z => absurd z (by omega)) (fun _ => pk_eq (i &&& aj_cov m n) i (fun z => ?_) (fun z => nm_r (nI_1 i) (no fun H => z (hc.mpr H.1))) (nx_and _ _))
    exact ay_stuck hn hs hi (fun H => br_f (by decide) (nm_r (aj_or _ _) (nm_r (nI_1 i) (yes ⟨hc.mp z, H⟩)))) (fun H => br_t rfl (nm_r (nI_1 i) (no fun G => H G.2)))
theorem ay_count {post : Int32 → Prop} {an : Nat → Int32} (hn : n ≤ 6) (hs : aj_msk m n sc) (ha : ∀ c, c < 4096 → (an c = 0 ↔ ¬ aj_anY m n sy c)) (h : post (nI (aj_cn an 4096))) : ∃ n', wY_count_14 post fV fD fA fR fp (nI n) sc sy ps n' 0 0 :=
  loop_0 (fun n' i (_ : Unit) => wY_count_14 post fV fD fA fR fp (nI n) sc sy ps n' (nI (aj_cn an i)) (nI i)) (fun _ _ => True) 4096 () trivial
    (fun n' _ _ => pk_le 4096 4096 (fun _ => h) (fun z => absurd z (by omega)))
    (fun n' i _ hi _ hw => pk_le 4096 i (fun z => absurd z (by omega)) (fun _ => ay_isAns hn hs hi
      (fun H => br_f (by decide) (nm_r (nI_1 _) (nm_r (nI_1 i) (by have := hw () trivial; rw [aj_cn_p (fun z => (ha i hi).mp z H)] at this; exact this))))
      (fun H => br_t rfl (nm_r (nI_1 i) (by have := hw () trivial; rw [aj_cn_z ((ha i hi).mpr H)] at this; exact this)))))
theorem ay_live {post : Int32 → Prop} {a : Nat} {g : Nat → Int32} (hn : n ≤ 6) (hs : aj_msk m n sc) (ha : a < n) (hg : ∀ p, p < 64 → (g p = 0 ↔ ¬ ∃ c, c < 4096 ∧ aj_anY m n sy c ∧ aj_ky (m a) c 6 = p)) (h : post (nI (aj_cn g 64))) : ∃ n', wY_live_29 post (nI a) fV fD fA fR fp (nI n) sc sy ps n' 0 0 :=
  loop_0 (fun n' i (_ : Unit) => wY_live_29 post (nI a) fV fD fA fR fp (nI n) sc sy ps n' (nI (aj_cn g i)) (nI i)) (fun _ _ => True) 64 () trivial
    (fun n' _ _ => pk_le 64 64 (fun _ => h) (fun z => absurd z (by omega)))
    (fun n' i _ hi _ hw => pk_le 64 i (fun z => absurd z (by omega)) (fun _ => nm_r (aj_ix a i) ⟨pk_in (a * 64 + i) 384 (by omega), by
      rw [aj_at sy (show a * 64 + i < 2 ^ 31 by omega)]
      have z0 : g i = 0 → wY_live_29 post (nI a) fV fD fA fR fp (nI n) sc sy ps n' (nI (aj_cn g i)) (nI (i + 1)) := fun z => by have := hw () trivial; rw [aj_cn_z z] at this; exact this
      refine br_c (fun z => nm_r (nI_1 i) (z0 ((hg i hi).mpr fun ⟨c, hc, H, e⟩ => H.2 a ha (by rw [e]; exact z)))) (fun z => ?_)
      exact ay_isLive hn hs ha hi
        (fun H => br_f (by decide) (nm_r (nI_1 _) (nm_r (nI_1 i) (by have := hw () trivial; rw [aj_cn_p (fun z => (hg i hi).mp z H)] at this; exact this))))
        (fun H => br_t rfl (nm_r (nI_1 i) (z0 ((hg i hi).mpr H))))⟩))
theorem ay_rows {post : Int32 → SY → Prop} {a : Nat} {x5 : Int32} (ha : a < 6) (h : (nI (aj_cn (fun i => sy (a * 64 + i)) 64) < fR → (vp_in x5 384 ∧ ∀ y, y = upd sy x5.toNatClampNeg (vp_nar .boolean 1) → post 0 (fV, fD, fA, fR, fp, nI n, sc, y, ps))) ∧ (¬ nI (aj_cn (fun i => sy (a * 64 + i)) 64) < fR → post (-3) (fV, fD, fA, fR, fp, nI n, sc, sy, ps))) : ∃ n', wY_addRow_47 post (nI a) x5 fV fD fA fR fp (nI n) sc sy ps n' 0 0 :=
  loop_0 (fun n' i (_ : Unit) => wY_addRow_47 post (nI a) x5 fV fD fA fR fp (nI n) sc sy ps n' (nI (aj_cn (fun i => sy (a * 64 + i)) i)) (nI i)) (fun _ _ => True) 64 () trivial
    (fun n' _ _ => pk_le 64 64 (fun _ => h) (fun z => absurd z (by omega)))
    (fun n' i _ hi _ hw => pk_le 64 i (fun z => absurd z (by omega)) (fun _ => by
      rw [aj_ix, aj_at sy (show a * 64 + i < 2 ^ 31 by omega)]
      exact ⟨pk_in (a * 64 + i) 384 (by omega), br_c (fun z => nm_r (nI_1 i) (by have := hw () trivial; rw [aj_cn_z (f := fun i => sy (a * 64 + i)) z] at this; exact this)) (fun z => nm_r (nI_1 _) (nm_r (nI_1 i) (by have := hw () trivial; rw [aj_cn_p (f := fun i => sy (a * 64 + i)) z] at this; exact this)))⟩))
/-- the least place from F on, as the reference looks for it: P is what it asks of a place beside being an answer -/
theorem ay_skip {post : Int32 → SY → Prop} {i q : Nat} {x3 x4 : Int32} {P : Nat → Prop} (hn : n ≤ 6) (hs : aj_msk m n sc) (hi : i < 2)
    (hP : ∀ c, c < 4096 → (P c ↔ ¬ nI c ≤ x3 ∧ (x3 = -1 ∨ ¬ (nI c >>> (x4 &&& 31)) = (x3 >>> (x4 &&& 31)))))
    (q1 : q ≤ 4096) (q2 : ∀ c, c < q → ¬ (P c ∧ aj_anY m n sy c)) (q3 : q < 4096 → P q ∧ aj_anY m n sy q)
    (h : post (aj_out1 q) (fV, fD, fA, fR, fp, nI n, sc, sy, upd ps i (nI q))) : ∃ n', wY_skip_62 post (nI i) x3 x4 fV fD fA fR fp (nI n) sc sy ps n' 0 := by
  refine loop_0 (fun n' c (_ : Unit) => wY_skip_62 post (nI i) x3 x4 fV fD fA fR fp (nI n) sc sy ps n' (nI c)) (fun _ _ => True) q () trivial ?_ ?_
  · intro n' _ _
    refine pk_le 4096 q (fun z => ?_) (fun z => ?_)
    · have e : q = 4096 := by omega
      subst e
      exact ⟨pk_in i 2 hi, nm_r (by rw [nI_clamp (show i < 2 ^ 31 by omega)]; rfl) h⟩
    · rw [aj_out1_t z] at h
      obtain ⟨p1, p2⟩ := q3 z
      obtain ⟨p3, p4⟩ := (hP q z).mp p1
      have last : wY_skip_93 post (wY_skip_62 post (nI i) x3 x4 fV fD fA fR fp (nI n) sc sy ps n') (nI i) x3 x4 (nI q) fV fD fA fR fp (nI n) sc sy ps :=
        ay_isAns hn hs z (fun _ => br_f (by decide) ⟨pk_in i 2 hi, nm_r (by rw [nI_clamp (show i < 2 ^ 31 by omega)]) h⟩) (fun H => absurd p2 H)
      refine br_f p3 (br_c (fun _ => last) (fun g => ?_))
      exact br_f (p4.resolve_left g) last
  · intro n' c _ hc _ hw
    have hw' := hw () trivial
    have hc' : c < 4096 := by omega
    have last : P c → wY_skip_93 post (wY_skip_62 post (nI i) x3 x4 fV fD fA fR fp (nI n) sc sy ps n') (nI i) x3 x4 (nI c) fV fD fA fR fp (nI n) sc sy ps := fun hp =>
      ay_isAns hn hs hc' (fun H => absurd ⟨hp, H⟩ (q2 c hc)) (fun _ => br_t rfl (nm_r (nI_1 c) hw'))
    refine pk_le 4096 c (fun z => absurd z (by omega)) (fun _ => br_c (fun _ => nm_r (nI_1 c) hw') (fun g1 => br_c (fun g2 => last ((hP c hc').mpr ⟨g1, Or.inl g2⟩)) (fun _ => br_c (fun _ => nm_r (nI_1 c) hw') (fun g3 => last ((hP c hc').mpr ⟨g1, Or.inr g3⟩)))))
end
end
section
section
variable {fV fD fA fR fp fr : Int32} {sc sx an lv ps : Nat → Int32} {n : Nat} {m : Nat → Nat}
theorem ax_put {post : SX → Prop} (h : post (fV, fD, fA, fR, nI n, fp, fr, sc, sx, an, lv, upd (upd ps 0 (-1)) 1 (-1))) : wpX_putCursorsAtStart post (fV, fD, fA, fR, nI n, fp, fr, sc, sx, an, lv, ps) :=
  ⟨3, br_f (by decide) ⟨vp_in_nI (n := 0) (by decide) (by decide), nm_e (nm_e (br_f (by decide) ⟨vp_in_nI (n := 1) (by decide) (by decide), nm_e (nm_e (br_t (by decide) h))⟩))⟩⟩
theorem ax_cov {post : Int32 → Prop} (hn : n ≤ 6) (hs : aj_msk m n sc) (h : post (nI (aj_cov m n))) : wpX_coveredVariables post (fV, fD, fA, fR, nI n, fp, fr, sc, sx, an, lv, ps) :=
  loop_0 (fun n' i (_ : Unit) => wX_coveredVariables_4 post fV fD fA fR (nI n) fp fr sc sx an lv ps n' (nI (aj_cov m i)) (nI i)) (fun _ _ => True) n () trivial
    (fun n' _ _ => pk_le n n (fun _ => h) (fun z => absurd z (by omega)))
    (fun n' i _ hi _ hw => pk_le n i (fun z => absurd z (by omega)) (fun _ => ⟨pk_in i 6 (by omega), nm_r (e' := nI (aj_cov m (i + 1))) (by rw [aj_at sc (show i < 2 ^ 31 by omega), (hs i hi).1, aj_or]; rfl) (nm_r (nI_1 i) (hw () trivial))⟩))
theorem ax_near {post : Int32 → Prop} {S v : Nat} (hn : n ≤ 6) (hs : aj_msk m n sc) (hv : v < 6) (h : post (nI (aj_nr m S v n))) : wpX_neighboursWithin post (fV, fD, fA, fR, nI n, fp, fr, sc, sx, an, lv, ps) (nI S) (nI v) :=
  loop_0 (fun n' j (_ : Unit) => wX_neighboursWithin_5 post (nI S) (nI v) fV fD fA fR (nI n) fp fr sc sx an lv ps n' (nI (aj_nr m S v j)) (nI j)) (fun _ _ => True) n () trivial
    (fun n' _ _ => pk_le n n (fun _ => h) (fun z => absurd z (by omega)))
    (fun n' j _ hj _ hw => pk_le n j (fun z => absurd z (by omega)) (fun _ => ⟨pk_in j 6 (by omega), ax_contains ((aj_at sc (by omega)).trans (hs j hj).1) (hs j hj).2.1 hv
      (fun hb => br_f (by decide) ⟨pk_in j 6 (by omega), nm_r (e' := nI (aj_nr m S v (j + 1))) (by rw [aj_at sc (show j < 2 ^ 31 by omega), (hs j hj).1, nx_and, aj_or, aj_nr, if_pos hb]) (nm_r (nI_1 j) (hw () trivial))⟩)
      (fun hb => br_t rfl (nm_r (nI_1 j) (by
        have := hw () trivial
        rw [aj_nr, if_neg hb] at this
        exact this)))⟩))
theorem ax_canLeave {post : Int32 → Prop} {S v : Nat} (hn : n ≤ 6) (hs : aj_msk m n sc) (hS : S < 64) (hv : v < 6) (h1 : aj_cl m n S v → post 1) (h0 : ¬ aj_cl m n S v → post 0) : wpX_canLeave post (fV, fD, fA, fR, nI n, fp, fr, sc, sx, an, lv, ps) (nI S) (nI v) :=
  ax_near hn hs hv (loop_0 (fun n' j (_ : Unit) => wX_canLeave_10 post (nI (aj_nr m S v n)) fV fD fA fR (nI n) fp fr sc sx an lv ps n' (nI j)) (fun j _ => ∀ a, a < j → ¬ m a &&& aj_nr m S v n = aj_nr m S v n) n () lt_0
    (fun n' _ hJ => pk_le n n (fun _ => h0 fun ⟨a, ha, e⟩ => hJ a ha e) (fun z => absurd z (by omega)))
    (fun n' j _ hj hJ hw => pk_le n j (fun z => absurd z (by omega)) (fun _ => ⟨pk_in j 6 (by omega), by
      have hl := aj_nr_lt (m := m) (v := v) hS n
      have hl2 : m j &&& aj_nr m S v n < 64 := Nat.and_lt_two_pow (n := 6) (m j) hl
      exact pk_eq (m j &&& aj_nr m S v n) (aj_nr m S v n) (fun z => h1 ⟨j, hj, z⟩) (fun z => nm_r (nI_1 j) (hw () (lt_s hJ z))) (by rw [aj_at sc (show j < 2 ^ 31 by omega), (hs j hj).1, nx_and])⟩)))
theorem ax_residue {post : Int32 → Prop} (hn : n ≤ 6) (hs : aj_msk m n sc) (h : ∀ K, aj_res m n K → post (nI K)) : wpX_residueWithin post (fV, fD, fA, fR, nI n, fp, fr, sc, sx, an, lv, ps) (nI (aj_cov m n)) := by
  refine loop_0 (fun n' i K => wX_residueWithin_4 post fV fD fA fR (nI n) fp fr sc sx an lv ps n' (nI K) (nI i)) (fun i K => aj_out m n i K) 6 (aj_cov m n) (aj_out0 (aj_cov64 hs)) ?_ ?_
  · intro n' K hI
    exact pk_le 6 6 (fun _ => h K (aj_out6 hI)) (fun z => absurd z (by omega))
  · intro n' i K0 hi hI hw
    refine pk_le 6 i (fun z => absurd z (by omega)) (fun _ => loop_0 (fun n'' v K => wX_residueWithin_13 post (wX_residueWithin_4 post fV fD fA fR (nI n) fp fr sc sx an lv ps n') (nI i) fV fD fA fR (nI n) fp fr sc sx an lv ps n'' (nI K) (nI v)) (fun v K => aj_inn m n K0 v K) 6 K0 (aj_inn0 hI.1) ?_ ?_)
    · intro n'' K hJ
      exact pk_le 6 6 (fun _ => nm_r (nI_1 i) (hw K (aj_out_s hI hJ))) (fun z => absurd z (by omega))
    · intro n'' v K hv hJ hw2
      have hK := hJ.1.1
      exact pk_le 6 v (fun z => absurd z (by omega)) (fun _ => ax_contains rfl hK hv
        (fun hb => br_f (by decide) (ax_canLeave hn hs hK hv
          (fun hc => br_f (by decide) (nm_r (aj_rmI K hK v hv) (nm_r (nI_1 v) (hw2 _ (aj_inn_yes hJ hv hb hc)))))
          (fun hc => br_t rfl (nm_r (nI_1 v) (hw2 K (aj_inn_no hJ fun _ => hc))))))
        (fun hb => br_t rfl (nm_r (nI_1 v) (hw2 K (aj_inn_no hJ fun z => absurd z hb)))))
theorem aj_nb : vp_nar .boolean 1 = 1 ∧ vp_nar .boolean 0 = 0 := ⟨rfl, rfl⟩
/-- the marks of one answer -/
def aj_mark (m : Nat → Nat) (k c : Nat) (lv lv' : Nat → Int32) : Prop := ∀ a, a < 6 → ∀ x, x < 64 → (lv' (a * 64 + x) = 0 ↔ lv (a * 64 + x) = 0 ∧ ¬ (a < k ∧ aj_kx (m a) c 6 = x))
theorem aj_mark_s {k c : Nat} {l0 l1 : Nat → Int32} (h : aj_mark m k c l0 l1) (h4 : aj_sz (m k) 6 < 4) : aj_mark m (k + 1) c l0 (upd l1 (k * 64 + aj_kx (m k) c 6) 1) := by
  intro a ha x hx
  have hk := aj_kx_64 (c := c) h4
  by_cases e : a = k ∧ x = aj_kx (m k) c 6
  · obtain ⟨e1, e2⟩ := e
    subst e1
    subst e2
    rw [pk_us]
    constructor
    · intro z
      exact absurd z (by decide)
    · intro z
      exact absurd ⟨by omega, rfl⟩ z.2
  · rw [pk_un (fun z => e (by omega)), h a ha x hx]
    constructor
    · intro ⟨z1, z2⟩
      refine ⟨z1, fun ⟨z3, z4⟩ => ?_⟩
      by_cases e2 : a = k
      · subst e2
        exact e ⟨rfl, z4.symm⟩
      · exact z2 ⟨by omega, z4⟩
    · intro ⟨z1, z2⟩
      exact ⟨z1, fun ⟨z3, z4⟩ => z2 ⟨by omega, z4⟩⟩
theorem ax_mark {post : SX → Prop} {c : Nat} (hn : n ≤ 6) (hs : aj_msk m n sc) (hc : c < 4096) (h : ∀ l, aj_mark m n c lv l → post (fV, fD, fA, fR, nI n, fp, fr, sc, sx, an, l, ps)) : wpX_markLiveRows post (fV, fD, fA, fR, nI n, fp, fr, sc, sx, an, lv, ps) (nI c) := by
  refine loop_0 (fun n' i l => wX_markLiveRows_2 post (nI c) fV fD fA fR (nI n) fp fr n' (nI i) sc sx an l ps) (fun i l => aj_mark m i c lv l) n lv ?_ ?_ ?_
  · intro a _ x _
    exact ⟨fun z => ⟨z, fun y => absurd y.1 (Nat.not_lt_zero a)⟩, fun z => z.1⟩
  · intro n' l hI
    exact pk_le n n (fun _ => h l hI) (fun z => absurd z (by omega))
  · intro n' i l hi hI hw
    have hk := aj_kx_64 (c := c) (hs i hi).2.2
    exact pk_le n i (fun z => absurd z (by omega)) (fun _ => ax_slotA (by omega) (hs i hi).1 (hs i hi).2.1 (hs i hi).2.2 hc ⟨pk_in (i * 64 + aj_kx (m i) c 6) 384 (by omega), nm_r (by rw [nI_clamp (show i * 64 + aj_kx (m i) c 6 < 2 ^ 31 by omega), aj_nb.1]) (nm_r (nI_1 i) (hw _ (aj_mark_s hI (hs i hi).2.2)))⟩)
theorem aj_rdA_s {k : Nat} {a1 : Nat → Int32} {z : Int32} (h : aj_rdA m n sx a1 k) (hz : z = 0 ↔ ¬ aj_ans m n sx k) : aj_rdA m n sx (upd a1 k z) (k + 1) := by
  intro c hc
  by_cases e : c = k
  · subst e
    rw [pk_us]
    exact hz
  · rw [pk_un e]
    exact h c (by omega)
theorem aj_rdL_n {k : Nat} {l : Nat → Int32} (h : aj_rdL m n sx l k) (hz : ¬ aj_ans m n sx k) : aj_rdL m n sx l (k + 1) := by
  intro a ha x hx
  rw [h a ha x hx]
  constructor
  · intro z ⟨c, hc, hA, e⟩
    by_cases e2 : c = k
    · subst e2
      exact hz hA
    · exact z ⟨c, by omega, hA, e⟩
  · intro z ⟨c, hc, hA, e⟩
    exact z ⟨c, by omega, hA, e⟩
theorem aj_rdL_y {k : Nat} {l l' : Nat → Int32} (hn : n ≤ 6) (h : aj_rdL m n sx l k) (hm : aj_mark m n k l l') (hz : aj_ans m n sx k) : aj_rdL m n sx l' (k + 1) := by
  intro a ha x hx
  rw [hm a (by omega) x hx, h a ha x hx]
  constructor
  · intro ⟨z1, z2⟩ ⟨c, hc, hA, e⟩
    by_cases e2 : c = k
    · subst e2
      exact z2 ⟨ha, e⟩
    · exact z1 ⟨c, by omega, hA, e⟩
  · intro z
    exact ⟨fun ⟨c, hc, hA, e⟩ => z ⟨c, by omega, hA, e⟩, fun y => z ⟨k, by omega, hz, y.2⟩⟩
theorem ax_find {post : SX → Prop} (hn : n ≤ 6) (hs : aj_msk m n sc) (h : ∀ a1 l1, aj_rdA m n sx a1 4096 → aj_rdL m n sx l1 4096 → post (fV, fD, fA, fR, nI n, fp, fr, sc, sx, a1, l1, ps)) : wpX_findAnswers post (fV, fD, fA, fR, nI n, fp, fr, sc, sx, an, lv, ps) (nI (aj_cov m n)) := by
  have second : ∀ l, (∀ i, i < 384 → l i = 0) → ∃ n', wX_findAnswers_24 post (nI (aj_cov m n)) n' 0 fV fD fA fR (nI n) fp fr sc sx an l ps := by
    intro l hl
    refine loop_0 (fun n' i s => wX_findAnswers_24 post (nI (aj_cov m n)) n' (nI i) fV fD fA fR (nI n) fp fr sc sx s.1 s.2 ps) (fun i s => aj_rdA m n sx s.1 i ∧ aj_rdL m n sx s.2 i) 4096 (an, l) ⟨lt_0, fun a ha x hx => ?_⟩ ?_ ?_
    · dsimp only
      exact ⟨fun _ ⟨c, hc, _⟩ => absurd hc (Nat.not_lt_zero c), fun _ => hl _ (by omega)⟩
    · intro n' s hI
      exact pk_le 4096 4096 (fun _ => h s.1 s.2 hI.1 hI.2) (fun z => absurd z (by omega))
    · intro n' i s hi hI hw
      refine pk_le 4096 i (fun z => absurd z (by omega)) (fun _ => ax_isAns hn hs hi (fun H => ?_) (fun H => ?_))
      · refine ⟨pk_in i 4096 hi, nm_r (e' := upd s.1 i 1) (by rw [nI_clamp (show i < 2 ^ 31 by omega), aj_nb.1]) ⟨pk_in i 4096 hi, ?_⟩⟩
        rw [nI_clamp (show i < 2 ^ 31 by omega), pk_us]
        exact br_f (by decide) (ax_mark hn hs hi fun l' hl' => nm_r (nI_1 i) (hw (upd s.1 i 1, l') ⟨aj_rdA_s hI.1 ⟨fun z => absurd z (by decide), fun z => absurd H z⟩, aj_rdL_y hn hI.2 hl' H⟩))
      · refine ⟨pk_in i 4096 hi, nm_r (e' := upd s.1 i 0) (by rw [nI_clamp (show i < 2 ^ 31 by omega), aj_nb.2]) ⟨pk_in i 4096 hi, ?_⟩⟩
        rw [nI_clamp (show i < 2 ^ 31 by omega), pk_us]
        exact br_t rfl (nm_r (nI_1 i) (hw (upd s.1 i 0, s.2) ⟨aj_rdA_s hI.1 ⟨fun _ => H, fun _ => rfl⟩, aj_rdL_n hI.2 H⟩))
  refine loop_0 (fun n' i l => wX_findAnswers_2 post (nI (aj_cov m n)) fV fD fA fR (nI n) fp fr n' (nI i) sc sx an l ps) (fun i l => ∀ j, j < i → l j = 0) 384 lv lt_0 ?_ ?_
  · intro n' l hI
    exact pk_le 384 384 (fun _ => second l hI) (fun z => absurd z (by omega))
  · intro n' i l hi hI hw
    refine pk_le 384 i (fun z => absurd z (by omega)) (fun _ => ⟨pk_in i 384 hi, nm_r (e' := upd l i 0) (by rw [nI_clamp (show i < 2 ^ 31 by omega), aj_nb.2]) (nm_r (nI_1 i) (hw _ fun j hj => ?_))⟩)
    by_cases e : j = i
    · rw [e, pk_us]
    · rw [pk_un e]
      exact hI j (by omega)
end
end
section
/-! the relation -/
def aj_inv (V D AL n ph : Nat) (rs : Int32) (m : Nat → Nat) (sc sx an lv ps sy : Nat → Int32) : Prop :=
  (3 ≤ V ∧ V ≤ 6 ∧ D ≤ 4 ∧ AL ≤ 6 ∧ n ≤ AL ∧ ph ≤ 2) ∧ aj_scp m V n sc ∧ aj_sto m n sx sy ∧ aj_pos V ps ∧ (ph = 1 → aj_rdA m n sx an 4096 ∧ aj_rdL m n sx lv 4096) ∧ (ph ≠ 0 → ∃ K, aj_res m n K ∧ rs = nI K)
def i_Rel (_ : Nat) (u : SX) (v : SY) : Prop := ∃ (V D AL n ph : Nat) (m : Nat → Nat) (fR rs : Int32) (sc sx an lv ps sy : Nat → Int32), u = (nI V, nI D, nI AL, fR, nI n, nI ph, rs, sc, sx, an, lv, ps) ∧ v = (nI V, nI D, nI AL, fR, nI ph, nI n, sc, sy, ps) ∧ aj_inv V D AL n ph rs m sc sx an lv ps sy
theorem i_up {k : Nat} {u : SX} {v : SY} (h : i_Rel k u v) : i_Rel (k + 5) u v := h
/-! arguments -/
theorem aj_dec (x : Int32) : x < 0 ∨ ∃ j : Nat, j < 2 ^ 31 ∧ x = nI j := by
  by_cases h : x < 0
  · exact Or.inl h
  · exact Or.inr (nI_of h)
theorem aj_nm1 {k : Nat} (h : k < 2 ^ 31) : ¬ nI k = -1 := fun e => by
  have := nI_pos h
  rw [e] at this
  exact this (by decide)
theorem aj_n0 {k : Nat} (h0 : k ≠ 0) (h : k < 2 ^ 31) : ¬ nI k = 0 := nI_ne0 (by omega) h
theorem aj_clamp (x : Int32) (lo hi : Nat) (h : lo ≤ hi) (hh : hi < 2 ^ 31) : ∃ k, lo ≤ k ∧ k ≤ hi ∧ (∀ post : Int32 → Prop, post (nI k) → wpX_clamp post x (nI lo) (nI hi)) ∧ (∀ (post : Int32 → Prop) (u : SY), post (nI k) → wpY_clamp post u x (nI lo) (nI hi)) := by
  rcases aj_dec x with hx | ⟨j, hj, rfl⟩
  · have hn : ¬ nI lo ≤ x := fun z => Int32.not_lt.mpr (Int32.le_trans (nI_pos' (show lo < 2 ^ 31 by omega)) z) hx
    exact ⟨lo, Nat.le_refl _, h, fun _ hp => br_f hn hp, fun _ _ hp => br_f hn hp⟩
  · by_cases h1 : lo ≤ j
    · by_cases h2 : j ≤ hi
      · exact ⟨j, h1, h2, fun _ hp => br_t (nI_le h1 hj) (br_t (nI_le h2 hh) hp), fun _ _ hp => br_t (nI_le h1 hj) (br_t (nI_le h2 hh) hp)⟩
      · exact ⟨hi, h, Nat.le_refl _, fun _ hp => br_t (nI_le h1 hj) (br_f (nI_ge (by omega) hj) hp), fun _ _ hp => br_t (nI_le h1 hj) (br_f (nI_ge (by omega) hj) hp)⟩
    · exact ⟨lo, Nat.le_refl _, h, fun _ hp => br_f (nI_ge (by omega) (by omega)) hp, fun _ _ hp => br_f (nI_ge (by omega) (by omega)) hp⟩
theorem i_vc0 (k0 : Int32) (k1 : Int32) (k2 : Int32) (k3 : Int32) : wpX_init (fun u => wpY_init (fun v => i_Rel 4 u v) k0 k1 k2 k3) k0 k1 k2 k3 := by
  obtain ⟨V, v1, v2, X0, Y0⟩ := aj_clamp k0 3 6 (by decide) (by decide)
  obtain ⟨D, d1, d2, X1, Y1⟩ := aj_clamp k1 2 4 (by decide) (by decide)
  obtain ⟨A, a1, a2, X2, Y2⟩ := aj_clamp k2 3 6 (by decide) (by decide)
  obtain ⟨R, r1, r2, X3, Y3⟩ := aj_clamp k3 2 8 (by decide) (by decide)
  refine X0 _ (X1 _ (X2 _ (X3 _ (ax_put (n := 0) (Y0 _ _ (Y1 _ _ (Y2 _ _ (Y3 _ _ (nm_e (nm_e ?_))))))))))
  refine ⟨V, D, A, 0, 0, fun _ => 0, nI R, 0, fun _ => 0, fun _ => 0, fun _ => 0, fun _ => 0, upd (upd (fun _ => 0) 0 (-1)) 1 (-1), fun _ => 0, rfl, rfl, ⟨v1, v2, d2, a2, by omega, by omega⟩, lt_0, ⟨lt_0, fun _ _ _ _ => ⟨rfl, rfl⟩⟩, fun i hi => Or.inl ?_, fun z => absurd z (by decide), fun z => absurd rfl z⟩
  have e : i = 0 ∨ i = 1 := by omega
  rcases e with e | e <;> subst e <;> rfl
section
variable {fV fD fA fR fp fr : Int32} {sc sx an lv ps sy : Nat → Int32} {n : Nat} {m : Nat → Nat}
/-! a row's slot on both sides -/
def aj_bad (D : Nat) (x : Int32) : Prop := x < 0 ∨ ∃ j : Nat, j < 2 ^ 31 ∧ D ≤ j ∧ x = nI j
theorem aj_badOr (D : Nat) (x : Int32) : aj_bad D x ∨ ∃ j : Nat, j < D ∧ x = nI j := by
  rcases aj_dec x with h | ⟨j, hj, e⟩
  · exact Or.inl (Or.inl h)
  · by_cases h : j < D
    · exact Or.inr ⟨j, h, e⟩
    · exact Or.inl (Or.inr ⟨j, hj, by omega, e⟩)
theorem aj_bb {D : Nat} {x : Int32} {A B : Prop} (hD : D < 2 ^ 31) (hb : aj_bad D x) (h : B) : (x < 0 → B) ∧ (¬ x < 0 → ((x < nI D → A) ∧ (¬ x < nI D → B))) := by
  rcases hb with hb | ⟨j, hj, hd, rfl⟩
  · exact br_t hb h
  · exact br_f (nI_pos hj) (br_f (nI_nlt hd hj) h)
theorem aj_bo {D j : Nat} {A B : Prop} (hD : D < 2 ^ 31) (hj : j < D) (h : A) : (nI j < 0 → B) ∧ (¬ nI j < 0 → ((nI j < nI D → A) ∧ (¬ nI j < nI D → B))) := br_f (nI_pos (by omega)) (br_t (nI_lt hj hD) h)
theorem ax_badA {post : Int32 → Prop} {x : Int32} (hn : n ≤ 6) (hb : aj_bad n x) (h : post 1) : wpX_isBadAtom post (fV, fD, fA, fR, nI n, fp, fr, sc, sx, an, lv, ps) x := aj_bb (by omega) hb h
theorem ax_okA {post : Int32 → Prop} {a : Nat} (hn : n ≤ 6) (hb : a < n) (h : post 0) : wpX_isBadAtom post (fV, fD, fA, fR, nI n, fp, fr, sc, sx, an, lv, ps) (nI a) := aj_bo (by omega) hb h
theorem ax_badV {post : Int32 → Prop} {x : Int32} {D : Nat} (hn : D ≤ 4) (hb : aj_bad D x) (h : post 1) : wpX_isBadValue post (fV, nI D, fA, fR, nI n, fp, fr, sc, sx, an, lv, ps) x := aj_bb (by omega) hb h
theorem ax_okV {post : Int32 → Prop} {a D : Nat} (hn : D ≤ 4) (hb : a < D) (h : post 0) : wpX_isBadValue post (fV, nI D, fA, fR, nI n, fp, fr, sc, sx, an, lv, ps) (nI a) := aj_bo (by omega) hb h
theorem aj_slot {V D a : Nat} (hV : V ≤ 6) (hn : n ≤ 6) (hD : D ≤ 4) (hs : aj_scp m V n sc) (ha : a < n) (x y z : Int32) :
    ((∀ post : Int32 → Prop, post (-1) → wpX_slotOfRow post (fV, nI D, fA, fR, nI n, fp, fr, sc, sx, an, lv, ps) (nI a) x y z) ∧ (∀ post : Int32 → Prop, post (-2) → wpY_rowPlace post (fV, nI D, fA, fR, fp, nI n, sc, sy, ps) (nI a) x y z)) ∨
    ∃ k, k < 64 ∧ (∀ post : Int32 → Prop, post (nI (a * 64 + k)) → wpX_slotOfRow post (fV, nI D, fA, fR, nI n, fp, fr, sc, sx, an, lv, ps) (nI a) x y z) ∧ (∀ post : Int32 → Prop, post (nI (a * 64 + aj_pm (aj_sz (m a) 6) k)) → wpY_rowPlace post (fV, nI D, fA, fR, fp, nI n, sc, sy, ps) (nI a) x y z) := by
  obtain ⟨e, p0, p1, p2⟩ := hs a ha
  have h64 : m a < 64 := Nat.lt_of_lt_of_le p1 (aj_p2 hV)
  have hz := aj_sz_1 (m a) h64 p0
  have hat : sc (nI a).toNatClampNeg = nI (m a) := (aj_at sc (by omega)).trans e
  have hin : vp_in (nI a) 6 := pk_in a 6 (by omega)
  rcases aj_badOr D x with hx | ⟨i, hi, rfl⟩
  · left
    refine ⟨fun post hp => ⟨hin, ax_sizeOf hat h64 (ax_badV hD hx (br_f (by decide) hp))⟩, fun post hp => aj_bo (by omega) ha ⟨hin, ay_size hat h64 (aj_bb (by omega) hx hp)⟩⟩
  · by_cases s1 : aj_sz (m a) 6 = 1
    · right
      refine ⟨i, by omega, fun post hp => ⟨hin, ax_sizeOf hat h64 (ax_okV hD hi (br_t rfl ?_))⟩, fun post hp => aj_bo (by omega) ha ⟨hin, ay_size hat h64 (aj_bo (by omega) hi ?_)⟩⟩
      · rw [s1]
        refine br_t (by decide) (br_t (by decide) ?_)
        rw [aj_ix]
        exact hp
      · rw [s1] at hp ⊢
        rw [aj_pm1 i (by omega)] at hp
        refine br_t (by decide) (br_t (by decide) (br_t (by decide) ?_))
        rw [aj_ix]
        exact hp
    · rcases aj_badOr D y with hy | ⟨j, hj, rfl⟩
      · left
        refine ⟨fun post hp => ⟨hin, ax_sizeOf hat h64 (ax_okV hD hi (br_t rfl ?_))⟩, fun post hp => aj_bo (by omega) ha ⟨hin, ay_size hat h64 (aj_bo (by omega) hi ?_)⟩⟩
        · exact pk_le (aj_sz (m a) 6) 1 (fun q => absurd q (by omega)) (fun _ => ax_badV hD hy (br_f (by decide) hp))
        · exact pk_lt (aj_sz (m a) 6) 2 (fun q => absurd q (by omega)) (fun _ => aj_bb (by omega) hy hp)
      · by_cases s2 : aj_sz (m a) 6 = 2
        · right
          refine ⟨i + j * 4, by omega, fun post hp => ⟨hin, ax_sizeOf hat h64 (ax_okV hD hi (br_t rfl ?_))⟩, fun post hp => aj_bo (by omega) ha ⟨hin, ay_size hat h64 (aj_bo (by omega) hi ?_)⟩⟩
          · rw [s2]
            refine br_f (by decide) (ax_okV hD hj (br_t rfl (nm_r (aj_or2 i (by omega) j (by omega)) (br_t (by decide) ?_))))
            rw [aj_ix]
            exact hp
          · rw [s2] at hp ⊢
            rw [aj_pm2 i (by omega) j (by omega)] at hp
            refine br_f (by decide) (aj_bo (by omega) hj (br_t (by decide) (br_f (by decide) (br_t (by decide) ?_))))
            rw [show nI i * 4 = nI (i * 4) from pk_mul i 4, aj_ix, nI_add, Nat.add_assoc]
            exact hp
        · have s3 : aj_sz (m a) 6 = 3 := by omega
          rcases aj_badOr D z with hz' | ⟨l, hl, rfl⟩
          · left
            refine ⟨fun post hp => ⟨hin, ax_sizeOf hat h64 (ax_okV hD hi (br_t rfl ?_))⟩, fun post hp => aj_bo (by omega) ha ⟨hin, ay_size hat h64 (aj_bo (by omega) hi ?_)⟩⟩
            · rw [s3]
              exact br_f (by decide) (ax_okV hD hj (br_t rfl (nm_e (br_f (by decide) (ax_badV hD hz' (br_f (by decide) hp))))))
            · rw [s3]
              exact br_f (by decide) (aj_bo (by omega) hj (br_f (by decide) (aj_bb (by omega) hz' hp)))
          · right
            refine ⟨i + j * 4 + l * 16, by omega, fun post hp => ⟨hin, ax_sizeOf hat h64 (ax_okV hD hi (br_t rfl ?_))⟩, fun post hp => aj_bo (by omega) ha ⟨hin, ay_size hat h64 (aj_bo (by omega) hi ?_)⟩⟩
            · rw [s3]
              refine br_f (by decide) (ax_okV hD hj (br_t rfl (nm_r (aj_or2 i (by omega) j (by omega)) (br_f (by decide) (ax_okV hD hl (br_t rfl (nm_r (aj_or3 (i + j * 4) (by omega) l (by omega)) ?_)))))))
              rw [aj_ix]
              exact hp
            · rw [s3] at hp ⊢
              rw [aj_pm3 i (by omega) j (by omega) l (by omega)] at hp
              refine br_f (by decide) (aj_bo (by omega) hj (br_f (by decide) (aj_bo (by omega) hl (br_f (by decide) (br_f (by decide) ?_)))))
              rw [show nI i * 16 = nI (i * 16) from pk_mul i 16, show nI j * 4 = nI (j * 4) from pk_mul j 4, aj_ix, nI_add, nI_add, show a * 64 + i * 16 + j * 4 + l = a * 64 + (i * 16 + j * 4 + l) by omega]
              exact hp
/-! the cursors' step on both sides -/
theorem aj_fstE (an : Nat → Int32) : ∀ d F, F + d = 4096 → ∃ q, aj_fst an F q := by
  intro d
  induction d with
  | zero => exact fun F h => ⟨F, Nat.le_refl _, by omega, fun c h1 h2 => absurd h2 (by omega), fun z => absurd z (by omega)⟩
  | succ d ih =>
    intro F h
    by_cases z : an F = 0
    · obtain ⟨q, q1, q2, q3, q4⟩ := ih (F + 1) (by omega)
      refine ⟨q, by omega, q2, fun c h1 h2 => ?_, q4⟩
      by_cases e : c = F
      · rw [e, z]
      · exact q3 c (by omega) h2
    · exact ⟨F, Nat.le_refl _, by omega, fun c h1 h2 => absurd h2 (by omega), fun _ => z⟩
theorem aj_go {V i F : Nat} {x3 x4 : Int32} (h3 : 3 ≤ V) (hV : V ≤ 6) (hn : n ≤ 6) (hs : aj_scp m V n sc) (ht : aj_sto m n sx sy) (hp : aj_pos V ps) (hr : aj_rdA m n sx an 4096) (hi : i < 2) (hF : F ≤ 4096)
    (key : ∀ c, c < 4096 → aj_ans m n sx c → ((¬ nI c ≤ x3 ∧ (x3 = -1 ∨ ¬ (nI c >>> (x4 &&& 31)) = (x3 >>> (x4 &&& 31)))) ↔ F ≤ c)) :
    ∃ q, aj_pos V (upd ps i (nI q)) ∧ (∀ post : Int32 → SX → Prop, post (aj_out1 q) (fV, fD, fA, fR, nI n, fp, fr, sc, sx, an, lv, upd ps i (nI q)) → wpX_moveToAnswerFrom post (fV, fD, fA, fR, nI n, fp, fr, sc, sx, an, lv, ps) (nI i) (nI F)) ∧ (∀ post : Int32 → SY → Prop, post (aj_out1 q) (fV, fD, fA, fR, fp, nI n, sc, sy, upd ps i (nI q)) → ∃ n', wY_skip_62 post (nI i) x3 x4 fV fD fA fR fp (nI n) sc sy ps n' 0) := by
  obtain ⟨q, hq⟩ := aj_fstE an (4096 - F) F (by omega)
  have hmk := aj_msk_of hV hs
  refine ⟨q, fun j hj => ?_, fun post h => ax_move rfl hi hq h, fun post h => ?_⟩
  · by_cases e : j = i
    · subst e
      rw [pk_us]
      refine Or.inr ⟨q, hq.2.1, ?_, rfl⟩
      by_cases z : q < 4096
      · have hA : aj_ans m n sx q := Classical.byContradiction fun g => hq.2.2.2 z ((hr q z).mpr g)
        exact aj_unc_mod h3 hV (fun a ha => (hs a ha).2.2.1) hA.1
      · have : q = 4096 := by have := hq.2.1; omega
        subst this
        have e : V = 3 ∨ V = 4 ∨ V = 5 ∨ V = 6 := by omega
        rcases e with e | e | e | e <;> subst e <;> decide
    · rw [pk_un e]
      exact hp j hj
  · refine ay_skip hn hmk hi (fun c _ => Iff.rfl) hq.2.1 (fun c hc H => ?_) (fun z => ?_) h
    · have hA := (aj_ansXY hs ht c).mpr H.2
      have hc' : c < 4096 := by have := hq.2.1; omega
      exact (hr c hc').mp (hq.2.2.1 c ((key c hc' hA).mp H.1) hc) hA
    · have hA : aj_ans m n sx q := Classical.byContradiction fun g => hq.2.2.2 z ((hr q z).mpr g)
      exact ⟨(key q z hA).mpr hq.1, (aj_ansXY hs ht q).mp hA⟩
/-- the keys: from the start; with a variable w; one further -/
theorem aj_key0 {c : Nat} {x4 : Int32} (hc : c < 4096) : (¬ nI c ≤ -1 ∧ ((-1 : Int32) = -1 ∨ ¬ (nI c >>> (x4 &&& 31)) = ((-1 : Int32) >>> (x4 &&& 31)))) ↔ 0 ≤ c := by
  refine ⟨fun _ => Nat.zero_le c, fun _ => ⟨fun z => ?_, Or.inl rfl⟩⟩
  have := Int32.le_trans (nI_pos' (show c < 2 ^ 31 by omega)) z
  exact absurd this (by decide)
theorem aj_keyP {c p w : Nat} (hc : c < 4096) (hp : p < 4096) (hw : w < 6) : (¬ nI c ≤ nI p ∧ (nI p = -1 ∨ ¬ (nI c >>> ((10 : Int32) - 2 * nI w &&& 31)) = (nI p >>> ((10 : Int32) - 2 * nI w &&& 31)))) ↔ p / 2 ^ (10 - 2 * w) < c / 2 ^ (10 - 2 * w) := by
  have hd1 := Nat.div_le_self c (2 ^ (10 - 2 * w))
  have hd2 := Nat.div_le_self p (2 ^ (10 - 2 * w))
  rw [pk_shrN (by omega) _ _ (aj_shd w hw), pk_shrN (by omega) _ _ (aj_shd w hw), nI_eq (by omega) (by omega), nI_leI (by omega) (by omega)]
  constructor
  · rintro ⟨h1, h2⟩
    rcases h2 with h2 | h2
    · exact absurd h2 (aj_nm1 (by omega))
    · have := Nat.div_le_div_right (c := 2 ^ (10 - 2 * w)) (show p ≤ c by omega)
      omega
  · intro h
    refine ⟨fun z => ?_, Or.inr (by omega)⟩
    have := Nat.div_le_div_right (c := 2 ^ (10 - 2 * w)) z
    omega
theorem aj_keyS {c p w : Nat} (hc : c < 4096) (hp : p < 4096) (hw : w < 6) : (¬ nI c ≤ nI p ∧ (nI p = -1 ∨ ¬ (nI c >>> ((10 : Int32) - 2 * nI w &&& 31)) = (nI p >>> ((10 : Int32) - 2 * nI w &&& 31)))) ↔ (p / 2 ^ (10 - 2 * w) + 1) * 2 ^ (10 - 2 * w) ≤ c := by
  rw [aj_keyP hc hp hw, ← Nat.le_div_iff_mul_le (Nat.two_pow_pos _)]
  exact Iff.rfl
theorem aj_keyN {c p V : Nat} (h3 : 3 ≤ V) (h6 : V ≤ 6) (hc : c < 4096) (hp : p < 4096) (mc : c % 2 ^ (12 - 2 * V) = 0) (mp : p % 2 ^ (12 - 2 * V) = 0) : (¬ nI c ≤ nI p ∧ (nI p = -1 ∨ ¬ (nI c >>> ((10 : Int32) - 2 * nI (V - 1) &&& 31)) = (nI p >>> ((10 : Int32) - 2 * nI (V - 1) &&& 31)))) ↔ p + 1 ≤ c := by
  rw [aj_keyP hc hp (show V - 1 < 6 by omega)]
  have e : V = 3 ∨ V = 4 ∨ V = 5 ∨ V = 6 := by omega
  rcases e with e | e | e | e <;> subst e <;> simp only [Nat.reduceSub, Nat.reduceMul, Nat.reducePow] at mc mp ⊢ <;> omega
theorem aj_sk : ∀ p, p < 4096 → ∀ w, w < 6 → (p / 2 ^ (10 - 2 * w) + 1) * 2 ^ (10 - 2 * w) ≤ 4096 := by
  intro p hp w hw
  have e : w = 0 ∨ w = 1 ∨ w = 2 ∨ w = 3 ∨ w = 4 ∨ w = 5 := by omega
  rcases e with e | e | e | e | e | e <;> subst e <;> simp only [Nat.reduceSub, Nat.reduceMul, Nat.reducePow] <;> omega
theorem aj_skF {p w : Nat} (hp : p < 4096) (hw : w < 6) : ((nI p >>> ((10 : Int32) - nI w * 2 &&& 31)) + 1) <<< ((10 : Int32) - nI w * 2 &&& 31) = nI ((p / 2 ^ (10 - 2 * w) + 1) * 2 ^ (10 - 2 * w)) := by
  have := aj_sk p hp w hw
  rw [pk_shrN (by omega) _ _ (aj_shc w hw), nI_1, pk_shlN _ _ (aj_shc w hw) (by omega)]
end
end
section
theorem aj_shV : ∀ V, V < 7 → (1 : Int32) <<< (nI V &&& 31) = nI (2 ^ V) := by decide +kernel
theorem i_vc_addAtom {k : Nat} {u : SX} {v : SY} (I : i_Rel k u v) (hk : k + 5 ≤ 2564) (v1 : Int32) : wpX_addAtom (fun r u' => wpY_addAtom (fun r' v' => r' = r ∧ i_Rel (k + 5) u' v') v v1) u v1 := by
  obtain ⟨V, D, AL, n, ph, m, fR, rs, sc, sx, an, lv, ps, sy, rfl, rfl, hI⟩ := I
  have R : i_Rel (k + 5) (nI V, nI D, nI AL, fR, nI n, nI ph, rs, sc, sx, an, lv, ps) (nI V, nI D, nI AL, fR, nI ph, nI n, sc, sy, ps) := ⟨V, D, AL, n, ph, m, fR, rs, sc, sx, an, lv, ps, sy, rfl, rfl, hI⟩
  obtain ⟨⟨b1, b2, b3, b4, b5, b6⟩, hs, ht, hp, hr, hK⟩ := hI
  by_cases hph : ph = 0
  · subst hph
    refine br_t rfl ?_
    have hV := aj_p2 b2
    rcases aj_dec v1 with hx | ⟨s, hs31, rfl⟩
    · have h1 : v1 < 1 := by
        refine Int32.not_le.mp fun z => ?_
        exact Int32.not_lt.mpr (Int32.le_trans (by decide) z) hx
      exact br_t h1 (br_f (by decide) (br_t rfl (br_t h1 ⟨rfl, R⟩)))
    · by_cases h1 : s < 1
      · have h1' : nI s < 1 := nI_lt (b := 1) h1 (by decide)
        exact br_t h1' (br_f (by decide) (br_t rfl (br_t h1' ⟨rfl, R⟩)))
      · have h1' : ¬ nI s < 1 := nI_nlt (b := 1) (by omega) hs31
        by_cases h2 : 2 ^ V ≤ s
        · have h2' : (1 : Int32) <<< (nI V &&& 31) ≤ nI s := by
            rw [aj_shV V (by omega)]
            exact nI_le h2 hs31
          exact br_f h1' (br_t h2' (br_f (by decide) (br_t rfl (br_f h1' (br_t h2' ⟨rfl, R⟩)))))
        · have h2' : ¬ (1 : Int32) <<< (nI V &&& 31) ≤ nI s := by
            rw [aj_shV V (by omega)]
            exact nI_ge (by omega) (by omega)
          have hs64 : s < 64 := by omega
          refine br_f h1' (br_f h2' (ax_sizeOf rfl hs64 ?_))
          have hz := aj_sz_le s 6
          by_cases h3 : aj_sz s 6 ≤ 3
          · refine br_t (nI_le (b := 3) h3 (by decide)) (br_t rfl ?_)
            by_cases h4 : n < AL
            · refine br_t (nI_lt h4 (by omega)) ⟨pk_in n 6 (by omega), nm_r (by rw [nI_clamp (show n < 2 ^ 31 by omega)]) (nm_r (nI_1 n) (br_t rfl (br_f h1' (br_f h2' (ay_size rfl hs64 (br_t (nI_le (b := 3) h3 (by decide)) (br_t (nI_lt h4 (by omega)) ⟨pk_in n 6 (by omega), nm_r (by rw [nI_clamp (show n < 2 ^ 31 by omega)]) (nm_r (nI_1 n) ⟨nI_pred n, ?_⟩)⟩)))))))⟩
              exact ⟨V, D, AL, n + 1, 0, aj_mk m n s, fR, rs, upd sc n (nI s), sx, an, lv, ps, sy, rfl, rfl, ⟨b1, b2, b3, b4, by omega, b6⟩, aj_scp_add hs (by omega) (by omega) (by omega), aj_sto_add ht (by omega), hp, fun z => absurd z (by decide), fun z => absurd rfl z⟩
            · have h4' : ¬ nI n < nI AL := nI_nlt (by omega) (by omega)
              exact br_f h4' (br_t rfl (br_f h1' (br_f h2' (ay_size rfl hs64 (br_t (nI_le (b := 3) h3 (by decide)) (br_f h4' ⟨rfl, R⟩))))))
          · have h3' : ¬ nI (aj_sz s 6) ≤ 3 := nI_ge (a := 3) (by omega) (by omega)
            exact br_f h3' (br_f (by decide) (br_t rfl (br_f h1' (br_f h2' (ay_size rfl hs64 (br_f h3' ⟨rfl, R⟩))))))
  · have h0 := aj_n0 hph (show ph < 2 ^ 31 by omega)
    exact br_f h0 (br_f h0 ⟨rfl, R⟩)
theorem i_vc_addRow {k : Nat} {u : SX} {v : SY} (I : i_Rel k u v) (hk : k + 5 ≤ 2564) (v1 : Int32) (v2 : Int32) (v3 : Int32) (v4 : Int32) : wpX_addRow (fun r u' => wpY_addRow (fun r' v' => r' = r ∧ i_Rel (k + 5) u' v') v v1 v2 v3 v4) u v1 v2 v3 v4 := by
  obtain ⟨V, D, AL, n, ph, m, fR, rs, sc, sx, an, lv, ps, sy, rfl, rfl, hI⟩ := I
  have R : i_Rel (k + 5) (nI V, nI D, nI AL, fR, nI n, nI ph, rs, sc, sx, an, lv, ps) (nI V, nI D, nI AL, fR, nI ph, nI n, sc, sy, ps) := ⟨V, D, AL, n, ph, m, fR, rs, sc, sx, an, lv, ps, sy, rfl, rfl, hI⟩
  obtain ⟨⟨b1, b2, b3, b4, b5, b6⟩, hs, ht, hp, hr, hK⟩ := hI
  have hn : n ≤ 6 := by omega
  by_cases hph : ph = 0
  · subst hph
    refine br_t rfl ?_
    rcases aj_badOr n v1 with hx | ⟨a, ha, rfl⟩
    · exact ax_badA hn hx (br_f (by decide) (br_t rfl (aj_bb (by omega) hx (br_f (by decide) ⟨rfl, R⟩))))
    · refine ax_okA hn ha (br_t rfl ?_)
      rcases aj_slot (sy := sy) b2 hn b3 hs ha v2 v3 v4 with ⟨hX, hY⟩ | ⟨q, hq, hX, hY⟩
      · exact hX _ (br_t rfl (br_t rfl (hY _ (br_f (by decide) ⟨rfl, R⟩))))
      · refine hX _ (br_f (aj_nm1 (by omega)) ⟨pk_in (a * 64 + q) 384 (by omega), ?_⟩)
        have hpm := (aj_pm_in _ (hs a ha).2.2.2 q hq).1
        have e := ht.1 a ha q hq
        rw [aj_at sx (show a * 64 + q < 2 ^ 31 by omega)]
        have hge : (0 : Int32) ≤ nI (a * 64 + aj_pm (aj_sz (m a) 6) q) := nI_pos' (by omega)
        have hin : vp_in (nI (a * 64 + aj_pm (aj_sz (m a) 6) q)) 384 := pk_in (a * 64 + aj_pm (aj_sz (m a) 6) q) 384 (by omega)
        by_cases z : sx (a * 64 + q) = 0
        · have z' : sy (nI (a * 64 + aj_pm (aj_sz (m a) 6) q)).toNatClampNeg = 0 := by rw [aj_at sy (by omega), ← e, z]
          refine br_t z (ax_rowsS (by omega) ?_)
          have ec := aj_sto_cn hs ht ha
          by_cases c : nI (aj_cn (fun i => sx (a * 64 + i)) 64) < fR
          · refine br_t c ⟨pk_in (a * 64 + q) 384 (by omega), nm_r (e' := upd sx (a * 64 + q) 1) (by rw [nI_clamp (show a * 64 + q < 2 ^ 31 by omega), aj_nb.1]) (br_t rfl (hY _ (br_t hge ⟨hin, br_t z' (ay_rows (by omega) (br_t (by rw [← ec]; exact c) ⟨hin, nm_r (e' := upd sy (a * 64 + aj_pm (aj_sz (m a) 6) q) 1) (by rw [nI_clamp (show a * 64 + aj_pm (aj_sz (m a) 6) q < 2 ^ 31 by omega), aj_nb.1]) ⟨rfl, ?_⟩⟩))⟩)))⟩
            exact ⟨V, D, AL, n, 0, m, fR, rs, sc, upd sx (a * 64 + q) 1, an, lv, ps, upd sy (a * 64 + aj_pm (aj_sz (m a) 6) q) 1, rfl, rfl, ⟨b1, b2, b3, b4, b5, b6⟩, hs, aj_sto_upd 1 hs ht ha hq, hp, fun z => absurd z (by decide), fun z => absurd rfl z⟩
          · exact br_f c (br_t rfl (hY _ (br_t hge ⟨hin, br_t z' (ay_rows (by omega) (br_f (by rw [← ec]; exact c) ⟨rfl, R⟩))⟩)))
        · have z' : ¬ sy (nI (a * 64 + aj_pm (aj_sz (m a) 6) q)).toNatClampNeg = 0 := by rw [aj_at sy (by omega), ← e]; exact z
          exact br_f z (br_t rfl (hY _ (br_t hge ⟨hin, br_f z' ⟨rfl, R⟩⟩)))
  · have h0 := aj_n0 hph (show ph < 2 ^ 31 by omega)
    exact br_f h0 (br_f h0 ⟨rfl, R⟩)
theorem i_vc_dropRow {k : Nat} {u : SX} {v : SY} (I : i_Rel k u v) (hk : k + 5 ≤ 2564) (v1 : Int32) (v2 : Int32) (v3 : Int32) (v4 : Int32) : wpX_dropRow (fun r u' => wpY_dropRow (fun r' v' => r' = r ∧ i_Rel (k + 5) u' v') v v1 v2 v3 v4) u v1 v2 v3 v4 := by
  obtain ⟨V, D, AL, n, ph, m, fR, rs, sc, sx, an, lv, ps, sy, rfl, rfl, hI⟩ := I
  have R : i_Rel (k + 5) (nI V, nI D, nI AL, fR, nI n, nI ph, rs, sc, sx, an, lv, ps) (nI V, nI D, nI AL, fR, nI ph, nI n, sc, sy, ps) := ⟨V, D, AL, n, ph, m, fR, rs, sc, sx, an, lv, ps, sy, rfl, rfl, hI⟩
  obtain ⟨⟨b1, b2, b3, b4, b5, b6⟩, hs, ht, hp, hr, hK⟩ := hI
  have hn : n ≤ 6 := by omega
  by_cases hph : ph = 0
  · subst hph
    refine br_t rfl ?_
    rcases aj_badOr n v1 with hx | ⟨a, ha, rfl⟩
    · exact ax_badA hn hx (br_f (by decide) (br_t rfl (aj_bb (by omega) hx (br_f (by decide) ⟨rfl, R⟩))))
    · refine ax_okA hn ha (br_t rfl ?_)
      rcases aj_slot (sy := sy) b2 hn b3 hs ha v2 v3 v4 with ⟨hX, hY⟩ | ⟨q, hq, hX, hY⟩
      · exact hX _ (br_t rfl (br_t rfl (hY _ (br_f (by decide) ⟨rfl, R⟩))))
      · refine hX _ (br_f (aj_nm1 (by omega)) ⟨pk_in (a * 64 + q) 384 (by omega), ?_⟩)
        have hpm := (aj_pm_in _ (hs a ha).2.2.2 q hq).1
        have e := ht.1 a ha q hq
        rw [aj_at sx (show a * 64 + q < 2 ^ 31 by omega)]
        have hge : (0 : Int32) ≤ nI (a * 64 + aj_pm (aj_sz (m a) 6) q) := nI_pos' (by omega)
        have hin : vp_in (nI (a * 64 + aj_pm (aj_sz (m a) 6) q)) 384 := pk_in (a * 64 + aj_pm (aj_sz (m a) 6) q) 384 (by omega)
        by_cases z : sx (a * 64 + q) = 0
        · have z' : sy (nI (a * 64 + aj_pm (aj_sz (m a) 6) q)).toNatClampNeg = 0 := by rw [aj_at sy (by omega), ← e, z]
          exact br_t z (br_t rfl (hY _ (br_t hge ⟨hin, br_t z' ⟨rfl, R⟩⟩)))
        · have z' : ¬ sy (nI (a * 64 + aj_pm (aj_sz (m a) 6) q)).toNatClampNeg = 0 := by rw [aj_at sy (by omega), ← e]; exact z
          refine br_f z ⟨pk_in (a * 64 + q) 384 (by omega), nm_r (e' := upd sx (a * 64 + q) 0) (by rw [nI_clamp (show a * 64 + q < 2 ^ 31 by omega), aj_nb.2]) (br_t rfl (hY _ (br_t hge ⟨hin, br_f z' ⟨hin, nm_r (e' := upd sy (a * 64 + aj_pm (aj_sz (m a) 6) q) 0) (by rw [nI_clamp (show a * 64 + aj_pm (aj_sz (m a) 6) q < 2 ^ 31 by omega), aj_nb.2]) ⟨rfl, ?_⟩⟩⟩)))⟩
          exact ⟨V, D, AL, n, 0, m, fR, rs, sc, upd sx (a * 64 + q) 0, an, lv, ps, upd sy (a * 64 + aj_pm (aj_sz (m a) 6) q) 0, rfl, rfl, ⟨b1, b2, b3, b4, b5, b6⟩, hs, aj_sto_upd 0 hs ht ha hq, hp, fun z => absurd z (by decide), fun z => absurd rfl z⟩
  · have h0 := aj_n0 hph (show ph < 2 ^ 31 by omega)
    exact br_f h0 (br_f h0 ⟨rfl, R⟩)
theorem aj_pos0 {V : Nat} {ps : Nat → Int32} : aj_pos V (upd (upd ps 0 (-1)) 1 (-1)) := by
  intro i hi
  have e : i = 0 ∨ i = 1 := by omega
  rcases e with e | e <;> subst e <;> exact Or.inl rfl
theorem i_vc_compile {k : Nat} {u : SX} {v : SY} (I : i_Rel k u v) (hk : k + 5 ≤ 2564) : wpX_compile (fun r u' => wpY_compile (fun r' v' => r' = r ∧ i_Rel (k + 5) u' v') v) u := by
  obtain ⟨V, D, AL, n, ph, m, fR, rs, sc, sx, an, lv, ps, sy, rfl, rfl, hI⟩ := I
  have R : i_Rel (k + 5) (nI V, nI D, nI AL, fR, nI n, nI ph, rs, sc, sx, an, lv, ps) (nI V, nI D, nI AL, fR, nI ph, nI n, sc, sy, ps) := ⟨V, D, AL, n, ph, m, fR, rs, sc, sx, an, lv, ps, sy, rfl, rfl, hI⟩
  obtain ⟨⟨b1, b2, b3, b4, b5, b6⟩, hs, ht, hp, hr, hK⟩ := hI
  have hn : n ≤ 6 := by omega
  have hm := aj_msk_of b2 hs
  by_cases hph : ph = 0
  · subst hph
    refine br_t rfl ?_
    by_cases hz : n = 0
    · subst hz
      exact br_t rfl (br_t rfl (br_t rfl ⟨rfl, R⟩))
    · have hz' := aj_n0 hz (show n < 2 ^ 31 by omega)
      refine br_f hz' (ax_put (ax_cov hn hm (ax_residue hn hm fun K hres => ?_)))
      have h64 := hres.1.1
      refine pk_eq K 0 (fun e => ?_) (fun e => ?_)
      · subst e
        refine ax_find hn hm fun a1 l1 hA hL => br_t rfl (br_f hz' (nm_e (nm_e (ay_resMask hn hm hres (br_t rfl ⟨rfl, ?_⟩)))))
        exact ⟨V, D, AL, n, 1, m, fR, nI 0, sc, sx, a1, l1, upd (upd ps 0 (-1)) 1 (-1), sy, rfl, rfl, ⟨b1, b2, b3, b4, b5, by omega⟩, hs, ht, aj_pos0, fun _ => ⟨hA, hL⟩, fun _ => ⟨0, hres, rfl⟩⟩
      · have e' := aj_n0 e (show K < 2 ^ 31 by omega)
        refine br_t rfl (br_f hz' (nm_e (nm_e (ay_resMask hn hm hres (br_f e' ⟨rfl, ?_⟩)))))
        exact ⟨V, D, AL, n, 2, m, fR, nI K, sc, sx, an, lv, upd (upd ps 0 (-1)) 1 (-1), sy, rfl, rfl, ⟨b1, b2, b3, b4, b5, by omega⟩, hs, ht, aj_pos0, fun z => absurd z (by decide), fun _ => ⟨K, hres, rfl⟩⟩
  · have h0 := aj_n0 hph (show ph < 2 ^ 31 by omega)
    exact br_f h0 (br_f h0 ⟨rfl, R⟩)
theorem i_vc_reopen {k : Nat} {u : SX} {v : SY} (I : i_Rel k u v) (hk : k + 5 ≤ 2564) : wpX_reopen (fun r u' => wpY_reopen (fun r' v' => r' = r ∧ i_Rel (k + 5) u' v') v) u := by
  obtain ⟨V, D, AL, n, ph, m, fR, rs, sc, sx, an, lv, ps, sy, rfl, rfl, hI⟩ := I
  have R : i_Rel (k + 5) (nI V, nI D, nI AL, fR, nI n, nI ph, rs, sc, sx, an, lv, ps) (nI V, nI D, nI AL, fR, nI ph, nI n, sc, sy, ps) := ⟨V, D, AL, n, ph, m, fR, rs, sc, sx, an, lv, ps, sy, rfl, rfl, hI⟩
  obtain ⟨⟨b1, b2, b3, b4, b5, b6⟩, hs, ht, hp, hr, hK⟩ := hI
  by_cases hph : nI ph = 0
  · exact br_t hph (br_t hph ⟨rfl, R⟩)
  · exact br_f hph (br_f hph ⟨rfl, V, D, AL, n, 0, m, fR, rs, sc, sx, an, lv, ps, sy, rfl, rfl, ⟨b1, b2, b3, b4, b5, by omega⟩, hs, ht, hp, fun z => absurd z (by decide), fun z => absurd rfl z⟩)
theorem i_vc_phase {k : Nat} {u : SX} {v : SY} (I : i_Rel k u v) (hk : k + 5 ≤ 2564) : wpX_phase (fun r => wpY_phase (fun r' => r' = r ∧ i_Rel (k + 5) u v) v) u := by
  obtain ⟨V, D, AL, n, ph, m, fR, rs, sc, sx, an, lv, ps, sy, rfl, rfl, hI⟩ := I
  exact ⟨rfl, V, D, AL, n, ph, m, fR, rs, sc, sx, an, lv, ps, sy, rfl, rfl, hI⟩
theorem i_vc_scope {k : Nat} {u : SX} {v : SY} (I : i_Rel k u v) (hk : k + 5 ≤ 2564) (v1 : Int32) : wpX_scope (fun r => wpY_scope (fun r' => r' = r ∧ i_Rel (k + 5) u v) v v1) u v1 := by
  obtain ⟨V, D, AL, n, ph, m, fR, rs, sc, sx, an, lv, ps, sy, rfl, rfl, hI⟩ := I
  have R : i_Rel (k + 5) (nI V, nI D, nI AL, fR, nI n, nI ph, rs, sc, sx, an, lv, ps) (nI V, nI D, nI AL, fR, nI ph, nI n, sc, sy, ps) := ⟨V, D, AL, n, ph, m, fR, rs, sc, sx, an, lv, ps, sy, rfl, rfl, hI⟩
  obtain ⟨⟨b1, b2, b3, b4, b5, b6⟩, hs, ht, hp, hr, hK⟩ := hI
  have hn : n ≤ 6 := by omega
  unfold wpX_scope
  dsimp only
  rcases aj_badOr n v1 with hx | ⟨a, ha, rfl⟩
  · exact ax_badA hn hx (br_f (by decide) (aj_bb (by omega) hx ⟨rfl, R⟩))
  · exact ax_okA hn ha (br_t rfl ⟨pk_in a 6 (by omega), aj_bo (by omega) ha ⟨pk_in a 6 (by omega), rfl, R⟩⟩)
theorem i_vc_residue {k : Nat} {u : SX} {v : SY} (I : i_Rel k u v) (hk : k + 5 ≤ 2564) : wpX_residue (fun r => wpY_residue (fun r' => r' = r ∧ i_Rel (k + 5) u v) v) u := by
  obtain ⟨V, D, AL, n, ph, m, fR, rs, sc, sx, an, lv, ps, sy, rfl, rfl, hI⟩ := I
  have R : i_Rel (k + 5) (nI V, nI D, nI AL, fR, nI n, nI ph, rs, sc, sx, an, lv, ps) (nI V, nI D, nI AL, fR, nI ph, nI n, sc, sy, ps) := ⟨V, D, AL, n, ph, m, fR, rs, sc, sx, an, lv, ps, sy, rfl, rfl, hI⟩
  obtain ⟨⟨b1, b2, b3, b4, b5, b6⟩, hs, ht, hp, hr, hK⟩ := hI
  have hn : n ≤ 6 := by omega
  by_cases hph : ph = 0
  · subst hph
    exact br_t rfl (br_t rfl ⟨rfl, R⟩)
  · have h0 := aj_n0 hph (show ph < 2 ^ 31 by omega)
    obtain ⟨K, hres, rfl⟩ := hK hph
    exact br_f h0 (br_f h0 (ay_resMask hn (aj_msk_of b2 hs) hres ⟨rfl, R⟩))
theorem aj_resOf {fV fD fA fR fp rs : Int32} {sc sx an lv ps sy : Nat → Int32} {n a : Nat} {part : Int32} (hn : n ≤ 6) : ∀ d j : Nat, j + d = n → ∃ r : Int32, (∀ post : Int32 → Prop, post r → wX_residueOf_34 post (nI a) part fV fD fA fR (nI n) fp rs sc sx an lv ps (d + 1) (nI j)) ∧ (∀ post : Int32 → Prop, post r → wY_residueOf_41 post (nI a) rs part fV fD fA fR fp (nI n) sc sy ps (d + 1) (nI j)) := by
  intro d
  induction d with
  | zero =>
    intro j hj
    have h : nI n ≤ nI j := nI_le (by omega) (by omega)
    exact ⟨part, fun _ hp => br_t h hp, fun _ hp => br_t h hp⟩
  | succ d ih =>
    intro j hj
    have h : ¬ nI n ≤ nI j := nI_ge (by omega) (by omega)
    have hi : vp_in (nI j) 6 := pk_in j 6 (by omega)
    obtain ⟨r, hX, hY⟩ := ih (j + 1) (by omega)
    by_cases c1 : (sc (nI j).toNatClampNeg &&& rs) &&& part = part
    · by_cases c2 : sc (nI j).toNatClampNeg &&& rs = part
      · by_cases c3 : nI a ≤ nI j
        · exact ⟨r, fun post hp => br_f h ⟨hi, nm_e (br_t c1 (br_f (by decide) (br_t c2 (br_t c3 (nm_r (nI_1 j) (hX post hp))))))⟩, fun post hp => br_f h ⟨hi, nm_e (br_t c1 (br_t c2 (br_t c3 (nm_r (nI_1 j) (hY post hp)))))⟩⟩
        · exact ⟨0, fun post hp => br_f h ⟨hi, nm_e (br_t c1 (br_f (by decide) (br_t c2 (br_f c3 hp))))⟩, fun post hp => br_f h ⟨hi, nm_e (br_t c1 (br_t c2 (br_f c3 (br_t c2 hp))))⟩⟩
      · exact ⟨0, fun post hp => br_f h ⟨hi, nm_e (br_t c1 (br_f (by decide) (br_f c2 hp)))⟩, fun post hp => br_f h ⟨hi, nm_e (br_t c1 (br_f c2 hp))⟩⟩
    · have c2 : ¬ sc (nI j).toNatClampNeg &&& rs = part := fun e => c1 (by rw [e, Int32.and_self])
      by_cases c3 : nI a ≤ nI j
      · exact ⟨r, fun post hp => br_f h ⟨hi, nm_e (br_f c1 (br_t rfl (nm_r (nI_1 j) (hX post hp))))⟩, fun post hp => br_f h ⟨hi, nm_e (br_f c1 (br_t c3 (nm_r (nI_1 j) (hY post hp))))⟩⟩
      · exact ⟨r, fun post hp => br_f h ⟨hi, nm_e (br_f c1 (br_t rfl (nm_r (nI_1 j) (hX post hp))))⟩, fun post hp => br_f h ⟨hi, nm_e (br_f c1 (br_f c3 (br_f c2 (nm_r (nI_1 j) (hY post hp)))))⟩⟩
theorem i_vc_residueOf {k : Nat} {u : SX} {v : SY} (I : i_Rel k u v) (hk : k + 5 ≤ 2564) (v1 : Int32) : wpX_residueOf (fun r => wpY_residueOf (fun r' => r' = r ∧ i_Rel (k + 5) u v) v v1) u v1 := by
  obtain ⟨V, D, AL, n, ph, m, fR, rs, sc, sx, an, lv, ps, sy, rfl, rfl, hI⟩ := I
  have R : i_Rel (k + 5) (nI V, nI D, nI AL, fR, nI n, nI ph, rs, sc, sx, an, lv, ps) (nI V, nI D, nI AL, fR, nI ph, nI n, sc, sy, ps) := ⟨V, D, AL, n, ph, m, fR, rs, sc, sx, an, lv, ps, sy, rfl, rfl, hI⟩
  obtain ⟨⟨b1, b2, b3, b4, b5, b6⟩, hs, ht, hp, hr, hK⟩ := hI
  have hn : n ≤ 6 := by omega
  by_cases hph : ph = 0
  · subst hph
    exact br_t rfl (br_t rfl ⟨rfl, R⟩)
  · have h0 := aj_n0 hph (show ph < 2 ^ 31 by omega)
    obtain ⟨K, hres, rfl⟩ := hK hph
    rcases aj_badOr n v1 with hx | ⟨a, ha, rfl⟩
    · exact br_f h0 (ax_badA hn hx (br_f (by decide) (br_f h0 (aj_bb (by omega) hx ⟨rfl, R⟩))))
    · obtain ⟨r, hX, hY⟩ := aj_resOf (fV := nI V) (fD := nI D) (fA := nI AL) (fR := fR) (fp := nI ph) (rs := nI K) (sc := sc) (sx := sx) (an := an) (lv := lv) (ps := ps) (sy := sy) (a := a) (part := sc (nI a).toNatClampNeg &&& nI K) hn n 0 (by omega)
      exact br_f h0 (ax_okA hn ha (br_t rfl ⟨pk_in a 6 (by omega), nm_e ⟨_, hX _ (br_f h0 (aj_bo (by omega) ha (ay_resMask hn (aj_msk_of b2 hs) hres ⟨pk_in a 6 (by omega), nm_e ⟨_, hY _ ⟨rfl, R⟩⟩⟩)))⟩⟩))
end
section
theorem aj_liveXY {m : Nat → Nat} {V n a q : Nat} {sc sx sy : Nat → Int32} (hs : aj_scp m V n sc) (ht : aj_sto m n sx sy) (ha : a < n) (hq : q < 64) : (∃ c, c < 4096 ∧ aj_ans m n sx c ∧ aj_kx (m a) c 6 = q) ↔ ∃ c, c < 4096 ∧ aj_anY m n sy c ∧ aj_ky (m a) c 6 = aj_pm (aj_sz (m a) 6) q := by
  have h4 := (hs a ha).2.2.2
  constructor
  · intro ⟨c, hc, h1, h2⟩
    exact ⟨c, hc, (aj_ansXY hs ht c).mp h1, by rw [aj_ky_pm, h2]⟩
  · intro ⟨c, hc, h1, h2⟩
    rw [aj_ky_pm] at h2
    exact ⟨c, hc, (aj_ansXY hs ht c).mpr h1, aj_pm_inj h4 (aj_kx_64 h4) hq h2⟩
theorem i_vc_rowState {k : Nat} {u : SX} {v : SY} (I : i_Rel k u v) (hk : k + 5 ≤ 2564) (v1 : Int32) (v2 : Int32) (v3 : Int32) (v4 : Int32) : wpX_rowState (fun r => wpY_rowState (fun r' => r' = r ∧ i_Rel (k + 5) u v) v v1 v2 v3 v4) u v1 v2 v3 v4 := by
  obtain ⟨V, D, AL, n, ph, m, fR, rs, sc, sx, an, lv, ps, sy, rfl, rfl, hI⟩ := I
  have R : i_Rel (k + 5) (nI V, nI D, nI AL, fR, nI n, nI ph, rs, sc, sx, an, lv, ps) (nI V, nI D, nI AL, fR, nI ph, nI n, sc, sy, ps) := ⟨V, D, AL, n, ph, m, fR, rs, sc, sx, an, lv, ps, sy, rfl, rfl, hI⟩
  obtain ⟨⟨b1, b2, b3, b4, b5, b6⟩, hs, ht, hp, hr, hK⟩ := hI
  have hn : n ≤ 6 := by omega
  unfold wpX_rowState wpY_rowState
  dsimp only
  rcases aj_badOr n v1 with hx | ⟨a, ha, rfl⟩
  · exact ax_badA hn hx (br_f (by decide) (aj_bb (by omega) hx (br_f (by decide) ⟨rfl, R⟩)))
  · refine ax_okA hn ha (br_t rfl ?_)
    rcases aj_slot (sy := sy) b2 hn b3 hs ha v2 v3 v4 with ⟨hX, hY⟩ | ⟨q, hq, hX, hY⟩
    · exact hX _ (br_t rfl (hY _ (br_f (by decide) ⟨rfl, R⟩)))
    · have hin0 : vp_in (nI (a * 64 + q)) 384 := pk_in (a * 64 + q) 384 (by omega)
      refine hX _ (br_f (aj_nm1 (by omega)) ⟨hin0, ?_⟩)
      have hpm := (aj_pm_in _ (hs a ha).2.2.2 q hq).1
      have e := ht.1 a ha q hq
      have hge : (0 : Int32) ≤ nI (a * 64 + aj_pm (aj_sz (m a) 6) q) := nI_pos' (by omega)
      have hin : vp_in (nI (a * 64 + aj_pm (aj_sz (m a) 6) q)) 384 := pk_in (a * 64 + aj_pm (aj_sz (m a) 6) q) 384 (by omega)
      rw [aj_at sx (show a * 64 + q < 2 ^ 31 by omega), aj_at lv (show a * 64 + q < 2 ^ 31 by omega)]
      by_cases z : sx (a * 64 + q) = 0
      · have z' : sy (nI (a * 64 + aj_pm (aj_sz (m a) 6) q)).toNatClampNeg = 0 := by rw [aj_at sy (by omega), ← e, z]
        exact br_t z (hY _ (br_t hge ⟨hin, br_t z' ⟨rfl, R⟩⟩))
      · have z' : ¬ sy (nI (a * 64 + aj_pm (aj_sz (m a) 6) q)).toNatClampNeg = 0 := by rw [aj_at sy (by omega), ← e]; exact z
        by_cases hph : ph = 1
        · subst hph
          have hL := (hr rfl).2 a ha q hq
          have hXY := aj_liveXY hs ht ha hq
          by_cases l : lv (a * 64 + q) = 0
          · exact br_f z (br_t rfl ⟨hin0, br_t l (hY _ (br_t hge ⟨hin, br_f z' (br_t rfl (ay_isLive hn (aj_msk_of b2 hs) ha hpm (fun H => absurd (hXY.mpr H) (hL.mp l)) (fun _ => br_t rfl ⟨rfl, R⟩)))⟩))⟩)
          · exact br_f z (br_t rfl ⟨hin0, br_f l (hY _ (br_t hge ⟨hin, br_f z' (br_t rfl (ay_isLive hn (aj_msk_of b2 hs) ha hpm (fun _ => br_f (by decide) ⟨rfl, R⟩) (fun H => absurd (hL.mpr fun G => H (hXY.mp G)) l)))⟩))⟩)
        · have h1 : ¬ nI ph = 1 := fun e => hph ((nI_eq (b := 1) (by omega) (by decide)).mp e)
          exact br_f z (br_f h1 (hY _ (br_t hge ⟨hin, br_f z' (br_f h1 ⟨rfl, R⟩)⟩)))
theorem aj_n1 {ph : Nat} (h : ph ≤ 2) (hph : ¬ ph = 1) : ¬ nI ph = 1 := fun e => hph ((nI_eq (b := 1) (by omega) (by decide)).mp e)
theorem i_vc_live {k : Nat} {u : SX} {v : SY} (I : i_Rel k u v) (hk : k + 5 ≤ 2564) (v1 : Int32) : wpX_live (fun r => wpY_live (fun r' => r' = r ∧ i_Rel (k + 5) u v) v v1) u v1 := by
  obtain ⟨V, D, AL, n, ph, m, fR, rs, sc, sx, an, lv, ps, sy, rfl, rfl, hI⟩ := I
  have R : i_Rel (k + 5) (nI V, nI D, nI AL, fR, nI n, nI ph, rs, sc, sx, an, lv, ps) (nI V, nI D, nI AL, fR, nI ph, nI n, sc, sy, ps) := ⟨V, D, AL, n, ph, m, fR, rs, sc, sx, an, lv, ps, sy, rfl, rfl, hI⟩
  obtain ⟨⟨b1, b2, b3, b4, b5, b6⟩, hs, ht, hp, hr, hK⟩ := hI
  have hn : n ≤ 6 := by omega
  by_cases hph : ph = 1
  · subst hph
    refine br_t rfl ?_
    rcases aj_badOr n v1 with hx | ⟨a, ha, rfl⟩
    · exact ax_badA hn hx (br_f (by decide) (br_t rfl (aj_bb (by omega) hx ⟨rfl, R⟩)))
    · have h4 := (hs a ha).2.2.2
      refine ax_okA hn ha (br_t rfl (ax_rowsL (by omega) (br_t rfl (aj_bo (by omega) ha (ay_live (g := fun p => lv (a * 64 + aj_pm (aj_sz (m a) 6) p)) hn (aj_msk_of b2 hs) ha (fun p hp' => ?_) ⟨?_, R⟩)))))
      · have hq := aj_pm_in _ h4 p hp'
        have h1 := (hr rfl).2 a ha _ hq.1
        have h2 := aj_liveXY hs ht ha hq.1
        rw [hq.2] at h2
        rw [h1, h2]
      · exact congrArg nI (aj_cn_pm (fun i => lv (a * 64 + i)) h4)
  · have h1 := aj_n1 b6 hph
    exact br_f h1 (br_f h1 ⟨rfl, R⟩)
theorem i_vc_count {k : Nat} {u : SX} {v : SY} (I : i_Rel k u v) (hk : k + 5 ≤ 2564) : wpX_count (fun r => wpY_count (fun r' => r' = r ∧ i_Rel (k + 5) u v) v) u := by
  obtain ⟨V, D, AL, n, ph, m, fR, rs, sc, sx, an, lv, ps, sy, rfl, rfl, hI⟩ := I
  have R : i_Rel (k + 5) (nI V, nI D, nI AL, fR, nI n, nI ph, rs, sc, sx, an, lv, ps) (nI V, nI D, nI AL, fR, nI ph, nI n, sc, sy, ps) := ⟨V, D, AL, n, ph, m, fR, rs, sc, sx, an, lv, ps, sy, rfl, rfl, hI⟩
  obtain ⟨⟨b1, b2, b3, b4, b5, b6⟩, hs, ht, hp, hr, hK⟩ := hI
  have hn : n ≤ 6 := by omega
  by_cases hph : ph = 1
  · subst hph
    exact br_t rfl (ax_count (br_t rfl (ay_count hn (aj_msk_of b2 hs) (fun c hc => by rw [(hr rfl).1 c hc, aj_ansXY hs ht]) ⟨rfl, R⟩)))
  · have h1 := aj_n1 b6 hph
    exact br_f h1 (br_f h1 ⟨rfl, R⟩)
/-- a cursor's argument on both sides -/
theorem aj_cur (x : Int32) : (x < 0 ∨ (¬ x < 0 ∧ ¬ x < 2 ∧ 1 < x ∧ ¬ x ≤ 1)) ∨ ∃ i : Nat, i < 2 ∧ x = nI i := by
  rcases aj_dec x with h | ⟨j, hj, rfl⟩
  · exact Or.inl (Or.inl h)
  · by_cases h : j < 2
    · exact Or.inr ⟨j, h, rfl⟩
    · exact Or.inl (Or.inr ⟨nI_pos hj, nI_nlt (b := 2) (by omega) hj, nI_lt (a := 1) (by omega) hj, nI_ge (a := 1) (by omega) hj⟩)
theorem ax_badC {post : Int32 → Prop} {x : Int32} (h : x < 0 ∨ (¬ x < 0 ∧ ¬ x < 2 ∧ 1 < x ∧ ¬ x ≤ 1)) (hp : post 1) : wpX_isBadCursor post x := by
  rcases h with h | ⟨h1, h2, _⟩
  · exact br_t h hp
  · exact br_f h1 (br_f h2 hp)
theorem ax_okC {post : Int32 → Prop} {i : Nat} (h : i < 2) (hp : post 0) : wpX_isBadCursor post (nI i) := br_f (nI_pos (by omega)) (br_t (nI_lt (b := 2) h (by decide)) hp)
theorem ay_badC {A B : Prop} {x : Int32} (h : x < 0 ∨ (¬ x < 0 ∧ ¬ x < 2 ∧ 1 < x ∧ ¬ x ≤ 1)) (hp : B) : (x < 0 → B) ∧ (¬ x < 0 → ((1 < x → B) ∧ (¬ 1 < x → A))) := by
  rcases h with h | ⟨h1, h2, h3, _⟩
  · exact br_t h hp
  · exact br_f h1 (br_t h3 hp)
theorem ay_okC {A B : Prop} {i : Nat} (h : i < 2) (hp : A) : (nI i < 0 → B) ∧ (¬ nI i < 0 → ((1 < nI i → B) ∧ (¬ 1 < nI i → A))) := br_f (nI_pos (by omega)) (br_f (nI_nlt (a := 1) (by omega) (by decide)) hp)
theorem ax_badW {fD fA fR fn fp fr : Int32} {sc sx an lv ps : Nat → Int32} {post : Int32 → Prop} {x : Int32} {V : Nat} (hV : V ≤ 6) (hb : aj_bad V x) (h : post 1) : wpX_isBadVariable post (nI V, fD, fA, fR, fn, fp, fr, sc, sx, an, lv, ps) x := aj_bb (by omega) hb h
theorem ax_okW {fD fA fR fn fp fr : Int32} {sc sx an lv ps : Nat → Int32} {post : Int32 → Prop} {w V : Nat} (hV : V ≤ 6) (hb : w < V) (h : post 0) : wpX_isBadVariable post (nI V, fD, fA, fR, fn, fp, fr, sc, sx, an, lv, ps) (nI w) := aj_bo (by omega) hb h
theorem aj_m4096 : ¬ (-1 : Int32) = 4096 := by decide
theorem i_vc_skip {k : Nat} {u : SX} {v : SY} (I : i_Rel k u v) (hk : k + 5 ≤ 2564) (v1 : Int32) (v2 : Int32) : wpX_skip (fun r u' => wpY_skip (fun r' v' => r' = r ∧ i_Rel (k + 5) u' v') v v1 v2) u v1 v2 := by
  obtain ⟨V, D, AL, n, ph, m, fR, rs, sc, sx, an, lv, ps, sy, rfl, rfl, hI⟩ := I
  have R : i_Rel (k + 5) (nI V, nI D, nI AL, fR, nI n, nI ph, rs, sc, sx, an, lv, ps) (nI V, nI D, nI AL, fR, nI ph, nI n, sc, sy, ps) := ⟨V, D, AL, n, ph, m, fR, rs, sc, sx, an, lv, ps, sy, rfl, rfl, hI⟩
  obtain ⟨⟨b1, b2, b3, b4, b5, b6⟩, hs, ht, hp, hr, hK⟩ := hI
  have hn : n ≤ 6 := by omega
  by_cases hph : ph = 1
  · subst hph
    refine br_t rfl ?_
    rcases aj_cur v1 with hx | ⟨i, hi, rfl⟩
    · exact ax_badC hx (br_f (by decide) (br_t rfl (ay_badC hx ⟨rfl, R⟩)))
    · refine ax_okC hi (br_t rfl ?_)
      rcases aj_badOr V v2 with hw | ⟨w, hw, rfl⟩
      · exact ax_badW b2 hw (br_f (by decide) (br_t rfl (ay_okC hi (aj_bb (by omega) hw ⟨rfl, R⟩))))
      · have hin : vp_in (nI i) 2 := pk_in i 2 hi
        have R2 : ∀ q, aj_pos V (upd ps i (nI q)) → i_Rel (k + 5) (nI V, nI D, nI AL, fR, nI n, nI 1, rs, sc, sx, an, lv, upd ps i (nI q)) (nI V, nI D, nI AL, fR, nI 1, nI n, sc, sy, upd ps i (nI q)) := fun q hq => ⟨V, D, AL, n, 1, m, fR, rs, sc, sx, an, lv, upd ps i (nI q), sy, rfl, rfl, ⟨b1, b2, b3, b4, b5, b6⟩, hs, ht, hq, hr, hK⟩
        refine ax_okW b2 hw (br_t rfl ⟨hin, ?_⟩)
        rw [aj_at ps (show i < 2 ^ 31 by omega)]
        rcases hp i hi with e | ⟨p, p1, p2, e⟩
        · rw [e]
          refine nm_e (br_f aj_m4096 (br_t rfl ?_))
          obtain ⟨q, g1, g2, g3⟩ := aj_go (fV := nI V) (fD := nI D) (fA := nI AL) (fR := fR) (fp := nI 1) (fr := rs) (lv := lv) (F := 0) (x3 := -1) (x4 := 10 - 2 * nI w) b1 b2 hn hs ht hp (hr rfl).1 hi (by omega) (fun c hc _ => aj_key0 hc)
          refine g2 _ (br_t rfl (ay_okC hi (aj_bo (by omega) hw ⟨hin, ?_⟩)))
          rw [aj_at ps (show i < 2 ^ 31 by omega), e]
          exact nm_e (br_f aj_m4096 (nm_e (g3 _ ⟨rfl, R2 q g1⟩)))
        · rw [e]
          by_cases hend : p = 4096
          · subst hend
            refine nm_e (br_t rfl (br_t rfl (ay_okC hi (aj_bo (by omega) hw ⟨hin, ?_⟩))))
            rw [aj_at ps (show i < 2 ^ 31 by omega), e]
            exact nm_e (br_t rfl ⟨rfl, R⟩)
          · have hne : ¬ nI p = 4096 := fun z => hend ((nI_eq (b := 4096) (by omega) (by decide)).mp z)
            have hp' : p < 4096 := by omega
            refine nm_e (br_f hne (br_f (aj_nm1 (by omega)) (nm_e (nm_e ?_))))
            rw [aj_skF hp' (show w < 6 by omega)]
            obtain ⟨q, g1, g2, g3⟩ := aj_go (fV := nI V) (fD := nI D) (fA := nI AL) (fR := fR) (fp := nI 1) (fr := rs) (lv := lv) (F := (p / 2 ^ (10 - 2 * w) + 1) * 2 ^ (10 - 2 * w)) (x3 := nI p) (x4 := 10 - 2 * nI w) b1 b2 hn hs ht hp (hr rfl).1 hi (aj_sk p hp' w (by omega)) (fun c hc _ => aj_keyS hc hp' (by omega))
            refine g2 _ (br_t rfl (ay_okC hi (aj_bo (by omega) hw ⟨hin, ?_⟩)))
            rw [aj_at ps (show i < 2 ^ 31 by omega), e]
            exact nm_e (br_f hne (nm_e (g3 _ ⟨rfl, R2 q g1⟩)))
  · have h1 := aj_n1 b6 hph
    exact br_f h1 (br_f h1 ⟨rfl, R⟩)
theorem i_vc_next {k : Nat} {u : SX} {v : SY} (I : i_Rel k u v) (hk : k + 5 ≤ 2564) (v1 : Int32) : wpX_next (fun r u' => wpY_next (fun r' v' => r' = r ∧ i_Rel (k + 5) u' v') v v1) u v1 := by
  obtain ⟨V, D, AL, n, ph, m, fR, rs, sc, sx, an, lv, ps, sy, rfl, rfl, hI⟩ := I
  have R : i_Rel (k + 5) (nI V, nI D, nI AL, fR, nI n, nI ph, rs, sc, sx, an, lv, ps) (nI V, nI D, nI AL, fR, nI ph, nI n, sc, sy, ps) := ⟨V, D, AL, n, ph, m, fR, rs, sc, sx, an, lv, ps, sy, rfl, rfl, hI⟩
  obtain ⟨⟨b1, b2, b3, b4, b5, b6⟩, hs, ht, hp, hr, hK⟩ := hI
  have hn : n ≤ 6 := by omega
  have eV : nI V - 1 = nI (V - 1) := pk_sub (b := 1) (by omega)
  by_cases hph : ph = 1
  · subst hph
    refine br_t rfl ?_
    rcases aj_cur v1 with hx | ⟨i, hi, rfl⟩
    · exact ax_badC hx (br_f (by decide) (br_t rfl (ay_badC hx ⟨rfl, R⟩)))
    · have hin : vp_in (nI i) 2 := pk_in i 2 hi
      have R2 : ∀ q, aj_pos V (upd ps i (nI q)) → i_Rel (k + 5) (nI V, nI D, nI AL, fR, nI n, nI 1, rs, sc, sx, an, lv, upd ps i (nI q)) (nI V, nI D, nI AL, fR, nI 1, nI n, sc, sy, upd ps i (nI q)) := fun q hq => ⟨V, D, AL, n, 1, m, fR, rs, sc, sx, an, lv, upd ps i (nI q), sy, rfl, rfl, ⟨b1, b2, b3, b4, b5, b6⟩, hs, ht, hq, hr, hK⟩
      have Y0 : ∀ post : Int32 → SY → Prop, wpY_skip (fun r u => match u with | (a1, a2, a3, a4, a5, a6, a7, a8, a9) => post r (a1, a2, a3, a4, a5, a6, a7, a8, a9)) (nI V, nI D, nI AL, fR, nI 1, nI n, sc, sy, ps) (nI i) (nI (V - 1)) → wpY_next post (nI V, nI D, nI AL, fR, nI 1, nI n, sc, sy, ps) (nI i) := fun post h => by
        unfold wpY_next
        dsimp only
        rw [eV]
        exact h
      have hw : V - 1 < V := by omega
      refine ax_okC hi (br_t rfl ⟨hin, ?_⟩)
      rw [aj_at ps (show i < 2 ^ 31 by omega)]
      rcases hp i hi with e | ⟨p, p1, p2, e⟩
      · rw [e]
        refine nm_e (br_f aj_m4096 ?_)
        obtain ⟨q, g1, g2, g3⟩ := aj_go (fV := nI V) (fD := nI D) (fA := nI AL) (fR := fR) (fp := nI 1) (fr := rs) (lv := lv) (F := 0) (x3 := -1) (x4 := 10 - 2 * nI (V - 1)) b1 b2 hn hs ht hp (hr rfl).1 hi (by omega) (fun c hc _ => aj_key0 hc)
        refine g2 _ (Y0 _ (br_t rfl (ay_okC hi (aj_bo (by omega) hw ⟨hin, ?_⟩))))
        rw [aj_at ps (show i < 2 ^ 31 by omega), e]
        exact nm_e (br_f aj_m4096 (nm_e (g3 _ ⟨rfl, R2 q g1⟩)))
      · rw [e]
        by_cases hend : p = 4096
        · subst hend
          refine nm_e (br_t rfl (Y0 _ (br_t rfl (ay_okC hi (aj_bo (by omega) hw ⟨hin, ?_⟩)))))
          rw [aj_at ps (show i < 2 ^ 31 by omega), e]
          exact nm_e (br_t rfl ⟨rfl, R⟩)
        · have hne : ¬ nI p = 4096 := fun z => hend ((nI_eq (b := 4096) (by omega) (by decide)).mp z)
          have hp' : p < 4096 := by omega
          refine nm_e (br_f hne ?_)
          rw [nI_1 p]
          obtain ⟨q, g1, g2, g3⟩ := aj_go (fV := nI V) (fD := nI D) (fA := nI AL) (fR := fR) (fp := nI 1) (fr := rs) (lv := lv) (F := p + 1) (x3 := nI p) (x4 := 10 - 2 * nI (V - 1)) b1 b2 hn hs ht hp (hr rfl).1 hi (by omega) (fun c hc hA => aj_keyN b1 b2 hc hp' (aj_unc_mod b1 b2 (fun a ha => (hs a ha).2.2.1) hA.1) p2)
          refine g2 _ (Y0 _ (br_t rfl (ay_okC hi (aj_bo (by omega) hw ⟨hin, ?_⟩))))
          rw [aj_at ps (show i < 2 ^ 31 by omega), e]
          exact nm_e (br_f hne (nm_e (g3 _ ⟨rfl, R2 q g1⟩)))
  · have h1 := aj_n1 b6 hph
    exact br_f h1 (br_f h1 ⟨rfl, R⟩)
theorem i_vc_rewind {k : Nat} {u : SX} {v : SY} (I : i_Rel k u v) (hk : k + 5 ≤ 2564) (v1 : Int32) : wpX_rewind (fun r u' => wpY_rewind (fun r' v' => r' = r ∧ i_Rel (k + 5) u' v') v v1) u v1 := by
  obtain ⟨V, D, AL, n, ph, m, fR, rs, sc, sx, an, lv, ps, sy, rfl, rfl, hI⟩ := I
  have R : i_Rel (k + 5) (nI V, nI D, nI AL, fR, nI n, nI ph, rs, sc, sx, an, lv, ps) (nI V, nI D, nI AL, fR, nI ph, nI n, sc, sy, ps) := ⟨V, D, AL, n, ph, m, fR, rs, sc, sx, an, lv, ps, sy, rfl, rfl, hI⟩
  obtain ⟨⟨b1, b2, b3, b4, b5, b6⟩, hs, ht, hp, hr, hK⟩ := hI
  by_cases hph : ph = 1
  · subst hph
    refine br_t rfl ?_
    rcases aj_cur v1 with hx | ⟨i, hi, rfl⟩
    · refine ax_badC hx (br_f (by decide) (br_t rfl ?_))
      rcases hx with hx | ⟨h1, _, _, h4⟩
      · exact br_t hx ⟨rfl, R⟩
      · exact br_f h1 (br_f h4 ⟨rfl, R⟩)
    · have hin : vp_in (nI i) 2 := pk_in i 2 hi
      refine ax_okC hi (br_t rfl ⟨hin, nm_e (br_t rfl (br_f (nI_pos (by omega)) (br_t (nI_le (b := 1) (by omega) (by decide)) ⟨hin, nm_e ⟨rfl, ?_⟩⟩)))⟩)
      refine ⟨V, D, AL, n, 1, m, fR, rs, sc, sx, an, lv, _, sy, rfl, rfl, ⟨b1, b2, b3, b4, b5, b6⟩, hs, ht, fun j hj => ?_, hr, hK⟩
      rw [nI_clamp (show i < 2 ^ 31 by omega)]
      by_cases e : j = i
      · subst e
        rw [pk_us]
        exact Or.inl rfl
      · rw [pk_un e]
        exact hp j hj
  · have h1 := aj_n1 b6 hph
    exact br_f h1 (br_f h1 ⟨rfl, R⟩)
theorem i_vc_value {k : Nat} {u : SX} {v : SY} (I : i_Rel k u v) (hk : k + 5 ≤ 2564) (v1 : Int32) (v2 : Int32) : wpX_value (fun r => wpY_value (fun r' => r' = r ∧ i_Rel (k + 5) u v) v v1 v2) u v1 v2 := by
  obtain ⟨V, D, AL, n, ph, m, fR, rs, sc, sx, an, lv, ps, sy, rfl, rfl, hI⟩ := I
  have R : i_Rel (k + 5) (nI V, nI D, nI AL, fR, nI n, nI ph, rs, sc, sx, an, lv, ps) (nI V, nI D, nI AL, fR, nI ph, nI n, sc, sy, ps) := ⟨V, D, AL, n, ph, m, fR, rs, sc, sx, an, lv, ps, sy, rfl, rfl, hI⟩
  obtain ⟨⟨b1, b2, b3, b4, b5, b6⟩, hs, ht, hp, hr, hK⟩ := hI
  by_cases hph : ph = 1
  · subst hph
    refine br_t rfl ?_
    rcases aj_cur v1 with hx | ⟨i, hi, rfl⟩
    · exact ax_badC hx (br_f (by decide) (br_t rfl (ay_badC hx ⟨rfl, R⟩)))
    · refine ax_okC hi (br_t rfl ?_)
      rcases aj_badOr V v2 with hw | ⟨w, hw, rfl⟩
      · exact ax_badW b2 hw (br_f (by decide) (br_t rfl (ay_okC hi (aj_bb (by omega) hw ⟨rfl, R⟩))))
      · have hin : vp_in (nI i) 2 := pk_in i 2 hi
        refine ax_okW b2 hw (br_t rfl ⟨hin, ?_⟩)
        rcases hp i hi with e | ⟨p, p1, p2, e⟩
        · have e' : ps (nI i).toNatClampNeg = -1 := (aj_at ps (show i < 2 ^ 31 by omega)).trans e
          rw [e']
          exact nm_e (br_t rfl (br_t rfl (ay_okC hi (aj_bo (by omega) hw ⟨hin, br_t e' ⟨rfl, R⟩⟩))))
        · have e' : ps (nI i).toNatClampNeg = nI p := (aj_at ps (show i < 2 ^ 31 by omega)).trans e
          have hne1 : ¬ ps (nI i).toNatClampNeg = -1 := by rw [e']; exact aj_nm1 (by omega)
          by_cases hend : p = 4096
          · subst hend
            exact nm_e (br_f hne1 (br_t e' (br_t rfl (ay_okC hi (aj_bo (by omega) hw ⟨hin, br_f hne1 ⟨hin, br_t e' ⟨rfl, R⟩⟩⟩)))))
          · have hne : ¬ ps (nI i).toNatClampNeg = 4096 := by rw [e']; exact fun z => hend ((nI_eq (b := 4096) (by omega) (by decide)).mp z)
            refine nm_e (br_f hne1 (br_f hne ?_))
            have Y : ∀ post : Int32 → Prop, post (nI (aj_val p w)) → wpY_value post (nI V, nI D, nI AL, fR, nI 1, nI n, sc, sy, ps) (nI i) (nI w) := fun post h => by
              refine br_t rfl (ay_okC hi (aj_bo (by omega) hw ⟨hin, br_f hne1 ⟨hin, br_f hne ⟨hin, ?_⟩⟩⟩))
              rw [e', aj_vY (by omega) (by omega)]
              exact h
            rw [e']
            exact ax_valueIn (by omega) (by omega) (Y _ ⟨rfl, R⟩)
  · have h1 := aj_n1 b6 hph
    exact br_f h1 (br_f h1 ⟨rfl, R⟩)
end
