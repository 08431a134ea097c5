/-! what the law's own helpers answer -/
theorem al_cell {post : Int32 → Prop} {L k : Nat} {xs : Nat → Int32} {x : Int32} (hL : L ≤ 260) (hx : x = nI k) (hk : k < 2 ^ 31) (h : ∀ r, post r) : wpL_cell post L xs () x := by
  subst hx
  exact pk_le L k (fun _ => h 0) (fun z => ⟨pk_in k L z, h _⟩)
theorem al_pick {post : Int32 → Prop} {L : Nat} {xs : Nat → Int32} {x y : Int32} (hL : L ≤ 260) (k : Nat) (hx : x = nI k) (hk : k < 2 ^ 31) (M : Nat) (hy : y = nI M) (h0 : 0 < M) (hM : M < 2 ^ 31) (h : ∀ j, j < M → post (nI j)) : wpL_pick post L xs () x y := by
  subst hy
  unfold wpL_pick
  refine al_cell hL hx hk fun r => ?_
  intro a _ b _ c _ d _
  obtain ⟨j, hj, e⟩ := pk_andE d (m := 2147483647) 31 (by decide)
  refine ⟨aj_n0 (by omega) hM, ?_⟩
  rw [e, pk_rem hj h0 hM]
  exact h _ (Nat.mod_lt _ h0)
theorem al_tb1 {x : Int32} {k v : Nat} {A B : Prop} (hx : x = nI k) (hm : k < 64) (hv : v < 6) (h1 : k.testBit v = true → A) (h0 : ¬ k.testBit v = true → B) : (((x >>> (nI v &&& 31)) &&& 1) = 1 → A) ∧ (¬ ((x >>> (nI v &&& 31)) &&& 1) = 1 → B) := by
  subst hx
  rw [aj_bit k hm v hv]
  cases hb : k.testBit v
  · exact br_f (by decide) (h0 (by rw [hb]; decide))
  · exact br_t (by decide) (h1 hb)
theorem al_tb0 {x : Int32} {k v : Nat} {A B : Prop} (hx : x = nI k) (hm : k < 64) (hv : v < 6) (h1 : k.testBit v = true → B) (h0 : ¬ k.testBit v = true → A) : (((x >>> (nI v &&& 31)) &&& 1) = 0 → A) ∧ (¬ ((x >>> (nI v &&& 31)) &&& 1) = 0 → B) := by
  subst hx
  rw [aj_bit k hm v hv]
  cases hb : k.testBit v
  · exact br_t (by decide) (h0 (by rw [hb]; decide))
  · exact br_f (by decide) (h1 hb)
/-- the scopes, packed -/
def ap_pk (m : Nat → Nat) : Nat → Nat
  | 0 => 0
  | n + 1 => ap_pk m n + m n * 64 ^ n
def ap_sc (m : Nat → Nat) (n a : Nat) : Nat := if a < n then m a else 0
theorem ap_pk_lt {m : Nat → Nat} : ∀ n, (∀ b, b < n → m b < 64) → ap_pk m n < 64 ^ n
  | 0, _ => by show 0 < 64 ^ 0; decide
  | n + 1, h => by
    have h1 := ap_pk_lt n fun b hb => h b (by omega)
    have h2 : m n * 64 ^ n ≤ 63 * 64 ^ n := Nat.mul_le_mul_right _ (by have := h n (by omega); omega)
    rw [ap_pk, Nat.pow_succ]
    omega
theorem ap_pk_at {m : Nat → Nat} {a : Nat} : ∀ n, (∀ b, b < n → m b < 64) → ap_pk m n / 64 ^ a % 64 = ap_sc m n a
  | 0, _ => by rw [ap_pk, Nat.zero_div, ap_sc, if_neg (by omega)]
  | n + 1, h => by
    have h0 := ap_pk_lt n fun b hb => h b (by omega)
    have ih := ap_pk_at (m := m) (a := a) n fun b hb => h b (by omega)
    have hn := h n (by omega)
    rw [ap_pk]
    rcases Nat.lt_trichotomy a n with z | z | z
    · obtain ⟨d, rfl⟩ : ∃ d, n = a + (d + 1) := ⟨n - a - 1, by omega⟩
      have e : m (a + (d + 1)) * 64 ^ (a + (d + 1)) = (m (a + (d + 1)) * 64 ^ d * 64) * 64 ^ a := by
        rw [Nat.pow_add, Nat.pow_succ, Nat.mul_assoc, Nat.mul_assoc, Nat.mul_comm (64 ^ a)]
        rw [Nat.mul_assoc]
      rw [e, Nat.add_mul_div_right _ _ (Nat.pow_pos (by decide)), Nat.add_mul_mod_self_right, ih, ap_sc, ap_sc, if_pos z, if_pos (by omega)]
    · subst z
      rw [Nat.add_mul_div_right _ _ (Nat.pow_pos (by decide)), Nat.div_eq_of_lt h0, Nat.zero_add, Nat.mod_eq_of_lt hn, ap_sc, if_pos (by omega)]
    · have h1 := ap_pk_lt (m := m) (n + 1) h
      have h2 : 64 ^ (n + 1) ≤ 64 ^ a := Nat.pow_le_pow_right (by decide) z
      rw [ap_pk] at h1
      rw [Nat.div_eq_of_lt (by omega), ap_sc, if_neg (by omega)]
theorem ap_pk_36 {m : Nat → Nat} {n : Nat} (hn : n ≤ 6) (h : ∀ b, b < n → m b < 64) : ap_pk m n < 2 ^ 36 :=
  Nat.lt_of_lt_of_le (ap_pk_lt n h) (Nat.le_trans (Nat.pow_le_pow_right (by decide) hn) (by decide))
theorem al_and63 (n : Nat) : nI n &&& 63 = nI (n % 64) := by
  have : nI n &&& nI 63 = nI (n &&& 63) := nx_and n 63
  rw [show n &&& 63 = n % 64 from Nat.and_two_pow_sub_one_eq_mod n 6] at this
  exact this
theorem al_scopeAt {post : Int32 → Prop} {m : Nat → Nat} {n a : Nat} {x : Int32} (hn : n ≤ 6) (hm : ∀ b, b < n → m b < 64) (hx : x = nI a) (ha : a < 6) (h : post (nI (ap_sc m n a))) : wpL_scopeAt post () (lN (ap_pk m n)) x := by
  subst hx
  unfold wpL_scopeAt
  have h36 := ap_pk_36 hn hm
  rw [show (6 : Int32) * nI a = nI (6 * a) from pk_mul 6 a, wb_shr (by omega) (by omega), lN_i, al_and63, show 2 ^ (6 * a) = 64 ^ a from by rw [Nat.pow_mul], ap_pk_at n hm]
  exact h
theorem al_bits {post : Int32 → Prop} {x : Int32} {k : Nat} (hx : x = nI k) (hm : k < 64) (h : post (nI (aj_sz k 6))) : wpL_bits post () x := by
  subst hx
  exact loop_0 (fun n' i (_ : Unit) => wL_bits_4 post (nI k) n' (nI (aj_sz k i)) (nI i)) (fun _ _ => True) 6 () trivial
    (fun n' _ _ => pk_le 6 6 (fun _ => h) (fun z => absurd z (by omega)))
    (fun n' i _ hi _ hw => pk_le 6 i (fun z => absurd z (by omega)) (fun _ => nm_r (e' := nI (aj_sz k (i + 1))) (by rw [aj_bit k hm i hi, nI_add]; rfl) (nm_r (nI_1 i) (hw () trivial))))
theorem al_dig {post : Int32 → Prop} {V p v : Nat} (h3 : 3 ≤ V) (h6 : V ≤ 6) (hp : p < 4096) (hv : v < V) (h : post (nI (aj_val (ap_up6 V p) v))) : wpL_digit post () (nI p) (nI v) (nI V) := by
  unfold wpL_digit
  rw [show nI V - 1 = nI (V - 1) from pk_sub (b := 1) (by omega), pk_sub (show v ≤ V - 1 by omega), show (2 : Int32) * nI (V - 1 - v) = nI (2 * (V - 1 - v)) from pk_mul 2 _, pk_shrN (by omega) _ _ (s_l _ (by omega)), pk_andN (Nat.lt_of_le_of_lt (Nat.div_le_self _ _) (by omega)) 2 (by decide)]
  rw [ap_dig h3 h6 hv] at h
  exact h
def ap_leg (V D used c : Nat) : Prop := ∀ v, v < V → aj_val c v < D ∧ (0 < aj_val c v → used.testBit v = true)
theorem al_legal {post : Int32 → Prop} {V D p used : Nat} (h3 : 3 ≤ V) (h6 : V ≤ 6) (hD : D ≤ 4) (hp : p < 4096) (hu : used < 64) (h1 : ap_leg V D used (ap_up6 V p) → post 1) (h0 : ¬ ap_leg V D used (ap_up6 V p) → post 0) : wpL_legal post () (nI p) (nI used) (nI V) (nI D) :=
  loop_0 (fun n' i (_ : Unit) => wL_legal_3 post (nI p) (nI used) (nI V) (nI D) n' (nI i)) (fun i _ => ∀ v, v < i → aj_val (ap_up6 V p) v < D ∧ (0 < aj_val (ap_up6 V p) v → used.testBit v = true)) V () lt_0
    (fun n' _ hI => pk_le V V (fun _ => h1 hI) (fun z => absurd z (by omega)))
    (fun n' i _ hi hI hw => pk_le V i (fun z => absurd z (by omega)) (fun _ => al_dig h3 h6 hp hi (by
      have hv := aj_val_lt (ap_up6 V p) i
      refine pk_le D (aj_val (ap_up6 V p) i) (fun z => h0 fun H => absurd (H i hi).1 (by omega)) (fun z => pk_le (aj_val (ap_up6 V p) i) 0 (fun y => nm_r (nI_1 i) (hw () (lt_s hI ⟨z, fun q => absurd q (by omega)⟩))) (fun y => ?_))
      exact al_tb0 rfl hu (by omega) (fun hb => nm_r (nI_1 i) (hw () (lt_s hI ⟨z, fun _ => hb⟩))) (fun hb => h0 fun H => hb ((H i hi).2 y)))))
theorem al_proj {post : Int32 → Prop} {V p k : Nat} (h3 : 3 ≤ V) (h6 : V ≤ 6) (hp : p < 4096) (hk : k < 64) (h4 : aj_sz k 6 < 4) (h : post (nI (aj_kx k (ap_up6 V p) V))) : wpL_proj post () (nI p) (nI k) (nI V) :=
  loop_0 (fun n' i (_ : Unit) => wL_proj_8 post (nI p) (nI k) (nI V) n' (nI (aj_kx k (ap_up6 V p) i)) (nI (2 * aj_sz k i)) (nI i)) (fun _ _ => True) V () trivial
    (fun n' _ _ => pk_le V V (fun _ => h) (fun z => absurd z (by omega)))
    (fun n' i _ hi _ hw => pk_le V i (fun z => absurd z (by omega)) (fun _ => al_tb1 rfl hk (by omega)
      (fun hb => al_dig h3 h6 hp hi (nm_r (aj_orK _ (by
          have h5 := aj_sz_mono k (a := i + 1) 6 (by omega)
          rw [aj_sz_t hb] at h5
          omega) _ (aj_kx_lt k _ i) _ (aj_val_lt _ i)) (nm_r (e' := nI (2 * (aj_sz k i + 1))) (nI_add _ 2) (nm_r (nI_1 i) (by
          have := hw () trivial
          rw [aj_sz_t hb, aj_kx, if_pos hb] at this
          exact this)))))
      (fun hb => nm_r (nI_1 i) (by
          have := hw () trivial
          rw [aj_sz_f hb, aj_kx, if_neg hb] at this
          exact this))))
/-! a long as 64 bits -/
def al_b (x : Int64) (i : Nat) : Bool := x.toBitVec.getLsbD i
theorem al_t (x : Int64) {r : Nat} (hr : r < 64) : ((x.toUInt64 >>> ((nI r).toInt64.toUInt64 &&& Int64.toUInt64 63)).toInt64 &&& 1) = lN (al_b x r).toNat := by
  obtain ⟨n, hn, rfl⟩ := wb_of x
  rw [wb_bit hn hr, al_b, wb_tb, BitVec.getLsbD_ofNat, decide_eq_true hr, Bool.true_and, Nat.toNat_testBit]
theorem al_t1 {x : Int64} {r : Nat} {A B : Prop} (hr : r < 64) (h1 : al_b x r = true → A) (h0 : al_b x r = false → B) : (((x.toUInt64 >>> ((nI r).toInt64.toUInt64 &&& Int64.toUInt64 63)).toInt64 &&& 1) = 1 → A) ∧ (¬ ((x.toUInt64 >>> ((nI r).toInt64.toUInt64 &&& Int64.toUInt64 63)).toInt64 &&& 1) = 1 → B) := by
  rw [al_t x hr]
  cases hb : al_b x r
  · exact br_f (by decide) (h0 hb)
  · exact br_t (by decide) (h1 hb)
theorem al_t0 {x : Int64} {r : Nat} {A B : Prop} (hr : r < 64) (h1 : al_b x r = true → B) (h0 : al_b x r = false → A) : (((x.toUInt64 >>> ((nI r).toInt64.toUInt64 &&& Int64.toUInt64 63)).toInt64 &&& 1) = 0 → A) ∧ (¬ ((x.toUInt64 >>> ((nI r).toInt64.toUInt64 &&& Int64.toUInt64 63)).toInt64 &&& 1) = 0 → B) := by
  rw [al_t x hr]
  cases hb : al_b x r
  · exact br_t (by decide) (h0 hb)
  · exact br_f (by decide) (h1 hb)
theorem al_one {r i : Nat} (hr : r < 64) (hi : i < 64) : ((1 : Int64) <<< ((nI r).toInt64 &&& 63)).toBitVec.getLsbD i = decide (r = i) := by
  have e : (1 : Int64) <<< ((nI r).toInt64 &&& 63) = lN (2 ^ r) := (wb_shl 1 hr).trans (by rw [Nat.one_mul])
  rw [e, wb_tb, BitVec.getLsbD_ofNat, Nat.testBit_two_pow, decide_eq_true hi, Bool.true_and]
theorem al_or {x : Int64} {r i : Nat} (hr : r < 64) (hi : i < 64) : al_b (x ||| ((1 : Int64) <<< ((nI r).toInt64 &&& 63))) i = (al_b x i || decide (r = i)) := by
  unfold al_b
  rw [Int64.toBitVec_or, BitVec.getLsbD_or, al_one hr hi]
theorem al_andn {x : Int64} {r i : Nat} (hr : r < 64) (hi : i < 64) : al_b (x &&& (((1 : Int64) <<< ((nI r).toInt64 &&& 63)) ^^^ (-1))) i = (al_b x i && !decide (r = i)) := by
  unfold al_b
  rw [Int64.toBitVec_and, Int64.toBitVec_xor, BitVec.getLsbD_and, BitVec.getLsbD_xor, al_one hr hi, show (-1 : Int64).toBitVec = BitVec.allOnes 64 from by decide, BitVec.getLsbD_allOnes, decide_eq_true hi, Bool.xor_true]
theorem al_z (i : Nat) : al_b 0 i = false := by
  unfold al_b
  exact BitVec.getLsbD_zero
theorem al_has {post : Int32 → Prop} {V p k : Nat} {x : Int64} (h3 : 3 ≤ V) (h6 : V ≤ 6) (hp : p < 4096) (hk : k < 64) (h4 : aj_sz k 6 < 4) (h1 : (k = 0 ∨ al_b x (aj_kx k (ap_up6 V p) V) = true) → post 1) (h0 : ¬ (k = 0 ∨ al_b x (aj_kx k (ap_up6 V p) V) = true) → post 0) : wpL_has post () x (nI p) (nI k) (nI V) := by
  refine pk_eq k 0 (fun z => h1 (Or.inl z)) (fun z => al_proj h3 h6 hp hk h4 ?_)
  have hl : aj_kx k (ap_up6 V p) V < 64 := Nat.lt_of_lt_of_le (aj_kx_lt k _ V) (aj_p4 (Nat.lt_of_le_of_lt (aj_sz_mono k 6 h6) h4))
  exact al_t1 hl (fun hb => h1 (Or.inr hb)) (fun hb => h0 fun H => H.elim z fun y => by rw [hb] at y; exact absurd y (by decide))
theorem al_sel {post : Int64 → Prop} {M : Nat → Int64} {a : Nat} (ha : a < 6) (h : post (M a)) : wpL_sel post () (nI a) (M 0) (M 1) (M 2) (M 3) (M 4) (M 5) := by
  have e : a = 0 ∨ a = 1 ∨ a = 2 ∨ a = 3 ∨ a = 4 ∨ a = 5 := by omega
  rcases e with e | e | e | e | e | e <;> subst e
  · exact br_t rfl h
  · exact br_f (by decide) (br_t rfl h)
  · exact br_f (by decide) (br_f (by decide) (br_t rfl h))
  · exact br_f (by decide) (br_f (by decide) (br_f (by decide) (br_t rfl h)))
  · exact br_f (by decide) (br_f (by decide) (br_f (by decide) (br_f (by decide) (br_t rfl h))))
  · exact br_f (by decide) (br_f (by decide) (br_f (by decide) (br_f (by decide) (br_f (by decide) h))))
theorem ap_d3 : ∀ r, r < 64 → nI r &&& 3 = nI (r % 4) ∧ (nI r >>> ((2 : Int32) &&& 31)) &&& 3 = nI (r / 4 % 4) ∧ (nI r >>> ((4 : Int32) &&& 31)) &&& 3 = nI (r / 16 % 4) := by decide +kernel
