/-! counting and sums over naturals -/
def ap_ct (p : Nat → Bool) : Nat → Nat
  | 0 => 0
  | k + 1 => ap_ct p k + (p k).toNat
def ap_sm (f : Nat → Nat) : Nat → Nat
  | 0 => 0
  | k + 1 => ap_sm f k + f k
theorem ap_b1 (b : Bool) : b.toNat ≤ 1 := by cases b <;> decide
theorem ap_ct_le {p q : Nat → Bool} : ∀ k, (∀ i, i < k → p i = true → q i = true) → ap_ct p k ≤ ap_ct q k
  | 0, _ => Nat.le_refl 0
  | k + 1, h => by
    have e := ap_ct_le k fun i hi => h i (by omega)
    have hk := h k (by omega)
    rw [ap_ct, ap_ct]
    cases hp : p k
    · have := ap_b1 (q k)
      simp
      omega
    · rw [hk hp]
      omega
theorem ap_ct_eq {p q : Nat → Bool} (k : Nat) (h : ∀ i, i < k → p i = q i) : ap_ct p k = ap_ct q k :=
  Nat.le_antisymm (ap_ct_le k fun i hi hp => by rw [← h i hi]; exact hp) (ap_ct_le k fun i hi hp => by rw [h i hi]; exact hp)
theorem ap_ct_lt {p q : Nat → Bool} : ∀ k, (∀ i, i < k → p i = true → q i = true) → ∀ y, y < k → p y = false → q y = true → ap_ct p k + 1 ≤ ap_ct q k
  | 0, _, y, hy, _, _ => absurd hy (Nat.not_lt_zero y)
  | k + 1, h, y, hy, h1, h2 => by
    rw [ap_ct, ap_ct]
    by_cases e : y = k
    · subst e
      have := ap_ct_le y fun i hi => h i (by omega)
      rw [h1, h2]
      show _ + 0 + 1 ≤ _ + 1
      omega
    · have := ap_ct_lt k (fun i hi => h i (by omega)) y (by omega) h1 h2
      have hk := h k (by omega)
      cases hp : p k
      · have := ap_b1 (q k)
        simp
        omega
      · rw [hk hp]
        omega
theorem ap_ct_add {p q : Nat → Bool} : ∀ k, ∀ y, y < k → p y = false → q y = true → (∀ i, i ≠ y → q i = p i) → ap_ct q k = ap_ct p k + 1
  | 0, y, hy, _, _, _ => absurd hy (Nat.not_lt_zero y)
  | k + 1, y, hy, h1, h2, h => by
    rw [ap_ct, ap_ct]
    by_cases e : y = k
    · subst e
      rw [h1, h2, ap_ct_eq y fun i hi => h i (by omega)]
      rfl
    · rw [ap_ct_add k y (by omega) h1 h2 h, h k (by omega)]
      omega
theorem ap_ct_all {p : Nat → Bool} : ∀ k, (∀ i, i < k → p i = true) → ap_ct p k = k
  | 0, _ => rfl
  | k + 1, h => by
    rw [ap_ct, ap_ct_all k fun i hi => h i (by omega), h k (by omega)]
    rfl
theorem ap_ct_not {p : Nat → Bool} : ∀ k, ap_ct p k + ap_ct (fun i => !p i) k = k
  | 0 => rfl
  | k + 1 => by
    have := ap_ct_not (p := p) k
    rw [ap_ct, ap_ct]
    cases p k
    · show _ + 0 + (_ + 1) = _
      omega
    · show _ + 1 + (_ + 0) = _
      omega
theorem ap_ct_0 {p : Nat → Bool} : ∀ k, (∀ i, i < k → p i = false) → ap_ct p k = 0
  | 0, _ => rfl
  | k + 1, h => by
    rw [ap_ct, ap_ct_0 k fun i hi => h i (by omega), h k (by omega)]
    rfl
theorem ap_ct_pos {p : Nat → Bool} : ∀ k, 0 < ap_ct p k → ∃ i, i < k ∧ p i = true
  | 0, h => (Nat.lt_irrefl 0 h).elim
  | k + 1, h => by
    rw [ap_ct] at h
    cases hp : p k
    · rw [hp] at h
      obtain ⟨i, h1, h2⟩ := ap_ct_pos k h
      exact ⟨i, by omega, h2⟩
    · exact ⟨k, by omega, hp⟩
theorem ap_pos_ct {p : Nat → Bool} (k i : Nat) (hi : i < k) (h : p i = true) : 0 < ap_ct p k :=
  Nat.lt_of_lt_of_le (Nat.lt_of_lt_of_le (Nat.succ_pos _) (ap_ct_lt (p := fun _ => false) k (fun _ _ z => absurd z (by decide)) i hi rfl h)) (Nat.le_refl _)
theorem ap_ct_u {p q : Nat → Bool} : ∀ k, (∀ b c, b < k → c < k → p b = true → q b = false → p c = true → q c = false → b = c) → ap_ct p k ≤ ap_ct (fun i => p i && q i) k + 1
  | 0, _ => Nat.zero_le _
  | k + 1, h => by
    rw [ap_ct, ap_ct]
    cases hp : p k
    · have := ap_ct_u k fun b c hb hc => h b c (by omega) (by omega)
      simp
      omega
    · cases hq : q k
      · have : ap_ct p k ≤ ap_ct (fun i => p i && q i) k := ap_ct_le k fun i hi z => by
          cases hqi : q i
          · have := h i k (by omega) (by omega) z hqi hp hq
            omega
          · rw [z]
            rfl
        simp
        omega
      · have := ap_ct_u k fun b c hb hc => h b c (by omega) (by omega)
        simp
        omega
theorem ap_sm_le {f g : Nat → Nat} : ∀ k, (∀ i, i < k → f i ≤ g i) → ap_sm f k ≤ ap_sm g k
  | 0, _ => Nat.le_refl 0
  | k + 1, h => Nat.add_le_add (ap_sm_le k fun i hi => h i (by omega)) (h k (by omega))
theorem ap_sm_eq {f g : Nat → Nat} : ∀ k, (∀ i, i < k → f i = g i) → ap_sm f k = ap_sm g k
  | 0, _ => rfl
  | k + 1, h => by rw [ap_sm, ap_sm, ap_sm_eq k fun i hi => h i (by omega), h k (by omega)]
theorem ap_sm_add {f g : Nat → Nat} : ∀ k, ap_sm (fun i => f i + g i) k = ap_sm f k + ap_sm g k
  | 0 => rfl
  | k + 1 => by
    rw [ap_sm, ap_sm, ap_sm, ap_sm_add k]
    omega
theorem ap_sm_0 : ∀ k, ap_sm (fun _ => 0) k = 0
  | 0 => rfl
  | k + 1 => by rw [ap_sm, ap_sm_0 k]
theorem ap_sm_ct {p : Nat → Bool} : ∀ k, ap_sm (fun i => (p i).toNat) k = ap_ct p k
  | 0 => rfl
  | k + 1 => by rw [ap_sm, ap_ct, ap_sm_ct k]
theorem ap_sm_sw {f : Nat → Nat → Nat} (k : Nat) : ∀ l, ap_sm (fun i => ap_sm (fun j => f i j) k) l = ap_sm (fun j => ap_sm (fun i => f i j) l) k
  | 0 => (ap_sm_0 k).symm
  | l + 1 => by
    rw [ap_sm, ap_sm_sw k l, ← ap_sm_add]
    rfl
/-- a number up to 6 as a sum over thresholds -/
theorem ap_thr : ∀ w, w < 7 → ap_sm (fun t => (decide (t < w)).toNat) 6 = w := by decide +kernel
theorem ap_sz_ct (m : Nat) : ∀ k, aj_sz m k = ap_ct m.testBit k
  | 0 => rfl
  | k + 1 => by rw [aj_sz, ap_ct, ap_sz_ct m k]
/-- what two atoms share -/
def ap_w (m : Nat → Nat) (a b : Nat) : Nat := aj_sz (m a &&& m b) 6
theorem ap_w_sym (m : Nat → Nat) (a b : Nat) : ap_w m a b = ap_w m b a := by rw [ap_w, ap_w, Nat.and_comm]
theorem ap_w_ct (m : Nat → Nat) (a b : Nat) : ap_w m a b = ap_ct (fun v => (m a).testBit v && (m b).testBit v) 6 := by
  rw [ap_w, ap_sz_ct]
  exact ap_ct_eq 6 fun i _ => Nat.testBit_and _ _ _
theorem ap_w_6 (m : Nat → Nat) (a b : Nat) : ap_w m a b < 7 := by
  have := aj_sz_le (m a &&& m b) 6
  rw [ap_w]
  omega
/-! a forest: rk is 0 at a root, and falls towards it -/
def ap_loo (m par rk : Nat → Nat) (b v : Nat) : Prop := rk b = 0 ∨ (m (par b)).testBit v = false
def ap_for (m : Nat → Nat) (n : Nat) (par rk : Nat → Nat) : Prop := ∀ b, b < n → rk b ≠ 0 → par b < n ∧ rk (par b) < rk b
def ap_uni (m : Nat → Nat) (n : Nat) (par rk : Nat → Nat) (v : Nat) : Prop := ∀ b c, b < n → c < n → (m b).testBit v = true → (m c).testBit v = true → ap_loo m par rk b v → ap_loo m par rk c v → b = c
def ap_inv (m : Nat → Nat) (n K : Nat) (par rk : Nat → Nat) : Prop := ap_for m n par rk ∧ (∀ b, b < n → rk b ≠ 0 → aj_sz K 6 < rk b) ∧ (∀ b, b < n → rk b ≠ 0 → ∀ v, v < 6 → K.testBit v = true → (m b).testBit v = true → (m (par b)).testBit v = true) ∧ ∀ v, v < 6 → K.testBit v = false → ap_uni m n par rk v
theorem ap_root {m : Nat → Nat} {n K : Nat} {par rk : Nat → Nat} (h : ap_inv m n K par rk) : ∀ d a, a < n → rk a ≤ d → ∃ r, r < n ∧ rk r = 0 ∧ ∀ v, v < 6 → K.testBit v = true → (m a).testBit v = true → (m r).testBit v = true := by
  intro d
  induction d with
  | zero => exact fun a ha hr => ⟨a, ha, by omega, fun _ _ _ z => z⟩
  | succ d ih =>
    intro a ha hr
    by_cases z : rk a = 0
    · exact ⟨a, ha, z, fun _ _ _ z => z⟩
    · obtain ⟨h1, h2⟩ := h.1 a ha z
      obtain ⟨r, h3, h4, h5⟩ := ih (par a) h1 (by omega)
      exact ⟨r, h3, h4, fun v hv hk hm => h5 v hv hk (h.2.2.1 a ha z v hv hk hm)⟩
theorem ap_step {m : Nat → Nat} {n K v : Nat} {par rk : Nat → Nat} (h : ap_inv m n K par rk) (hK : K < 64) (hv : v < 6) (hb : K.testBit v = true) (hc : aj_cl m n K v) : ∃ par' rk', ap_inv m n (aj_rm K v) par' rk' := by
  obtain ⟨a0, ha0, e0⟩ := hc
  obtain ⟨a, ha, hr, hs⟩ := ap_root h (rk a0) a0 ha0 (Nat.le_refl _)
  have hw : ∀ b, b < n → (m b).testBit v = true → ∀ u, u < 6 → K.testBit u = true → (m b).testBit u = true → (m a).testBit u = true := fun b hbn h1 u hu h2 h3 =>
    hs u hu h2 ((aj_and_sub (aj_nr_lt hK n)).mp e0 u hu ((aj_nr_bit n).mpr ⟨b, hbn, h1, h3, h2⟩))
  have hz := aj_sz_rm K hK v hv hb
  obtain ⟨i1, i2, i3, i4⟩ := h
  let N : Nat → Bool := fun b => decide (rk b = 0) && (m b).testBit v && !decide (b = a)
  have Nt : ∀ b, N b = true → rk b = 0 ∧ (m b).testBit v = true ∧ b ≠ a := fun b hN => by
    simp only [N, Bool.and_eq_true, decide_eq_true_eq, Bool.not_eq_true', decide_eq_false_iff_not] at hN
    exact ⟨hN.1.1, hN.1.2, hN.2⟩
  have Na : N a = false := by simp [N]
  have Nd : ∀ b, rk b ≠ 0 → N b = false := fun b hb => by simp [N, hb]
  refine ⟨fun b => if N b = true then a else par b, fun b => if N b = true then aj_sz K 6 else rk b, ?_, ?_, ?_, ?_⟩
  · intro b hbn hd
    (try dsimp only at hd ⊢)
    by_cases hN : N b = true
    · rw [if_pos hN, if_pos hN, if_neg (by rw [Na]; decide), hr]
      exact ⟨ha, by omega⟩
    · rw [if_neg hN] at hd
      rw [if_neg hN, if_neg hN]
      obtain ⟨h1, h2⟩ := i1 b hbn hd
      refine ⟨h1, ?_⟩
      split
      · exact i2 b hbn hd
      · exact h2
  · intro b hbn hd
    (try dsimp only at hd ⊢)
    by_cases hN : N b = true
    · rw [if_pos hN]
      exact hz
    · rw [if_neg hN] at hd ⊢
      exact Nat.lt_trans hz (i2 b hbn hd)
  · intro b hbn hd u hu hk hm
    (try dsimp only at hd ⊢)
    have hk' : K.testBit u = true := by
      rw [aj_rm_bit K hK v hv u hu, Bool.and_eq_true] at hk
      exact hk.1
    by_cases hN : N b = true
    · rw [if_pos hN]
      exact hw b hbn (Nt b hN).2.1 u hu hk' hm
    · rw [if_neg hN] at hd ⊢
      exact i3 b hbn hd u hu hk' hm
  · intro u hu hk b c hbn hcn hmb hmc hlb hlc
    have lo : ∀ x, ap_loo m (fun b => if N b = true then a else par b) (fun b => if N b = true then aj_sz K 6 else rk b) x u → (N x = true ∧ (m a).testBit u = false) ∨ (N x = false ∧ ap_loo m par rk x u) := by
      intro x hx
      unfold ap_loo at hx
      (try dsimp only at hx)
      cases hN : N x
      · rw [hN, if_neg (by decide), if_neg (by decide)] at hx
        exact Or.inr ⟨rfl, hx⟩
      · rw [hN, if_pos rfl, if_pos rfl] at hx
        rcases hx with hx | hx
        · omega
        · exact Or.inl ⟨rfl, hx⟩
    by_cases e : u = v
    · subst e
      have key : ∀ x, x < n → (m x).testBit u = true → ap_loo m (fun b => if N b = true then a else par b) (fun b => if N b = true then aj_sz K 6 else rk b) x u → x = a := by
        intro x hxn hmx hx
        rcases lo x hx with ⟨h1, h2⟩ | ⟨h1, h2⟩
        · rw [hw x hxn hmx u hu hb hmx] at h2
          exact absurd h2 (by decide)
        · by_cases z : rk x = 0
          · by_cases z2 : x = a
            · exact z2
            · have : N x = true := by simp [N, z, hmx, z2]
              rw [this] at h1
              exact absurd h1 (by decide)
          · rcases h2 with h2 | h2
            · exact absurd h2 z
            · rw [i3 x hxn z u hu hb hmx] at h2
              exact absurd h2 (by decide)
      rw [key b hbn hmb hlb, key c hcn hmc hlc]
    · have hk' : K.testBit u = false := by
        rw [aj_rm_bit K hK v hv u hu] at hk
        simpa [e] using hk
      have back : ∀ x, ap_loo m (fun b => if N b = true then a else par b) (fun b => if N b = true then aj_sz K 6 else rk b) x u → ap_loo m par rk x u := by
        intro x hx
        rcases lo x hx with ⟨h1, h2⟩ | ⟨h1, h2⟩
        · exact Or.inl (Nt x h1).1
        · exact h2
      exact i4 u hu hk' b c hbn hcn hmb hmc (back b hlb) (back c hlc)
/-- no stuck set but the empty one: a forest in which each variable hangs together -/
theorem ap_build {m : Nat → Nat} {n : Nat} (hns : ∀ K, K < 64 → K ≠ 0 → aj_sub K (aj_cov m n) → ¬ aj_stk m n K) : ∀ d K par rk, aj_sz K 6 ≤ d → K < 64 → aj_sub K (aj_cov m n) → ap_inv m n K par rk → ∃ par' rk', ap_inv m n 0 par' rk' := by
  intro d
  induction d with
  | zero =>
    intro K par rk hd hK _ h
    have := aj_sz_0 K hK (by omega)
    subst this
    exact ⟨par, rk, h⟩
  | succ d ih =>
    intro K par rk hd hK hs h
    by_cases z : K = 0
    · subst z
      exact ⟨par, rk, h⟩
    · have hn := hns K hK z hs
      have : ∃ v, v < 6 ∧ K.testBit v = true ∧ aj_cl m n K v := Classical.byContradiction fun hno => hn fun v hv hb hc => hno ⟨v, hv, hb, hc⟩
      obtain ⟨v, hv, hb, hc⟩ := this
      obtain ⟨p', r', h'⟩ := ap_step h hK hv hb hc
      have hz := aj_sz_rm K hK v hv hb
      exact ih (aj_rm K v) p' r' (by omega) (aj_rm_lt K hK v hv) (fun w hw hx => hs w hw (by
        rw [aj_rm_bit K hK v hv w hw, Bool.and_eq_true] at hx
        exact hx.1)) h'
