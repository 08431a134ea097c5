/-! an assignment of V digits as one of six -/
def ap_up6 (V p : Nat) : Nat := p * 4 ^ (6 - V)
theorem ap_V {V : Nat} (h3 : 3 ≤ V) (h6 : V ≤ 6) : V = 3 ∨ V = 4 ∨ V = 5 ∨ V = 6 := by omega
theorem ap_v6 {v : Nat} (h : v < 6) : v = 0 ∨ v = 1 ∨ v = 2 ∨ v = 3 ∨ v = 4 ∨ v = 5 := by omega
theorem ap_dig {V p v : Nat} (h3 : 3 ≤ V) (h6 : V ≤ 6) (hv : v < V) : aj_val (ap_up6 V p) v = p / 2 ^ (2 * (V - 1 - v)) % 4 := by
  unfold aj_val ap_up6
  rcases ap_V h3 h6 with e | e | e | e <;> subst e <;> rcases ap_v6 (show v < 6 by omega) with e | e | e | e | e | e <;> subst e <;> first | (exfalso; omega) | (simp only [Nat.reduceSub, Nat.reduceMul, Nat.reducePow]; omega)
theorem ap_dig0 {V p v : Nat} (h3 : 3 ≤ V) (h6 : V ≤ 6) (hv : V ≤ v) (h : v < 6) : aj_val (ap_up6 V p) v = 0 := by
  unfold aj_val ap_up6
  rcases ap_V h3 h6 with e | e | e | e <;> subst e <;> rcases ap_v6 h with e | e | e | e | e | e <;> subst e <;> first | (exfalso; omega) | (simp only [Nat.reduceSub, Nat.reduceMul, Nat.reducePow]; omega)
theorem ap_kx_V {V sc c : Nat} (h : sc < 2 ^ V) : ∀ k, aj_kx sc c (V + k) = aj_kx sc c V
  | 0 => rfl
  | k + 1 => by
    rw [← Nat.add_assoc, aj_kx, if_neg, ap_kx_V h k]
    rw [Nat.testBit_lt_two_pow (Nat.lt_of_lt_of_le h (Nat.pow_le_pow_right (by decide) (Nat.le_add_right V k)))]
    decide
theorem ap_kx_6 {V sc c : Nat} (h : sc < 2 ^ V) (h6 : V ≤ 6) : aj_kx sc c 6 = aj_kx sc c V := by
  have := ap_kx_V (c := c) h (6 - V)
  rw [show V + (6 - V) = 6 by omega] at this
  exact this
