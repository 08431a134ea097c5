/-! answers, stored rows in the two orders, what READY holds -/
def aj_unc (m : Nat → Nat) (n c : Nat) : Prop := ∀ v, v < 6 → (aj_cov m n).testBit v = false → aj_val c v = 0
def aj_ans (m : Nat → Nat) (n : Nat) (sx : Nat → Int32) (c : Nat) : Prop := aj_unc m n c ∧ ∀ a, a < n → ¬ sx (a * 64 + aj_kx (m a) c 6) = 0
def aj_anY (m : Nat → Nat) (n : Nat) (sy : Nat → Int32) (c : Nat) : Prop := aj_unc m n c ∧ ∀ a, a < n → ¬ sy (a * 64 + aj_ky (m a) c 6) = 0
def aj_scp (m : Nat → Nat) (V n : Nat) (sc : Nat → Int32) : Prop := ∀ a, a < n → sc a = nI (m a) ∧ 0 < m a ∧ m a < 2 ^ V ∧ aj_sz (m a) 6 < 4
def aj_sto (m : Nat → Nat) (n : Nat) (sx sy : Nat → Int32) : Prop := (∀ a, a < n → ∀ x, x < 64 → sx (a * 64 + x) = sy (a * 64 + aj_pm (aj_sz (m a) 6) x)) ∧ ∀ a, n ≤ a → ∀ x, x < 64 → sx (a * 64 + x) = 0 ∧ sy (a * 64 + x) = 0
def aj_rdA (m : Nat → Nat) (n : Nat) (sx an : Nat → Int32) (k : Nat) : Prop := ∀ c, c < k → (an c = 0 ↔ ¬ aj_ans m n sx c)
def aj_rdL (m : Nat → Nat) (n : Nat) (sx lv : Nat → Int32) (k : Nat) : Prop := ∀ a, a < n → ∀ x, x < 64 → (lv (a * 64 + x) = 0 ↔ ¬ ∃ c, c < k ∧ aj_ans m n sx c ∧ aj_kx (m a) c 6 = x)
def aj_pos (V : Nat) (ps : Nat → Int32) : Prop := ∀ i, i < 2 → ps i = -1 ∨ ∃ p, p ≤ 4096 ∧ p % 2 ^ (12 - 2 * V) = 0 ∧ ps i = nI p
theorem aj_p2 {V : Nat} (h : V ≤ 6) : 2 ^ V ≤ 64 := Nat.pow_le_pow_right (n := 2) (by decide) h
theorem aj_ansXY {m : Nat → Nat} {V n : Nat} {sc sx sy : Nat → Int32} (hs : aj_scp m V n sc) (h : aj_sto m n sx sy) (c : Nat) : aj_ans m n sx c ↔ aj_anY m n sy c := by
  have e : ∀ a, a < n → sx (a * 64 + aj_kx (m a) c 6) = sy (a * 64 + aj_ky (m a) c 6) := fun a ha => by
    rw [aj_ky_pm]
    exact h.1 a ha _ (aj_kx_64 (hs a ha).2.2.2)
  constructor
  · exact fun ⟨h1, h2⟩ => ⟨h1, fun a ha => by rw [← e a ha]; exact h2 a ha⟩
  · exact fun ⟨h1, h2⟩ => ⟨h1, fun a ha => by rw [e a ha]; exact h2 a ha⟩
theorem aj_unc_mod {m : Nat → Nat} {V n c : Nat} (h3 : 3 ≤ V) (h6 : V ≤ 6) (hm : ∀ a, a < n → m a < 2 ^ V) (h : aj_unc m n c) : c % 2 ^ (12 - 2 * V) = 0 := by
  have hz : ∀ v, V ≤ v → v < 6 → aj_val c v = 0 := fun v h1 h2 =>
    h v h2 (Nat.testBit_lt_two_pow (Nat.lt_of_lt_of_le (aj_cov_lt n hm) (Nat.pow_le_pow_right (by decide) h1)))
  have e : V = 3 ∨ V = 4 ∨ V = 5 ∨ V = 6 := by omega
  rcases e with e | e | e | e
  · subst e
    have a1 : c / 16 % 4 = 0 := hz 3 (by omega) (by omega)
    have a2 : c / 4 % 4 = 0 := hz 4 (by omega) (by omega)
    have a3 : c / 1 % 4 = 0 := hz 5 (by omega) (by omega)
    show c % 64 = 0
    omega
  · subst e
    have a2 : c / 4 % 4 = 0 := hz 4 (by omega) (by omega)
    have a3 : c / 1 % 4 = 0 := hz 5 (by omega) (by omega)
    show c % 16 = 0
    omega
  · subst e
    have a3 : c / 1 % 4 = 0 := hz 5 (by omega) (by omega)
    show c % 4 = 0
    omega
  · subst e
    show c % 1 = 0
    omega
/-! the least answer from F on -/
def aj_fst (an : Nat → Int32) (F q : Nat) : Prop := F ≤ q ∧ q ≤ 4096 ∧ (∀ c, F ≤ c → c < q → an c = 0) ∧ (q < 4096 → ¬ an q = 0)
def aj_out1 (q : Nat) : Int32 := if q < 4096 then 1 else -8
theorem aj_out1_t {q : Nat} (h : q < 4096) : aj_out1 q = 1 := if_pos h
theorem aj_out1_f : aj_out1 4096 = -8 := rfl
/-! a row put in or taken out on both sides -/
theorem aj_sto_upd {m : Nat → Nat} {V n a x : Nat} {sc sx sy : Nat → Int32} (z : Int32) (hs : aj_scp m V n sc) (h : aj_sto m n sx sy) (ha : a < n) (hx : x < 64) : aj_sto m n (upd sx (a * 64 + x) z) (upd sy (a * 64 + aj_pm (aj_sz (m a) 6) x) z) := by
  have hk := (hs a ha).2.2.2
  have hp := (aj_pm_in _ hk x hx).1
  refine ⟨fun b hb y hy => ?_, fun b hb y hy => ?_⟩
  · have hq := (aj_pm_in _ (hs b hb).2.2.2 y hy).1
    by_cases e : b = a
    · subst e
      by_cases e2 : y = x
      · subst e2
        rw [pk_us, pk_us]
      · rw [pk_un (by omega), pk_un, h.1 b hb y hy]
        intro e3
        exact e2 (aj_pm_inj hk hy hx (by omega))
    · rw [pk_un (by omega), pk_un (by omega), h.1 b hb y hy]
  · rw [pk_un (by omega), pk_un (by omega)]
    exact h.2 b hb y hy
theorem aj_sto_cn {m : Nat → Nat} {V n a : Nat} {sc sx sy : Nat → Int32} (hs : aj_scp m V n sc) (h : aj_sto m n sx sy) (ha : a < n) : aj_cn (fun i => sx (a * 64 + i)) 64 = aj_cn (fun i => sy (a * 64 + i)) 64 := by
  rw [← aj_cn_pm (fun i => sy (a * 64 + i)) (hs a ha).2.2.2]
  exact aj_cn_congr 64 fun i hi => by
    rw [h.1 a ha i hi]
def aj_mk (m : Nat → Nat) (n : Nat) (s : Nat) : Nat → Nat := fun a => if a = n then s else m a
theorem aj_mk_n {m : Nat → Nat} {n s : Nat} : aj_mk m n s n = s := if_pos rfl
theorem aj_mk_lt {m : Nat → Nat} {n s a : Nat} (h : a < n) : aj_mk m n s a = m a := if_neg (by omega)
theorem aj_scp_add {m : Nat → Nat} {V n s : Nat} {sc : Nat → Int32} (hs : aj_scp m V n sc) (h0 : 0 < s) (h1 : s < 2 ^ V) (h2 : aj_sz s 6 < 4) : aj_scp (aj_mk m n s) V (n + 1) (upd sc n (nI s)) := by
  intro a ha
  by_cases e : a = n
  · subst e
    rw [aj_mk_n, pk_us]
    exact ⟨rfl, h0, h1, h2⟩
  · rw [aj_mk_lt (by omega), pk_un e]
    exact hs a (by omega)
theorem aj_sto_add {m : Nat → Nat} {n s : Nat} {sx sy : Nat → Int32} (h : aj_sto m n sx sy) (h2 : aj_sz s 6 < 4) : aj_sto (aj_mk m n s) (n + 1) sx sy := by
  refine ⟨fun a ha x hx => ?_, fun a ha => h.2 a (by omega)⟩
  by_cases e : a = n
  · subst e
    rw [aj_mk_n, (h.2 a (Nat.le_refl a) x hx).1, (h.2 a (Nat.le_refl a) _ (aj_pm_in _ h2 x hx).1).2]
  · rw [aj_mk_lt (by omega)]
    exact h.1 a (by omega) x hx
/-! rows as they are given -/
theorem aj_or2 : ∀ x, x < 4 → ∀ y, y < 4 → nI x ||| (nI y <<< ((2 : Int32) &&& 31)) = nI (x + y * 4) := by decide +kernel
theorem aj_or3 : ∀ x, x < 16 → ∀ y, y < 4 → nI x ||| (nI y <<< ((4 : Int32) &&& 31)) = nI (x + y * 16) := by decide +kernel
theorem aj_pm1 : ∀ x, x < 4 → aj_pm 1 x = x := by decide +kernel
theorem aj_pm2 : ∀ x, x < 4 → ∀ y, y < 4 → aj_pm 2 (x + y * 4) = x * 4 + y := by decide +kernel
theorem aj_pm3 : ∀ x, x < 4 → ∀ y, y < 4 → ∀ z, z < 4 → aj_pm 3 (x + y * 4 + z * 16) = x * 16 + y * 4 + z := by decide +kernel
theorem aj_orK : ∀ k, k < 3 → ∀ x, x < 4 ^ k → ∀ y, y < 4 → nI x ||| (nI y <<< (nI (2 * k) &&& 31)) = nI (x + y * 4 ^ k) := by decide +kernel
/-! a value out of an assignment -/
theorem aj_shc : ∀ v, v < 6 → (((10 : Int32) - nI v * 2 &&& 31).toBitVec.smod 32).toNat = 10 - 2 * v := by decide +kernel
theorem aj_shd : ∀ v, v < 6 → (((10 : Int32) - 2 * nI v &&& 31).toBitVec.smod 32).toNat = 10 - 2 * v := by decide +kernel
theorem aj_vX {c v : Nat} (hc : c < 4096) (hv : v < 6) : (nI c >>> ((10 : Int32) - nI v * 2 &&& 31)) &&& 3 = nI (aj_val c v) := by
  rw [pk_shrN (by omega) _ _ (aj_shc v hv), pk_andN (Nat.lt_of_le_of_lt (Nat.div_le_self _ _) (by omega)) 2 (by decide)]
  rfl
theorem aj_vY {c v : Nat} (hc : c < 4096) (hv : v < 6) : (nI c >>> ((10 : Int32) - 2 * nI v &&& 31)) &&& 3 = nI (aj_val c v) := by
  rw [pk_shrN (by omega) _ _ (aj_shd v hv), pk_andN (Nat.lt_of_le_of_lt (Nat.div_le_self _ _) (by omega)) 2 (by decide)]
  rfl
