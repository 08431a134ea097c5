/-! the law's tree -/
def ap_m1 (B : Nat) : Int32 := if B = 0 then -1 else nI (B - 1)
theorem ap_m1_le : ∀ w, w < 8 → ∀ B, B < 9 → (nI w ≤ ap_m1 B ↔ w < B) := by decide +kernel
theorem ap_m1_s (w : Nat) : ap_m1 (w + 1) = nI w := by rw [ap_m1, if_neg (by omega)]; rfl
def ap_bst (m : Nat → Nat) (n : Nat) (I : Nat → Bool) (a b B who : Nat) : Prop := who < 6 ∧ B < 8 ∧ (B = 0 ∨ (who < n ∧ I who = false ∧ ∃ a', a' < n ∧ I a' = true ∧ ap_w m a' who + 1 = B)) ∧ ∀ a' c, a' < n → c < n → (a' < a ∨ (a' = a ∧ c < b)) → I a' = true → I c = false → ap_w m a' c < B
theorem ap_bst_n {m : Nat → Nat} {n a B who : Nat} {I : Nat → Bool} (h : ap_bst m n I a n B who) : ap_bst m n I (a + 1) 0 B who :=
  ⟨h.1, h.2.1, h.2.2.1, fun a' c h1 h2 h3 => h.2.2.2 a' c h1 h2 (by omega)⟩
theorem ap_bst_k {m : Nat → Nat} {n a b B who : Nat} {I : Nat → Bool} (h : ap_bst m n I a b B who) (hk : I a = true → I b = false → ap_w m a b < B) : ap_bst m n I a (b + 1) B who := by
  refine ⟨h.1, h.2.1, h.2.2.1, fun a' c h1 h2 h3 h4 h5 => ?_⟩
  by_cases e : a' = a ∧ c = b
  · obtain ⟨e1, e2⟩ := e
    subst e1
    subst e2
    exact hk h4 h5
  · exact h.2.2.2 a' c h1 h2 (by omega) h4 h5
theorem ap_bst_y {m : Nat → Nat} {n a b B who : Nat} {I : Nat → Bool} (h : ap_bst m n I a b B who) (ha : a < n) (hb : b < n) (hb6 : b < 6) (h1 : I a = true) (h2 : I b = false) (hk : ¬ ap_w m a b < B) : ap_bst m n I a (b + 1) (ap_w m a b + 1) b := by
  have hw := ap_w_6 m a b
  refine ⟨hb6, by omega, Or.inr ⟨hb, h2, a, ha, h1, rfl⟩, fun a' c h3 h4 h5 h6 h7 => ?_⟩
  by_cases e : a' = a ∧ c = b
  · obtain ⟨e1, e2⟩ := e
    subst e1
    subst e2
    omega
  · have := h.2.2.2 a' c h3 h4 (by omega) h6 h7
    omega
theorem ap_sc_lt {m : Nat → Nat} {n a : Nat} (ha : a < n) : ap_sc m n a = m a := if_pos ha
theorem al_97 {post : Int32 → Prop} {J73 J88 : Int32 → Int32 → Int32 → Prop} {m : Nat → Nat} {n a inn B who : Nat} {x3 x4 x6 : Int32} (hn : n ≤ 6) (hm : ∀ b, b < n → m b < 64) (ha : a < n) (hi : inn < 64) (h : ap_bst m n (fun a => inn.testBit a) a 0 B who) (k : ∀ B' who', ap_bst m n (fun a => inn.testBit a) (a + 1) 0 B' who' → J88 (ap_m1 B') (nI who') (nI (a + 1))) : ∃ fu, wL_treeExists_97 post J73 J88 (lN (ap_pk m n)) (nI n) x3 x4 (nI inn) x6 (nI a) fu (ap_m1 B) (nI who) 0 := by
  refine loop_0 (fun n' b (s : Nat × Nat) => wL_treeExists_97 post J73 J88 (lN (ap_pk m n)) (nI n) x3 x4 (nI inn) x6 (nI a) n' (ap_m1 s.1) (nI s.2) (nI b)) (fun b s => ap_bst m n (fun a => inn.testBit a) a b s.1 s.2) n (B, who) h ?_ ?_
  · intro n' s hI
    exact pk_le n n (fun _ => nm_r (nI_1 a) (k s.1 s.2 (ap_bst_n hI))) (fun z => absurd z (by omega))
  · intro n' b s hb hI hw
    refine pk_le n b (fun z => absurd z (by omega)) (fun _ => al_tb1 rfl hi (by omega) (fun h1 => al_tb0 rfl hi (by omega) (fun h2 => nm_r (nI_1 b) (hw s (ap_bst_k hI fun _ z => by (try dsimp only at z); rw [h2] at z; exact absurd z (by decide)))) (fun h2 => ?_)) (fun h1 => nm_r (nI_1 b) (hw s (ap_bst_k hI fun z => absurd z h1))))
    refine al_scopeAt hn hm rfl (by omega) (al_scopeAt hn hm rfl (by omega) (al_bits (k := m a &&& m b) (by rw [ap_sc_lt ha, ap_sc_lt hb, nx_and]) (Nat.and_lt_two_pow (n := 6) (m a) (hm b hb)) ?_))
    have hw6 := ap_w_6 m a b
    have hle := ap_m1_le (ap_w m a b) (by omega) s.1 (by have := hI.2.1; omega)
    refine br_c (fun z => nm_r (nI_1 b) (hw s (ap_bst_k hI fun _ _ => hle.mp z))) (fun z => nm_r (nI_1 b) ?_)
    have := hw (ap_w m a b + 1, b) (ap_bst_y hI ha hb (by omega) h1 (Bool.eq_false_iff.mpr h2) fun y => z (hle.mpr y))
    (try dsimp only at this)
    rw [ap_m1_s] at this
    exact this
theorem al_88 {post : Int32 → Prop} {J73 : Int32 → Int32 → Int32 → Prop} {m : Nat → Nat} {n inn W st : Nat} {x3 : Int32} (hn : n ≤ 6) (hm : ∀ b, b < n → m b < 64) (hi : inn < 64) (h0 : inn.testBit 0 = true) (hc : ap_ct (fun a => inn.testBit a) n = st) (hst : st < n) (k : ∀ best b, ap_stp m n (fun a => inn.testBit a) best b → J73 (nI (W + best)) (nI (inn ||| 2 ^ b)) (nI (st + 1))) : ∃ fu, wL_treeExists_88 post J73 (lN (ap_pk m n)) (nI n) x3 (nI W) (nI inn) (nI st) fu (-1) 0 0 := by
  refine loop_0 (fun n' a (s : Nat × Nat) => wL_treeExists_88 post J73 (lN (ap_pk m n)) (nI n) x3 (nI W) (nI inn) (nI st) n' (ap_m1 s.1) (nI s.2) (nI a)) (fun a s => ap_bst m n (fun a => inn.testBit a) a 0 s.1 s.2) n (0, 0) ⟨by decide, by decide, Or.inl rfl, fun a' c _ _ z => by omega⟩ ?_ ?_
  · intro n' s hI
    obtain ⟨i1, i2, i3, i4⟩ := hI
    have hex : ∃ c, c < n ∧ inn.testBit c = false := Classical.byContradiction fun hno => by
      have := ap_ct_all (p := fun a => inn.testBit a) n fun i hin => by
        cases z : inn.testBit i
        · exact absurd ⟨i, hin, z⟩ hno
        · rfl
      omega
    obtain ⟨c, hc1, hc2⟩ := hex
    have hB := i4 0 c (by omega) hc1 (by omega) h0 hc2
    rcases i3 with z | ⟨w1, w2, a', a1, a2, a3⟩
    · omega
    · refine pk_le n n (fun _ => ?_) (fun z => absurd z (by omega))
      have hk := k (ap_w m a' s.2) s.2 ⟨w1, w2, ⟨a', a1, a2, rfl⟩, fun x y hx hy hIx hIy => by
        have := i4 x y hx hy (by omega) hIx hIy
        omega⟩
      refine nm_r (e' := nI (W + ap_w m a' s.2)) (by rw [← a3, ap_m1_s, nI_add]) (nm_r (e' := nI (inn ||| 2 ^ s.2)) ?_ (nm_r (nI_1 st) hk))
      rw [aj_shV s.2 (by omega), aj_or]
  · intro n' a s ha hI hw
    exact pk_le n a (fun z => absurd z (by omega)) (fun _ => al_97 hn hm ha hi hI fun B' who' h' => hw (B', who') h')
theorem ap_B_congr {m : Nat → Nat} {n : Nat} {I J : Nat → Bool} (h : ∀ a, a < n → I a = J a) : ap_B m n I = ap_B m n J :=
  ap_sm_eq 6 fun v _ => by
    have : ap_oc m n I v = ap_oc m n J v := ap_ct_eq n fun i hi => by
      (try dsimp only)
      rw [h i hi]
    rw [this]
theorem ap_ct_k {p : Nat → Bool} : ∀ k, ap_ct p k ≤ k
  | 0 => Nat.le_refl 0
  | k + 1 => by
    have := ap_ct_k (p := p) k
    have := ap_b1 (p k)
    rw [ap_ct]
    omega
theorem ap_sm_c {f : Nat → Nat} {c : Nat} (h : ∀ i, f i ≤ c) : ∀ k, ap_sm f k ≤ k * c
  | 0 => by show 0 ≤ 0 * c; omega
  | k + 1 => by
    have := ap_sm_c h k
    have := h k
    rw [ap_sm, Nat.succ_mul]
    omega
theorem ap_B_36 {m : Nat → Nat} {n : Nat} {I : Nat → Bool} (hn : n ≤ 6) : ap_B m n I ≤ 36 := by
  have : ap_B m n I ≤ 6 * 6 := ap_sm_c (fun v => by
    have : ap_oc m n I v ≤ n := ap_ct_k n
    omega) 6
  omega
theorem ap_ct_full {p : Nat → Bool} {k : Nat} (h : ap_ct p k = k) : ∀ i, i < k → p i = true := by
  intro i hi
  cases z : p i
  · have := ap_ct_lt (p := p) (q := fun _ => true) k (fun _ _ _ => rfl) i hi z rfl
    have := ap_ct_k (p := fun _ => true) k
    omega
  · rfl
theorem al_73 {post : Int32 → Prop} {m : Nat → Nat} {n K : Nat} (hn0 : 0 < n) (hn : n ≤ 6) (hm : ∀ b, b < n → m b < 64) (hK : aj_res m n K) (h1 : K = 0 → post 1) (h0 : K ≠ 0 → post 0) : ∃ fu, wL_treeExists_73 post (lN (ap_pk m n)) (nI n) (nI (ap_B m n fun _ => true)) fu 0 1 1 := by
  have hB := ap_B_36 (m := m) (n := n) (I := fun _ => true) hn
  have one : ∀ a, Nat.testBit 1 a = decide (0 = a) := fun a => Nat.testBit_two_pow (n := 0)
  refine pk_loop (fun n' st (s : Nat × Nat) => wL_treeExists_73 post (lN (ap_pk m n)) (nI n) (nI (ap_B m n fun _ => true)) n' (nI s.1) (nI s.2) (nI st)) (fun st s => s.2 < 64 ∧ s.2.testBit 0 = true ∧ ap_ct (fun a => s.2.testBit a) n = st ∧ ap_gr m n (fun a => s.2.testBit a) s.1) n 1 (0, 1) (by omega) ⟨by decide, by decide, ?_, ap_gr0 hn0 fun a _ => ?_⟩ ?_ ?_
  · (try dsimp only)
    have e : ap_ct (fun a => Nat.testBit 1 a) n = ap_ct (fun _ => false) n + 1 := ap_ct_add (p := fun _ => false) n 0 hn0 rfl (by decide) fun i hi => by
      (try dsimp only)
      rw [one, decide_eq_false (fun z => hi z.symm)]
    rw [e, ap_ct_0 n fun _ _ => rfl]
  · (try dsimp only)
    rw [one]
    exact ⟨fun z => (of_decide_eq_true z).symm, fun z => decide_eq_true z.symm⟩
  · intro n' s hI
    obtain ⟨i1, i2, i3, i4⟩ := hI
    have hall := ap_ct_full i3
    have hiff := ap_gr_e hm hall i4 hK
    have hWB := i4.1.1
    rw [ap_B_congr (J := fun _ => true) hall] at hiff hWB
    exact pk_le n n (fun _ => pk_eq s.1 (ap_B m n fun _ => true) (fun z => h1 (hiff.mp z)) (fun z => h0 fun y => z (hiff.mpr y))) (fun z => absurd z (by omega))
  · intro n' st s hst hI hw
    obtain ⟨i1, i2, i3, i4⟩ := hI
    refine pk_le n st (fun z => absurd z (by omega)) (fun _ => al_88 hn hm i1 i2 i3 hst fun best b hs => ?_)
    have hb : b < 6 := by have := hs.1; omega
    have hf : (fun a => (s.2 ||| 2 ^ b).testBit a) = ap_put (fun a => s.2.testBit a) b := by
      funext a
      rw [Nat.testBit_or, Nat.testBit_two_pow, ap_put]
      by_cases e : b = a
      · rw [decide_eq_true e, decide_eq_true e.symm]
      · rw [decide_eq_false e, decide_eq_false fun z => e z.symm]
    refine hw (s.1 + best, s.2 ||| 2 ^ b) ⟨Nat.or_lt_two_pow (n := 6) i1 (Nat.pow_lt_pow_right (by decide) hb), ?_, ?_, ?_⟩
    · (try dsimp only)
      rw [Nat.testBit_or, i2]
      rfl
    · (try dsimp only)
      rw [hf, ap_ct_add n b hs.1 hs.2.1 ap_put_b fun i hi => ap_put_n hi, i3]
    · (try dsimp only)
      rw [hf]
      exact ap_gr_s i4 hs
theorem al_tree {post : Int32 → Prop} {m : Nat → Nat} {n K : Nat} (hn0 : 0 < n) (hn : n ≤ 6) (hm : ∀ b, b < n → m b < 64) (hK : aj_res m n K) (h1 : K = 0 → post 1) (h0 : K ≠ 0 → post 0) : wpL_treeExists post () (lN (ap_pk m n)) (nI n) := by
  refine loop_0 (fun n' v (_ : Unit) => wL_treeExists_11 post (lN (ap_pk m n)) (nI n) 0 1 n' (nI (ap_sm (fun v => ap_oc m n (fun _ => true) v - 1) v)) (nI v)) (fun _ _ => True) 6 () trivial ?_ ?_
  · intro n' _ _
    exact pk_le 6 6 (fun _ => al_73 hn0 hn hm hK h1 h0) (fun z => absurd z (by omega))
  · intro n' v _ hv _ hw
    have hw' := hw () trivial
    refine pk_le 6 v (fun z => absurd z (by omega)) (fun _ => loop_0 (fun n'' a (_ : Unit) => wL_treeExists_24 post (wL_treeExists_11 post (lN (ap_pk m n)) (nI n) 0 1 n') (lN (ap_pk m n)) (nI n) (nI (ap_sm (fun v => ap_oc m n (fun _ => true) v - 1) v)) 0 1 (nI v) n'' (nI (ap_ct (fun a => true && (m a).testBit v) a)) (nI a)) (fun _ _ => True) n () trivial ?_ ?_)
    · intro n'' _ _
      have hle : ap_oc m n (fun _ => true) v ≤ n := ap_ct_k n
      have hs : ap_sm (fun v => ap_oc m n (fun _ => true) v - 1) (v + 1) = ap_sm (fun v => ap_oc m n (fun _ => true) v - 1) v + (ap_oc m n (fun _ => true) v - 1) := rfl
      rw [hs] at hw'
      refine pk_le n n (fun _ => pk_le (ap_oc m n (fun _ => true) v) 0 (fun z => nm_r (nI_1 v) ?_) (fun z => nm_r (e' := nI (ap_sm (fun v => ap_oc m n (fun _ => true) v - 1) v + (ap_oc m n (fun _ => true) v - 1))) ?_ (nm_r (nI_1 v) hw'))) (fun z => absurd z (by omega))
      · rw [show ap_oc m n (fun _ => true) v - 1 = 0 by omega, Nat.add_zero] at hw'
        exact hw'
      · show nI _ + (nI (ap_oc m n (fun _ => true) v) - nI 1) = _
        rw [pk_sub (show 1 ≤ ap_oc m n (fun _ => true) v by omega), nI_add]
    · intro n'' a _ ha _ hw2
      refine pk_le n a (fun z => absurd z (by omega)) (fun _ => al_scopeAt hn hm rfl (by omega) (nm_r (e' := nI (ap_ct (fun a => true && (m a).testBit v) (a + 1))) ?_ (nm_r (nI_1 a) (hw2 () trivial))))
      rw [ap_sc_lt ha, aj_bit (m a) (hm a ha) v hv, nI_add]
      rfl
