section
variable {fV fD fA fR fp : Int32} {sc sy ps : Nat → Int32} {n : Nat} {m : Nat → Nat}
theorem ay_size {post : Int32 → Prop} {x : Int32} {k : Nat} (hx : x = nI k) (hm : k < 64) (h : post (nI (aj_sz k 6))) : wpY_size post (fV, fD, fA, fR, fp, nI n, sc, sy, ps) x := by
  subst hx
  exact loop_0 (fun n' i (_ : Unit) => wY_size_4 post (nI k) fV fD fA fR fp (nI n) sc sy ps n' (nI (aj_sz k i)) (nI i)) (fun _ _ => True) 6 () trivial
    (fun n' _ _ => pk_le 6 6 (fun _ => h) (fun z => absurd z (by omega)))
    (fun n' i _ hi _ hw => pk_le 6 i (fun z => absurd z (by omega)) (fun _ => nm_r (e' := nI (aj_sz k (i + 1))) (by rw [aj_bit k hm i hi, nI_add]; rfl) (nm_r (nI_1 i) (hw () trivial))))
theorem ay_cov {post : Int32 → Prop} (hn : n ≤ 6) (hs : aj_msk m n sc) (h : post (nI (aj_cov m n))) : wpY_coveredMask post (fV, fD, fA, fR, fp, nI n, sc, sy, ps) :=
  loop_0 (fun n' i (_ : Unit) => wY_coveredMask_4 post fV fD fA fR fp (nI n) sc sy ps n' (nI (aj_cov m i)) (nI i)) (fun _ _ => True) n () trivial
    (fun n' _ _ => pk_le n n (fun _ => h) (fun z => absurd z (by omega)))
    (fun n' i _ hi _ hw => pk_le n i (fun z => absurd z (by omega)) (fun _ => ⟨pk_in i 6 (by omega), nm_r (e' := nI (aj_cov m (i + 1))) (by rw [aj_at sc (show i < 2 ^ 31 by omega), (hs i hi).1, aj_or]; rfl) (nm_r (nI_1 i) (hw () trivial))⟩))
theorem ay_tb1 {x : Int32} {k v : Nat} {A B : Prop} (hx : x = nI k) (hm : k < 64) (hv : v < 6) (h1 : k.testBit v = true → A) (h0 : ¬ k.testBit v = true → B) : (((x >>> (nI v &&& 31)) &&& 1) = 1 → A) ∧ (¬ ((x >>> (nI v &&& 31)) &&& 1) = 1 → B) := by
  subst hx
  rw [aj_bit k hm v hv]
  cases hb : k.testBit v
  · exact br_f (by decide) (h0 (by rw [hb]; decide))
  · exact br_t (by decide) (h1 hb)
theorem ay_tb0 {x : Int32} {k v : Nat} {A B : Prop} (hx : x = nI k) (hm : k < 64) (hv : v < 6) (h1 : k.testBit v = true → B) (h0 : ¬ k.testBit v = true → A) : (((x >>> (nI v &&& 31)) &&& 1) = 0 → A) ∧ (¬ ((x >>> (nI v &&& 31)) &&& 1) = 0 → B) := by
  subst hx
  rw [aj_bit k hm v hv]
  cases hb : k.testBit v
  · exact br_t (by decide) (h0 (by rw [hb]; decide))
  · exact br_f (by decide) (h1 hb)
theorem ay_placeIn {post : Int32 → Prop} {a c k : Nat} (ha : a < 6) (hsc : sc a = nI k) (hk : k < 64) (hc : c < 4096) (h : post (nI (a * 64 + aj_ky k c 6))) : wpY_placeIn post (fV, fD, fA, fR, fp, nI n, sc, sy, ps) (nI a) (nI c) :=
  loop_0 (fun n' i (_ : Unit) => wY_placeIn_5 post (nI a) (nI c) fV fD fA fR fp (nI n) sc sy ps n' (nI (aj_ky k c i)) (nI i)) (fun _ _ => True) 6 () trivial
    (fun n _ _ => pk_le 6 6 (fun _ => by rw [aj_ix]; exact h) (fun z => absurd z (by omega)))
    (fun n i _ hi _ hw => pk_le 6 i (fun z => absurd z (by omega)) (fun _ => ⟨pk_in a 6 ha, ay_tb1 ((aj_at sc (by omega)).trans hsc) hk hi
      (fun hb => nm_r (e' := nI (aj_ky k c i * 4 + aj_val c i)) (by rw [aj_vY hc hi, show nI (aj_ky k c i) * 4 = nI (aj_ky k c i * 4) from pk_mul _ 4, nI_add]) (nm_r (nI_1 i) (by
          have := hw () trivial
          rw [aj_ky, if_pos hb] at this
          exact this)))
      (fun hb => nm_r (nI_1 i) (by
          have := hw () trivial
          rw [aj_ky, if_neg hb] at this
          exact this))⟩))
theorem ay_isAns {post : Int32 → Prop} {c : Nat} (hn : n ≤ 6) (hs : aj_msk m n sc) (hc : c < 4096) (h1 : aj_anY m n sy c → post 1) (h0 : ¬ aj_anY m n sy c → post 0) : wpY_isAnswer post (fV, fD, fA, fR, fp, nI n, sc, sy, ps) (nI c) := by
  have second : aj_unc m n c → ∃ n', wY_isAnswer_44 post (nI c) fV fD fA fR fp (nI n) sc sy ps n' 0 := fun hu =>
    loop_0 (fun n' i (_ : Unit) => wY_isAnswer_44 post (nI c) fV fD fA fR fp (nI n) sc sy ps n' (nI i)) (fun i _ => ∀ a, a < i → ¬ sy (a * 64 + aj_ky (m a) c 6) = 0) n () lt_0
      (fun n' _ hI => pk_le n n (fun _ => h1 ⟨hu, hI⟩) (fun z => absurd z (by omega)))
      (fun n' i _ hi hI hw => pk_le n i (fun z => absurd z (by omega)) (fun _ => ay_placeIn (by omega) (hs i hi).1 (hs i hi).2.1 hc (by
        have hk := aj_ky_64 (c := c) (hs i hi).2.2
        refine ⟨pk_in (i * 64 + aj_ky (m i) c 6) 384 (by omega), ?_⟩
        rw [nI_clamp (show i * 64 + aj_ky (m i) c 6 < 2 ^ 31 by omega)]
        exact br_c (fun z => h0 fun H => H.2 i hi z) (fun z => nm_r (nI_1 i) (hw () (lt_s hI z))))))
  exact ay_cov hn hs (loop_0 (fun n' i (_ : Unit) => wY_isAnswer_7 post (nI c) (nI (aj_cov m n)) fV fD fA fR fp (nI n) sc sy ps n' (nI i)) (fun i _ => ∀ v, v < i → (aj_cov m n).testBit v = false → aj_val c v = 0) 6 () lt_0
    (fun n' _ hI => pk_le 6 6 (fun _ => second hI) (fun z => absurd z (by omega)))
    (fun n' i _ hi hI hw => pk_le 6 i (fun z => absurd z (by omega)) (fun _ => ay_tb0 rfl (aj_cov64 hs) hi
      (fun hb => nm_r (nI_1 i) (hw () (lt_s hI fun z => by rw [hb] at z; exact absurd z (by decide))))
      (fun hb => pk_eq (aj_val c i) 0 (fun z => nm_r (nI_1 i) (hw () (lt_s hI fun _ => z))) (fun z => h0 fun H => z (H.1 i hi (Bool.eq_false_iff.mpr hb))) (aj_vY hc hi) rfl (by have := aj_val_lt c i; omega)))))
theorem ay_isLive {post : Int32 → Prop} {a p : Nat} (hn : n ≤ 6) (hs : aj_msk m n sc) (ha : a < n) (hp : p < 64) (h1 : (∃ c, c < 4096 ∧ aj_anY m n sy c ∧ aj_ky (m a) c 6 = p) → post 1) (h0 : (¬ ∃ c, c < 4096 ∧ aj_anY m n sy c ∧ aj_ky (m a) c 6 = p) → post 0) : wpY_isLive post (fV, fD, fA, fR, fp, nI n, sc, sy, ps) (nI a) (nI (a * 64 + p)) :=
  loop_0 (fun n' i (_ : Unit) => wY_isLive_2 post (nI a) (nI (a * 64 + p)) fV fD fA fR fp (nI n) sc sy ps n' (nI i)) (fun i _ => ∀ c, c < i → ¬ (aj_anY m n sy c ∧ aj_ky (m a) c 6 = p)) 4096 () lt_0
    (fun n' _ hI => pk_le 4096 4096 (fun _ => h0 fun ⟨c, hc, H⟩ => hI c hc H) (fun z => absurd z (by omega)))
    (fun n' i _ hi hI hw => pk_le 4096 i (fun z => absurd z (by omega)) (fun _ => ay_placeIn (by omega) (hs a ha).1 (hs a ha).2.1 hi (by
      have hk := aj_ky_64 (c := i) (hs a ha).2.2
      exact pk_eq (a * 64 + aj_ky (m a) i 6) (a * 64 + p) (fun z => ay_isAns hn hs hi (fun H => br_f (by decide) (h1 ⟨i, hi, H, by omega⟩)) (fun H => br_t rfl (nm_r (nI_1 i) (hw () (lt_s hI fun G => H G.1))))) (fun z => nm_r (nI_1 i) (hw () (lt_s hI fun G => z (by rw [G.2])))))))
theorem ay_stuck {post : Int32 → Prop} {S : Nat} (hn : n ≤ 6) (hs : aj_msk m n sc) (hS : S < 64) (h1 : aj_stk m n S → post 1) (h0 : ¬ aj_stk m n S → post 0) : wpY_isStuck post (fV, fD, fA, fR, fp, nI n, sc, sy, ps) (nI S) :=
  loop_0 (fun n' i (_ : Unit) => wY_isStuck_2 post (nI S) fV fD fA fR fp (nI n) sc sy ps n' (nI i)) (fun i _ => ∀ v, v < i → S.testBit v = true → ¬ aj_cl m n S v) 6 () lt_0
    (fun n' _ hI => pk_le 6 6 (fun _ => h1 hI) (fun z => absurd z (by omega)))
    (fun n' i _ hi hI hw => pk_le 6 i (fun z => absurd z (by omega)) (fun _ => ay_tb0 rfl hS hi
      (fun hb => loop_0 (fun n'' j (_ : Unit) => wY_isStuck_24 post (wY_isStuck_2 post (nI S) fV fD fA fR fp (nI n) sc sy ps n') (nI S) (nI i) fV fD fA fR fp (nI n) sc sy ps n'' (nI (aj_nr m S i j)) (nI j)) (fun _ _ => True) n () trivial
        (fun n'' _ _ => pk_le n n (fun _ => loop_0 (fun n3 j (_ : Unit) => wY_isStuck_69 post (wY_isStuck_2 post (nI S) fV fD fA fR fp (nI n) sc sy ps n') (nI S) (nI i) (nI (aj_nr m S i n)) fV fD fA fR fp (nI n) sc sy ps n3 (nI j)) (fun j _ => ∀ a, a < j → ¬ m a &&& aj_nr m S i n = aj_nr m S i n) n () lt_0
            (fun n3 _ hJ => pk_le n n (fun _ => nm_r (nI_1 i) (hw () (lt_s hI fun _ ⟨a, ha, e⟩ => hJ a ha e))) (fun z => absurd z (by omega)))
            (fun n3 j _ hj hJ hw3 => pk_le n j (fun z => absurd z (by omega)) (fun _ => ⟨pk_in j 6 (by omega), by
              have hl := aj_nr_lt (m := m) (v := i) hS n
              have hl2 : m j &&& aj_nr m S i n < 64 := Nat.and_lt_two_pow (n := 6) (m j) hl
              exact pk_eq (m j &&& aj_nr m S i n) (aj_nr m S i n) (fun z => h0 fun H => H i hi hb ⟨j, hj, z⟩) (fun z => nm_r (nI_1 j) (hw3 () (lt_s hJ z))) (by rw [aj_at sc (show j < 2 ^ 31 by omega), (hs j hj).1, nx_and])⟩))) (fun z => absurd z (by omega)))
        (fun n'' j _ hj _ hw2 => pk_le n j (fun z => absurd z (by omega)) (fun _ => ⟨pk_in j 6 (by omega), ay_tb1 ((aj_at sc (by omega)).trans (hs j hj).1) (hs j hj).2.1 hi
          (fun hb2 => ⟨pk_in j 6 (by omega), nm_r (e' := nI (aj_nr m S i (j + 1))) (by rw [aj_at sc (show j < 2 ^ 31 by omega), (hs j hj).1, nx_and, aj_or, aj_nr, if_pos hb2]) (nm_r (nI_1 j) (hw2 () trivial))⟩)
          (fun hb2 => nm_r (nI_1 j) (by
            have := hw2 () trivial
            rw [aj_nr, if_neg hb2] at this
            exact this))⟩)))
      (fun hb => nm_r (nI_1 i) (hw () (lt_s hI fun z => absurd z hb)))))
theorem ay_resMask {post : Int32 → Prop} {K : Nat} (hn : n ≤ 6) (hs : aj_msk m n sc) (hK : aj_res m n K) (h : post (nI K)) : wpY_residueMask post (fV, fD, fA, fR, fp, nI n, sc, sy, ps) := by
  have hC := aj_cov64 hs
  refine ay_cov hn hs (loop_0 (fun n' i U => wY_residueMask_9 post (nI (aj_cov m n)) fV fD fA fR fp (nI n) sc sy ps n' (nI U) (nI i)) (fun i U => U < 64 ∧ ∀ w, w < 6 → (U.testBit w = true ↔ ∃ S, S < i ∧ (aj_sub S (aj_cov m n) ∧ aj_stk m n S) ∧ S.testBit w = true)) 64 0 ⟨by decide, fun w _ => ?_⟩ ?_ ?_)
  · rw [Nat.zero_testBit]
    exact ⟨fun z => absurd z (by decide), fun ⟨S, hS, _⟩ => absurd hS (Nat.not_lt_zero S)⟩
  · intro n' U hI
    have e := aj_res_un hK hI.1 hI.2
    subst e
    exact pk_le 64 64 (fun _ => h) (fun z => absurd z (by omega))
  · intro n' i U hi hI hw
    have no : ¬ (aj_sub i (aj_cov m n) ∧ aj_stk m n i) → wY_residueMask_9 post (nI (aj_cov m n)) fV fD fA fR fp (nI n) sc sy ps n' (nI U) (nI (i + 1)) := fun hno => hw U ⟨hI.1, fun w hw' => by
      rw [hI.2 w hw']
      constructor
      · exact fun ⟨S, h1, h2⟩ => ⟨S, by omega, h2⟩
      · intro ⟨S, h1, h2, h3⟩
        by_cases e : S = i
        · subst e
          exact absurd h2 hno
        · exact ⟨S, by omega, h2, h3⟩⟩
    have yes : (aj_sub i (aj_cov m n) ∧ aj_stk m n i) → wY_residueMask_9 post (nI (aj_cov m n)) fV fD fA fR fp (nI n) sc sy ps n' (nI (U ||| i)) (nI (i + 1)) := fun hyes => hw (U ||| i) ⟨Nat.or_lt_two_pow (n := 6) hI.1 hi, fun w hw' => by
      rw [Nat.testBit_or, Bool.or_eq_true, hI.2 w hw']
      constructor
      · rintro (⟨S, h1, h2⟩ | h)
        · exact ⟨S, by omega, h2⟩
        · exact ⟨i, by omega, hyes, h⟩
      · intro ⟨S, h1, h2, h3⟩
        by_cases e : S = i
        · subst e
          exact Or.inr h3
        · exact Or.inl ⟨S, by omega, h2, h3⟩⟩
    have hl : i &&& aj_cov m n < 64 := Nat.and_lt_two_pow (n := 6) i hC
    have hc : i &&& aj_cov m n = i ↔ aj_sub i (aj_cov m n) := by
      rw [Nat.and_comm]
      exact aj_and_sub hi
    refine pk_le 64 i (fun z => absurd z (by omega)) (fun _ => pk_eq (i &&& aj_cov m n) i (fun z => ?_) (fun z => nm_r (nI_1 i) (no fun H => z (hc.mpr H.1))) (nx_and _ _))
    exact ay_stuck hn hs hi (fun H => br_f (by decide) (nm_r (aj_or _ _) (nm_r (nI_1 i) (yes ⟨hc.mp z, H⟩)))) (fun H => br_t rfl (nm_r (nI_1 i) (no fun G => H G.2)))
theorem ay_count {post : Int32 → Prop} {an : Nat → Int32} (hn : n ≤ 6) (hs : aj_msk m n sc) (ha : ∀ c, c < 4096 → (an c = 0 ↔ ¬ aj_anY m n sy c)) (h : post (nI (aj_cn an 4096))) : ∃ n', wY_count_14 post fV fD fA fR fp (nI n) sc sy ps n' 0 0 :=
  loop_0 (fun n' i (_ : Unit) => wY_count_14 post fV fD fA fR fp (nI n) sc sy ps n' (nI (aj_cn an i)) (nI i)) (fun _ _ => True) 4096 () trivial
    (fun n' _ _ => pk_le 4096 4096 (fun _ => h) (fun z => absurd z (by omega)))
    (fun n' i _ hi _ hw => pk_le 4096 i (fun z => absurd z (by omega)) (fun _ => ay_isAns hn hs hi
      (fun H => br_f (by decide) (nm_r (nI_1 _) (nm_r (nI_1 i) (by have := hw () trivial; rw [aj_cn_p (fun z => (ha i hi).mp z H)] at this; exact this))))
      (fun H => br_t rfl (nm_r (nI_1 i) (by have := hw () trivial; rw [aj_cn_z ((ha i hi).mpr H)] at this; exact this)))))
theorem ay_live {post : Int32 → Prop} {a : Nat} {g : Nat → Int32} (hn : n ≤ 6) (hs : aj_msk m n sc) (ha : a < n) (hg : ∀ p, p < 64 → (g p = 0 ↔ ¬ ∃ c, c < 4096 ∧ aj_anY m n sy c ∧ aj_ky (m a) c 6 = p)) (h : post (nI (aj_cn g 64))) : ∃ n', wY_live_29 post (nI a) fV fD fA fR fp (nI n) sc sy ps n' 0 0 :=
  loop_0 (fun n' i (_ : Unit) => wY_live_29 post (nI a) fV fD fA fR fp (nI n) sc sy ps n' (nI (aj_cn g i)) (nI i)) (fun _ _ => True) 64 () trivial
    (fun n' _ _ => pk_le 64 64 (fun _ => h) (fun z => absurd z (by omega)))
    (fun n' i _ hi _ hw => pk_le 64 i (fun z => absurd z (by omega)) (fun _ => nm_r (aj_ix a i) ⟨pk_in (a * 64 + i) 384 (by omega), by
      rw [aj_at sy (show a * 64 + i < 2 ^ 31 by omega)]
      have z0 : g i = 0 → wY_live_29 post (nI a) fV fD fA fR fp (nI n) sc sy ps n' (nI (aj_cn g i)) (nI (i + 1)) := fun z => by have := hw () trivial; rw [aj_cn_z z] at this; exact this
      refine br_c (fun z => nm_r (nI_1 i) (z0 ((hg i hi).mpr fun ⟨c, hc, H, e⟩ => H.2 a ha (by rw [e]; exact z)))) (fun z => ?_)
      exact ay_isLive hn hs ha hi
        (fun H => br_f (by decide) (nm_r (nI_1 _) (nm_r (nI_1 i) (by have := hw () trivial; rw [aj_cn_p (fun z => (hg i hi).mp z H)] at this; exact this))))
        (fun H => br_t rfl (nm_r (nI_1 i) (z0 ((hg i hi).mpr H))))⟩))
theorem ay_rows {post : Int32 → SY → Prop} {a : Nat} {x5 : Int32} (ha : a < 6) (h : (nI (aj_cn (fun i => sy (a * 64 + i)) 64) < fR → (vp_in x5 384 ∧ ∀ y, y = upd sy x5.toNatClampNeg (vp_nar .boolean 1) → post 0 (fV, fD, fA, fR, fp, nI n, sc, y, ps))) ∧ (¬ nI (aj_cn (fun i => sy (a * 64 + i)) 64) < fR → post (-3) (fV, fD, fA, fR, fp, nI n, sc, sy, ps))) : ∃ n', wY_addRow_47 post (nI a) x5 fV fD fA fR fp (nI n) sc sy ps n' 0 0 :=
  loop_0 (fun n' i (_ : Unit) => wY_addRow_47 post (nI a) x5 fV fD fA fR fp (nI n) sc sy ps n' (nI (aj_cn (fun i => sy (a * 64 + i)) i)) (nI i)) (fun _ _ => True) 64 () trivial
    (fun n' _ _ => pk_le 64 64 (fun _ => h) (fun z => absurd z (by omega)))
    (fun n' i _ hi _ hw => pk_le 64 i (fun z => absurd z (by omega)) (fun _ => by
      rw [aj_ix, aj_at sy (show a * 64 + i < 2 ^ 31 by omega)]
      exact ⟨pk_in (a * 64 + i) 384 (by omega), br_c (fun z => nm_r (nI_1 i) (by have := hw () trivial; rw [aj_cn_z (f := fun i => sy (a * 64 + i)) z] at this; exact this)) (fun z => nm_r (nI_1 _) (nm_r (nI_1 i) (by have := hw () trivial; rw [aj_cn_p (f := fun i => sy (a * 64 + i)) z] at this; exact this)))⟩))
/-- the least place from F on, as the reference looks for it: P is what it asks of a place beside being an answer -/
theorem ay_skip {post : Int32 → SY → Prop} {i q : Nat} {x3 x4 : Int32} {P : Nat → Prop} (hn : n ≤ 6) (hs : aj_msk m n sc) (hi : i < 2)
    (hP : ∀ c, c < 4096 → (P c ↔ ¬ nI c ≤ x3 ∧ (x3 = -1 ∨ ¬ (nI c >>> (x4 &&& 31)) = (x3 >>> (x4 &&& 31)))))
    (q1 : q ≤ 4096) (q2 : ∀ c, c < q → ¬ (P c ∧ aj_anY m n sy c)) (q3 : q < 4096 → P q ∧ aj_anY m n sy q)
    (h : post (aj_out1 q) (fV, fD, fA, fR, fp, nI n, sc, sy, upd ps i (nI q))) : ∃ n', wY_skip_62 post (nI i) x3 x4 fV fD fA fR fp (nI n) sc sy ps n' 0 := by
  refine loop_0 (fun n' c (_ : Unit) => wY_skip_62 post (nI i) x3 x4 fV fD fA fR fp (nI n) sc sy ps n' (nI c)) (fun _ _ => True) q () trivial ?_ ?_
  · intro n' _ _
    refine pk_le 4096 q (fun z => ?_) (fun z => ?_)
    · have e : q = 4096 := by omega
      subst e
      exact ⟨pk_in i 2 hi, nm_r (by rw [nI_clamp (show i < 2 ^ 31 by omega)]; rfl) h⟩
    · rw [aj_out1_t z] at h
      obtain ⟨p1, p2⟩ := q3 z
      obtain ⟨p3, p4⟩ := (hP q z).mp p1
      have last : wY_skip_93 post (wY_skip_62 post (nI i) x3 x4 fV fD fA fR fp (nI n) sc sy ps n') (nI i) x3 x4 (nI q) fV fD fA fR fp (nI n) sc sy ps :=
        ay_isAns hn hs z (fun _ => br_f (by decide) ⟨pk_in i 2 hi, nm_r (by rw [nI_clamp (show i < 2 ^ 31 by omega)]) h⟩) (fun H => absurd p2 H)
      refine br_f p3 (br_c (fun _ => last) (fun g => ?_))
      exact br_f (p4.resolve_left g) last
  · intro n' c _ hc _ hw
    have hw' := hw () trivial
    have hc' : c < 4096 := by omega
    have last : P c → wY_skip_93 post (wY_skip_62 post (nI i) x3 x4 fV fD fA fR fp (nI n) sc sy ps n') (nI i) x3 x4 (nI c) fV fD fA fR fp (nI n) sc sy ps := fun hp =>
      ay_isAns hn hs hc' (fun H => absurd ⟨hp, H⟩ (q2 c hc)) (fun _ => br_t rfl (nm_r (nI_1 c) hw'))
    refine pk_le 4096 c (fun z => absurd z (by omega)) (fun _ => br_c (fun _ => nm_r (nI_1 c) hw') (fun g1 => br_c (fun g2 => last ((hP c hc').mpr ⟨g1, Or.inl g2⟩)) (fun _ => br_c (fun _ => nm_r (nI_1 c) hw') (fun g3 => last ((hP c hc').mpr ⟨g1, Or.inr g3⟩)))))
end
