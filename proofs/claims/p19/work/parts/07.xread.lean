section
variable {fV fD fA fR fp fr : Int32} {sc sx an lv ps : Nat → Int32} {n : Nat} {m : Nat → Nat}
def aj_msk (m : Nat → Nat) (n : Nat) (sc : Nat → Int32) : Prop := ∀ a, a < n → sc a = nI (m a) ∧ m a < 64 ∧ aj_sz (m a) 6 < 4
theorem aj_msk_of {V : Nat} (hV : V ≤ 6) (h : aj_scp m V n sc) : aj_msk m n sc := fun a ha => ⟨(h a ha).1, Nat.lt_of_lt_of_le (h a ha).2.2.1 (aj_p2 hV), (h a ha).2.2.2⟩
theorem aj_at (f : Nat → Int32) {a : Nat} (h : a < 2 ^ 31) : f (nI a).toNatClampNeg = f a := by rw [nI_clamp h]
theorem aj_cov64 (h : aj_msk m n sc) : aj_cov m n < 64 := aj_cov_lt (k := 6) n fun a ha => (h a ha).2.1
theorem aj_ix (a k : Nat) : nI a * 64 + nI k = nI (a * 64 + k) := by
  rw [show nI a * 64 = nI (a * 64) from pk_mul a 64, nI_add]
theorem ax_contains {post : Int32 → Prop} {x : Int32} {k v : Nat} (hx : x = nI k) (hm : k < 64) (hv : v < 6) (h1 : k.testBit v = true → post 1) (h0 : ¬ k.testBit v = true → post 0) : wpX_contains post () x (nI v) := by
  subst hx
  exact br_c (fun z => h0 (by rw [(aj_has k hm v hv).mp z]; decide)) (fun z => h1 (by
    cases hb : k.testBit v
    · exact absurd ((aj_has k hm v hv).mpr hb) z
    · rfl))
theorem ax_sizeOf {post : Int32 → Prop} {x : Int32} {k : Nat} (hx : x = nI k) (hm : k < 64) (h : post (nI (aj_sz k 6))) : wpX_sizeOf post () x := by
  subst hx
  exact loop_0 (fun n i (_ : Unit) => wX_sizeOf_4 post (nI k) n (nI (aj_sz k i)) (nI i)) (fun _ _ => True) 6 () trivial
    (fun n _ _ => pk_le 6 6 (fun _ => h) (fun z => absurd z (by omega)))
    (fun n i _ hi _ hw => pk_le 6 i (fun z => absurd z (by omega)) (fun _ => ax_contains rfl hm hi
      (fun hb => br_f (by decide) (nm_r (nI_1 _) (nm_r (nI_1 i) (by have := hw () trivial; rw [aj_sz_t hb] at this; exact this))))
      (fun hb => br_t rfl (nm_r (nI_1 i) (by have := hw () trivial; rw [aj_sz_f hb] at this; exact this)))))
theorem ax_valueIn {post : Int32 → Prop} {c v : Nat} (hc : c < 4096) (hv : v < 6) (h : post (nI (aj_val c v))) : wpX_valueIn post () (nI c) (nI v) := by
  intro y ey
  subst ey
  rw [aj_vX hc hv]
  exact h
theorem ax_slotA {post : Int32 → Prop} {a c k : Nat} (ha : a < 6) (hsc : sc a = nI k) (hk : k < 64) (h4 : aj_sz k 6 < 4) (hc : c < 4096) (h : post (nI (a * 64 + aj_kx k c 6))) : wpX_slotOfAssignment post (fV, fD, fA, fR, nI n, fp, fr, sc, sx, an, lv, ps) (nI a) (nI c) :=
  loop_0 (fun n' i (_ : Unit) => wX_slotOfAssignment_8 post (nI a) (nI c) fV fD fA fR (nI n) fp fr sc sx an lv ps n' (nI (aj_kx k c i)) (nI (2 * aj_sz k i)) (nI i)) (fun _ _ => True) 6 () trivial
    (fun n _ _ => pk_le 6 6 (fun _ => by rw [aj_ix]; exact h) (fun z => absurd z (by omega)))
    (fun n i _ hi _ hw => pk_le 6 i (fun z => absurd z (by omega)) (fun _ => ⟨pk_in a 6 ha, ax_contains ((aj_at sc (by omega)).trans hsc) hk hi
      (fun hb => br_f (by decide) (ax_valueIn hc hi (nm_r (aj_orK _ (by
          have h5 := aj_sz_mono k (a := i + 1) 6 (by omega)
          rw [aj_sz_t hb] at h5
          omega) _ (aj_kx_lt k c i) _ (aj_val_lt c i)) (nm_r (e' := nI (2 * (aj_sz k i + 1))) (nI_add _ 2) (nm_r (nI_1 i) (by
          have := hw () trivial
          rw [aj_sz_t hb, aj_kx, if_pos hb] at this
          exact this))))))
      (fun hb => br_t rfl (nm_r (nI_1 i) (by
          have := hw () trivial
          rw [aj_sz_f hb, aj_kx, if_neg hb] at this
          exact this)))⟩))
theorem ax_isAns {post : Int32 → Prop} {c : Nat} (hn : n ≤ 6) (hs : aj_msk m n sc) (hc : c < 4096) (h1 : aj_ans m n sx c → post 1) (h0 : ¬ aj_ans m n sx c → post 0) : wpX_isAnswer post (fV, fD, fA, fR, nI n, fp, fr, sc, sx, an, lv, ps) (nI c) (nI (aj_cov m n)) := by
  have second : aj_unc m n c → ∃ n', wX_isAnswer_34 post (nI c) fV fD fA fR (nI n) fp fr sc sx an lv ps n' 0 := fun hu =>
    loop_0 (fun n' i (_ : Unit) => wX_isAnswer_34 post (nI c) fV fD fA fR (nI n) fp fr sc sx an lv ps n' (nI i)) (fun i _ => ∀ a, a < i → ¬ sx (a * 64 + aj_kx (m a) c 6) = 0) n () lt_0
      (fun n' _ hI => pk_le n n (fun _ => h1 ⟨hu, hI⟩) (fun z => absurd z (by omega)))
      (fun n' i _ hi hI hw => pk_le n i (fun z => absurd z (by omega)) (fun _ => ax_slotA (by omega) (hs i hi).1 (hs i hi).2.1 (hs i hi).2.2 hc (by
        have hk := aj_kx_64 (c := c) (hs i hi).2.2
        refine ⟨pk_in (i * 64 + aj_kx (m i) c 6) 384 (by omega), ?_⟩
        rw [nI_clamp (show i * 64 + aj_kx (m i) c 6 < 2 ^ 31 by omega)]
        exact br_c (fun z => h0 fun H => H.2 i hi z) (fun z => nm_r (nI_1 i) (hw () (lt_s hI z))))))
  exact loop_0 (fun n' i (_ : Unit) => wX_isAnswer_2 post (nI c) (nI (aj_cov m n)) fV fD fA fR (nI n) fp fr sc sx an lv ps n' (nI i)) (fun i _ => ∀ v, v < i → (aj_cov m n).testBit v = false → aj_val c v = 0) 6 () lt_0
    (fun n' _ hI => pk_le 6 6 (fun _ => second hI) (fun z => absurd z (by omega)))
    (fun n' i _ hi hI hw => pk_le 6 i (fun z => absurd z (by omega)) (fun _ => ax_contains rfl (aj_cov64 hs) hi
      (fun hb => br_f (by decide) (nm_r (nI_1 i) (hw () (lt_s hI fun z => by rw [hb] at z; exact absurd z (by decide)))))
      (fun hb => br_t rfl (ax_valueIn hc hi (pk_eq (aj_val c i) 0 (fun z => nm_r (nI_1 i) (hw () (lt_s hI fun _ => z))) (fun z => h0 fun H => z (H.1 i hi (Bool.eq_false_iff.mpr hb))) rfl rfl (by have := aj_val_lt c i; omega))))))
theorem ax_count {post : Int32 → Prop} (h : post (nI (aj_cn an 4096))) : ∃ n', wX_count_14 post fV fD fA fR (nI n) fp fr sc sx an lv ps n' 0 0 :=
  loop_0 (fun n' i (_ : Unit) => wX_count_14 post fV fD fA fR (nI n) fp fr sc sx an lv ps n' (nI (aj_cn an i)) (nI i)) (fun _ _ => True) 4096 () trivial
    (fun n' _ _ => pk_le 4096 4096 (fun _ => h) (fun z => absurd z (by omega)))
    (fun n' i _ hi _ hw => pk_le 4096 i (fun z => absurd z (by omega)) (fun _ => ⟨pk_in i 4096 hi, by
      rw [aj_at an (show i < 2 ^ 31 by omega)]
      exact br_c (fun z => nm_r (nI_1 i) (by have := hw () trivial; rw [aj_cn_z z] at this; exact this)) (fun z => nm_r (nI_1 _) (nm_r (nI_1 i) (by have := hw () trivial; rw [aj_cn_p z] at this; exact this)))⟩))
theorem ax_rows {post : Int32 → Prop} {a : Nat} {mk : Nat → Int32} (ha : a < 6) (h : post (nI (aj_cn (fun i => mk (a * 64 + i)) 64))) : wpX_rowsMarked post mk (nI a) :=
  nm_r (pk_mul a 64) (loop_0 (fun n' i (_ : Unit) => wX_rowsMarked_10 post (nI (a * 64)) mk n' (nI (aj_cn (fun i => mk (a * 64 + i)) i)) (nI i)) (fun _ _ => True) 64 () trivial
    (fun n' _ _ => pk_le 64 64 (fun _ => h) (fun z => absurd z (by omega)))
    (fun n' i _ hi _ hw => pk_le 64 i (fun z => absurd z (by omega)) (fun _ => by
      rw [nI_add, aj_at mk (show a * 64 + i < 2 ^ 31 by omega)]
      exact ⟨pk_in (a * 64 + i) 384 (by omega), br_c (fun z => nm_r (nI_1 i) (by have := hw () trivial; rw [aj_cn_z (f := fun i => mk (a * 64 + i)) z] at this; exact this)) (fun z => nm_r (nI_1 _) (nm_r (nI_1 i) (by have := hw () trivial; rw [aj_cn_p (f := fun i => mk (a * 64 + i)) z] at this; exact this)))⟩)))
theorem ax_move {post : Int32 → St2 → Prop} {i F q : Nat} {x : Int32} (hx : x = nI F) (hi : i < 2) (hq : aj_fst an F q) (h : post (aj_out1 q) (fV, fD, fA, fR, nI n, fp, fr, sc, sx, an, lv, upd ps i (nI q))) : wpX_moveToAnswerFrom post (fV, fD, fA, fR, nI n, fp, fr, sc, sx, an, lv, ps) (nI i) x := by
  subst hx
  obtain ⟨q1, q2, q3, q4⟩ := hq
  refine pk_loop (fun n' j (_ : Unit) => wX_moveToAnswerFrom_2 post (nI i) fV fD fA fR (nI n) fp fr sc sx an lv ps n' (nI j)) (fun j _ => F ≤ j) q F () q1 (Nat.le_refl F) ?_ ?_
  · intro n' _ _
    refine pk_le 4096 q (fun z => ?_) (fun z => ⟨pk_in q 4096 z, ?_⟩)
    · have e : q = 4096 := by omega
      subst e
      exact ⟨pk_in i 2 hi, nm_r (by rw [nI_clamp (show i < 2 ^ 31 by omega)]; rfl) h⟩
    · rw [aj_at an (show q < 2 ^ 31 by omega)]
      rw [aj_out1_t z] at h
      exact br_f (q4 z) ⟨pk_in i 2 hi, nm_r (by rw [nI_clamp (show i < 2 ^ 31 by omega)]) h⟩
  · intro n' j _ hj hF hw
    refine pk_le 4096 j (fun z => absurd z (by omega)) (fun z => ⟨pk_in j 4096 z, ?_⟩)
    rw [aj_at an (show j < 2 ^ 31 by omega)]
    exact br_c (fun _ => nm_r (nI_1 j) (hw () (by omega))) (fun z => absurd (q3 j hF hj) z)
end
