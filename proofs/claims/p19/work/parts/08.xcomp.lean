section
variable {fV fD fA fR fp fr : Int32} {sc sx an lv ps : Nat → Int32} {n : Nat} {m : Nat → Nat}
theorem ax_put {post : St2 → Prop} (h : post (fV, fD, fA, fR, nI n, fp, fr, sc, sx, an, lv, upd (upd ps 0 (-1)) 1 (-1))) : wpX_putCursorsAtStart post (fV, fD, fA, fR, nI n, fp, fr, sc, sx, an, lv, ps) :=
  ⟨3, br_f (by decide) ⟨vp_in_nI (n := 0) (by decide) (by decide), nm_e (nm_e (br_f (by decide) ⟨vp_in_nI (n := 1) (by decide) (by decide), nm_e (nm_e (br_t (by decide) h))⟩))⟩⟩
theorem ax_cov {post : Int32 → Prop} (hn : n ≤ 6) (hs : aj_msk m n sc) (h : post (nI (aj_cov m n))) : wpX_coveredVariables post (fV, fD, fA, fR, nI n, fp, fr, sc, sx, an, lv, ps) :=
  loop_0 (fun n' i (_ : Unit) => wX_coveredVariables_4 post fV fD fA fR (nI n) fp fr sc sx an lv ps n' (nI (aj_cov m i)) (nI i)) (fun _ _ => True) n () trivial
    (fun n' _ _ => pk_le n n (fun _ => h) (fun z => absurd z (by omega)))
    (fun n' i _ hi _ hw => pk_le n i (fun z => absurd z (by omega)) (fun _ => ⟨pk_in i 6 (by omega), nm_r (e' := nI (aj_cov m (i + 1))) (by rw [aj_at sc (show i < 2 ^ 31 by omega), (hs i hi).1, aj_or]; rfl) (nm_r (nI_1 i) (hw () trivial))⟩))
theorem ax_near {post : Int32 → Prop} {S v : Nat} (hn : n ≤ 6) (hs : aj_msk m n sc) (hv : v < 6) (h : post (nI (aj_nr m S v n))) : wpX_neighboursWithin post (fV, fD, fA, fR, nI n, fp, fr, sc, sx, an, lv, ps) (nI S) (nI v) :=
  loop_0 (fun n' j (_ : Unit) => wX_neighboursWithin_5 post (nI S) (nI v) fV fD fA fR (nI n) fp fr sc sx an lv ps n' (nI (aj_nr m S v j)) (nI j)) (fun _ _ => True) n () trivial
    (fun n' _ _ => pk_le n n (fun _ => h) (fun z => absurd z (by omega)))
    (fun n' j _ hj _ hw => pk_le n j (fun z => absurd z (by omega)) (fun _ => ⟨pk_in j 6 (by omega), ax_contains ((aj_at sc (by omega)).trans (hs j hj).1) (hs j hj).2.1 hv
      (fun hb => br_f (by decide) ⟨pk_in j 6 (by omega), nm_r (e' := nI (aj_nr m S v (j + 1))) (by rw [aj_at sc (show j < 2 ^ 31 by omega), (hs j hj).1, nx_and, aj_or, aj_nr, if_pos hb]) (nm_r (nI_1 j) (hw () trivial))⟩)
      (fun hb => br_t rfl (nm_r (nI_1 j) (by
        have := hw () trivial
        rw [aj_nr, if_neg hb] at this
        exact this)))⟩))
theorem ax_canLeave {post : Int32 → Prop} {S v : Nat} (hn : n ≤ 6) (hs : aj_msk m n sc) (hS : S < 64) (hv : v < 6) (h1 : aj_cl m n S v → post 1) (h0 : ¬ aj_cl m n S v → post 0) : wpX_canLeave post (fV, fD, fA, fR, nI n, fp, fr, sc, sx, an, lv, ps) (nI S) (nI v) :=
  ax_near hn hs hv (loop_0 (fun n' j (_ : Unit) => wX_canLeave_10 post (nI (aj_nr m S v n)) fV fD fA fR (nI n) fp fr sc sx an lv ps n' (nI j)) (fun j _ => ∀ a, a < j → ¬ m a &&& aj_nr m S v n = aj_nr m S v n) n () lt_0
    (fun n' _ hJ => pk_le n n (fun _ => h0 fun ⟨a, ha, e⟩ => hJ a ha e) (fun z => absurd z (by omega)))
    (fun n' j _ hj hJ hw => pk_le n j (fun z => absurd z (by omega)) (fun _ => ⟨pk_in j 6 (by omega), by
      have hl := aj_nr_lt (m := m) (v := v) hS n
      have hl2 : m j &&& aj_nr m S v n < 64 := Nat.and_lt_two_pow (n := 6) (m j) hl
      exact pk_eq (m j &&& aj_nr m S v n) (aj_nr m S v n) (fun z => h1 ⟨j, hj, z⟩) (fun z => nm_r (nI_1 j) (hw () (lt_s hJ z))) (by rw [aj_at sc (show j < 2 ^ 31 by omega), (hs j hj).1, nx_and])⟩)))
theorem ax_residue {post : Int32 → Prop} (hn : n ≤ 6) (hs : aj_msk m n sc) (h : ∀ K, aj_res m n K → post (nI K)) : wpX_residueWithin post (fV, fD, fA, fR, nI n, fp, fr, sc, sx, an, lv, ps) (nI (aj_cov m n)) := by
  refine loop_0 (fun n' i K => wX_residueWithin_4 post fV fD fA fR (nI n) fp fr sc sx an lv ps n' (nI K) (nI i)) (fun i K => aj_out m n i K) 6 (aj_cov m n) (aj_out0 (aj_cov64 hs)) ?_ ?_
  · intro n' K hI
    exact pk_le 6 6 (fun _ => h K (aj_out6 hI)) (fun z => absurd z (by omega))
  · intro n' i K0 hi hI hw
    refine pk_le 6 i (fun z => absurd z (by omega)) (fun _ => loop_0 (fun n'' v K => wX_residueWithin_13 post (wX_residueWithin_4 post fV fD fA fR (nI n) fp fr sc sx an lv ps n') (nI i) fV fD fA fR (nI n) fp fr sc sx an lv ps n'' (nI K) (nI v)) (fun v K => aj_inn m n K0 v K) 6 K0 (aj_inn0 hI.1) ?_ ?_)
    · intro n'' K hJ
      exact pk_le 6 6 (fun _ => nm_r (nI_1 i) (hw K (aj_out_s hI hJ))) (fun z => absurd z (by omega))
    · intro n'' v K hv hJ hw2
      have hK := hJ.1.1
      exact pk_le 6 v (fun z => absurd z (by omega)) (fun _ => ax_contains rfl hK hv
        (fun hb => br_f (by decide) (ax_canLeave hn hs hK hv
          (fun hc => br_f (by decide) (nm_r (aj_rmI K hK v hv) (nm_r (nI_1 v) (hw2 _ (aj_inn_yes hJ hv hb hc)))))
          (fun hc => br_t rfl (nm_r (nI_1 v) (hw2 K (aj_inn_no hJ fun _ => hc))))))
        (fun hb => br_t rfl (nm_r (nI_1 v) (hw2 K (aj_inn_no hJ fun z => absurd z hb)))))
theorem aj_nb : vp_nar .boolean 1 = 1 ∧ vp_nar .boolean 0 = 0 := ⟨rfl, rfl⟩
/-- the marks of one answer -/
def aj_mark (m : Nat → Nat) (k c : Nat) (lv lv' : Nat → Int32) : Prop := ∀ a, a < 6 → ∀ x, x < 64 → (lv' (a * 64 + x) = 0 ↔ lv (a * 64 + x) = 0 ∧ ¬ (a < k ∧ aj_kx (m a) c 6 = x))
theorem aj_mark_s {k c : Nat} {l0 l1 : Nat → Int32} (h : aj_mark m k c l0 l1) (h4 : aj_sz (m k) 6 < 4) : aj_mark m (k + 1) c l0 (upd l1 (k * 64 + aj_kx (m k) c 6) 1) := by
  intro a ha x hx
  have hk := aj_kx_64 (c := c) h4
  by_cases e : a = k ∧ x = aj_kx (m k) c 6
  · obtain ⟨e1, e2⟩ := e
    subst e1
    subst e2
    rw [pk_us]
    constructor
    · intro z
      exact absurd z (by decide)
    · intro z
      exact absurd ⟨by omega, rfl⟩ z.2
  · rw [pk_un (fun z => e (by omega)), h a ha x hx]
    constructor
    · intro ⟨z1, z2⟩
      refine ⟨z1, fun ⟨z3, z4⟩ => ?_⟩
      by_cases e2 : a = k
      · subst e2
        exact e ⟨rfl, z4.symm⟩
      · exact z2 ⟨by omega, z4⟩
    · intro ⟨z1, z2⟩
      exact ⟨z1, fun ⟨z3, z4⟩ => z2 ⟨by omega, z4⟩⟩
theorem ax_mark {post : St2 → Prop} {c : Nat} (hn : n ≤ 6) (hs : aj_msk m n sc) (hc : c < 4096) (h : ∀ l, aj_mark m n c lv l → post (fV, fD, fA, fR, nI n, fp, fr, sc, sx, an, l, ps)) : wpX_markLiveRows post (fV, fD, fA, fR, nI n, fp, fr, sc, sx, an, lv, ps) (nI c) := by
  refine loop_0 (fun n' i l => wX_markLiveRows_2 post (nI c) fV fD fA fR (nI n) fp fr n' (nI i) sc sx an l ps) (fun i l => aj_mark m i c lv l) n lv ?_ ?_ ?_
  · intro a _ x _
    exact ⟨fun z => ⟨z, fun y => absurd y.1 (Nat.not_lt_zero a)⟩, fun z => z.1⟩
  · intro n' l hI
    exact pk_le n n (fun _ => h l hI) (fun z => absurd z (by omega))
  · intro n' i l hi hI hw
    have hk := aj_kx_64 (c := c) (hs i hi).2.2
    exact pk_le n i (fun z => absurd z (by omega)) (fun _ => ax_slotA (by omega) (hs i hi).1 (hs i hi).2.1 (hs i hi).2.2 hc ⟨pk_in (i * 64 + aj_kx (m i) c 6) 384 (by omega), nm_r (by rw [nI_clamp (show i * 64 + aj_kx (m i) c 6 < 2 ^ 31 by omega)]) (nm_r (nI_1 i) (hw _ (aj_mark_s hI (hs i hi).2.2)))⟩)
theorem aj_rdA_s {k : Nat} {a1 : Nat → Int32} {z : Int32} (h : aj_rdA m n sx a1 k) (hz : z = 0 ↔ ¬ aj_ans m n sx k) : aj_rdA m n sx (upd a1 k z) (k + 1) := by
  intro c hc
  by_cases e : c = k
  · subst e
    rw [pk_us]
    exact hz
  · rw [pk_un e]
    exact h c (by omega)
theorem aj_rdL_n {k : Nat} {l : Nat → Int32} (h : aj_rdL m n sx l k) (hz : ¬ aj_ans m n sx k) : aj_rdL m n sx l (k + 1) := by
  intro a ha x hx
  rw [h a ha x hx]
  constructor
  · intro z ⟨c, hc, hA, e⟩
    by_cases e2 : c = k
    · subst e2
      exact hz hA
    · exact z ⟨c, by omega, hA, e⟩
  · intro z ⟨c, hc, hA, e⟩
    exact z ⟨c, by omega, hA, e⟩
theorem aj_rdL_y {k : Nat} {l l' : Nat → Int32} (hn : n ≤ 6) (h : aj_rdL m n sx l k) (hm : aj_mark m n k l l') (hz : aj_ans m n sx k) : aj_rdL m n sx l' (k + 1) := by
  intro a ha x hx
  rw [hm a (by omega) x hx, h a ha x hx]
  constructor
  · intro ⟨z1, z2⟩ ⟨c, hc, hA, e⟩
    by_cases e2 : c = k
    · subst e2
      exact z2 ⟨ha, e⟩
    · exact z1 ⟨c, by omega, hA, e⟩
  · intro z
    exact ⟨fun ⟨c, hc, hA, e⟩ => z ⟨c, by omega, hA, e⟩, fun y => z ⟨k, by omega, hz, y.2⟩⟩
theorem ax_find {post : St2 → Prop} (hn : n ≤ 6) (hs : aj_msk m n sc) (h : ∀ a1 l1, aj_rdA m n sx a1 4096 → aj_rdL m n sx l1 4096 → post (fV, fD, fA, fR, nI n, fp, fr, sc, sx, a1, l1, ps)) : wpX_findAnswers post (fV, fD, fA, fR, nI n, fp, fr, sc, sx, an, lv, ps) (nI (aj_cov m n)) := by
  have second : ∀ l, (∀ i, i < 384 → l i = 0) → ∃ n', wX_findAnswers_24 post (nI (aj_cov m n)) n' 0 fV fD fA fR (nI n) fp fr sc sx an l ps := by
    intro l hl
    refine loop_0 (fun n' i s => wX_findAnswers_24 post (nI (aj_cov m n)) n' (nI i) fV fD fA fR (nI n) fp fr sc sx s.1 s.2 ps) (fun i s => aj_rdA m n sx s.1 i ∧ aj_rdL m n sx s.2 i) 4096 (an, l) ⟨lt_0, fun a ha x hx => ?_⟩ ?_ ?_
    · dsimp only
      exact ⟨fun _ ⟨c, hc, _⟩ => absurd hc (Nat.not_lt_zero c), fun _ => hl _ (by omega)⟩
    · intro n' s hI
      exact pk_le 4096 4096 (fun _ => h s.1 s.2 hI.1 hI.2) (fun z => absurd z (by omega))
    · intro n' i s hi hI hw
      refine pk_le 4096 i (fun z => absurd z (by omega)) (fun _ => ax_isAns hn hs hi (fun H => ?_) (fun H => ?_))
      · refine ⟨pk_in i 4096 hi, nm_r (e' := upd s.1 i 1) (by rw [nI_clamp (show i < 2 ^ 31 by omega), aj_nb.1]) ⟨pk_in i 4096 hi, ?_⟩⟩
        rw [nI_clamp (show i < 2 ^ 31 by omega), pk_us]
        exact br_f (by decide) (ax_mark hn hs hi fun l' hl' => nm_r (nI_1 i) (hw (upd s.1 i 1, l') ⟨aj_rdA_s hI.1 ⟨fun z => absurd z (by decide), fun z => absurd H z⟩, aj_rdL_y hn hI.2 hl' H⟩))
      · refine ⟨pk_in i 4096 hi, nm_r (e' := upd s.1 i 0) (by rw [nI_clamp (show i < 2 ^ 31 by omega), aj_nb.2]) ⟨pk_in i 4096 hi, ?_⟩⟩
        rw [nI_clamp (show i < 2 ^ 31 by omega), pk_us]
        exact br_t rfl (nm_r (nI_1 i) (hw (upd s.1 i 0, s.2) ⟨aj_rdA_s hI.1 ⟨fun _ => H, fun _ => rfl⟩, aj_rdL_n hI.2 H⟩))
  refine loop_0 (fun n' i l => wX_findAnswers_2 post (nI (aj_cov m n)) fV fD fA fR (nI n) fp fr n' (nI i) sc sx an l ps) (fun i l => ∀ j, j < i → l j = 0) 384 lv lt_0 ?_ ?_
  · intro n' l hI
    exact pk_le 384 384 (fun _ => second l hI) (fun z => absurd z (by omega))
  · intro n' i l hi hI hw
    refine pk_le 384 i (fun z => absurd z (by omega)) (fun _ => ⟨pk_in i 384 hi, nm_r (e' := upd l i 0) (by rw [nI_clamp (show i < 2 ^ 31 by omega)]) (nm_r (nI_1 i) (hw _ fun j hj => ?_))⟩)
    by_cases e : j = i
    · rw [e, pk_us]
    · rw [pk_un e]
      exact hI j (by omega)
end
