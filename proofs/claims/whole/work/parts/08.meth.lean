theorem aj_shV : ∀ V, V < 7 → (1 : Int32) <<< (nI V &&& 31) = nI (2 ^ V) := by decide +kernel
theorem i_vc_addAtom {k : Nat} {u : SX} {v : SY} (I : i_Rel k u v) (hk : k + 5 ≤ 2564) (v1 : Int32) : wpX_addAtom (fun r u' => wpY_addAtom (fun r' v' => r' = r ∧ i_Rel (k + 5) u' v') v v1) u v1 := by
  obtain ⟨V, D, AL, n, ph, m, fR, rs, sc, sx, an, lv, ps, sy, rfl, rfl, hI⟩ := I
  have R : i_Rel (k + 5) (nI V, nI D, nI AL, fR, nI n, nI ph, rs, sc, sx, an, lv, ps) (nI V, nI D, nI AL, fR, nI ph, nI n, sc, sy, ps) := ⟨V, D, AL, n, ph, m, fR, rs, sc, sx, an, lv, ps, sy, rfl, rfl, hI⟩
  obtain ⟨⟨b1, b2, b3, b4, b5, b6⟩, hs, ht, hp, hr, hK⟩ := hI
  by_cases hph : ph = 0
  · subst hph
    refine br_t rfl ?_
    have hV := aj_p2 b2
    rcases aj_dec v1 with hx | ⟨s, hs31, rfl⟩
    · have h1 : v1 < 1 := by
        refine Int32.not_le.mp fun z => ?_
        exact Int32.not_lt.mpr (Int32.le_trans (by decide) z) hx
      exact br_t h1 (br_f (by decide) (br_t rfl (br_t h1 ⟨rfl, R⟩)))
    · by_cases h1 : s < 1
      · have h1' : nI s < 1 := nI_lt (b := 1) h1 (by decide)
        exact br_t h1' (br_f (by decide) (br_t rfl (br_t h1' ⟨rfl, R⟩)))
      · have h1' : ¬ nI s < 1 := nI_nlt (b := 1) (by omega) hs31
        by_cases h2 : 2 ^ V ≤ s
        · have h2' : (1 : Int32) <<< (nI V &&& 31) ≤ nI s := by
            rw [aj_shV V (by omega)]
            exact nI_le h2 hs31
          exact br_f h1' (br_t h2' (br_f (by decide) (br_t rfl (br_f h1' (br_t h2' ⟨rfl, R⟩)))))
        · have h2' : ¬ (1 : Int32) <<< (nI V &&& 31) ≤ nI s := by
            rw [aj_shV V (by omega)]
            exact nI_ge (by omega) (by omega)
          have hs64 : s < 64 := by omega
          refine br_f h1' (br_f h2' (ax_sizeOf rfl hs64 ?_))
          have hz := aj_sz_le s 6
          by_cases h3 : aj_sz s 6 ≤ 3
          · refine br_t (nI_le (b := 3) h3 (by decide)) (br_t rfl ?_)
            by_cases h4 : n < AL
            · refine br_t (nI_lt h4 (by omega)) ⟨pk_in n 6 (by omega), nm_r (by rw [nI_clamp (show n < 2 ^ 31 by omega)]) (nm_r (nI_1 n) (br_t rfl (br_f h1' (br_f h2' (ay_size rfl hs64 (br_t (nI_le (b := 3) h3 (by decide)) (br_t (nI_lt h4 (by omega)) ⟨pk_in n 6 (by omega), nm_r (by rw [nI_clamp (show n < 2 ^ 31 by omega)]) (nm_r (nI_1 n) ⟨nI_pred n, ?_⟩)⟩)))))))⟩
              exact ⟨V, D, AL, n + 1, 0, aj_mk m n s, fR, rs, upd sc n (nI s), sx, an, lv, ps, sy, rfl, rfl, ⟨b1, b2, b3, b4, by omega, b6⟩, aj_scp_add hs (by omega) (by omega) (by omega), aj_sto_add ht (by omega), hp, fun z => absurd z (by decide), fun z => absurd rfl z⟩
            · have h4' : ¬ nI n < nI AL := nI_nlt (by omega) (by omega)
              exact br_f h4' (br_t rfl (br_f h1' (br_f h2' (ay_size rfl hs64 (br_t (nI_le (b := 3) h3 (by decide)) (br_f h4' ⟨rfl, R⟩))))))
          · have h3' : ¬ nI (aj_sz s 6) ≤ 3 := nI_ge (a := 3) (by omega) (by omega)
            exact br_f h3' (br_f (by decide) (br_t rfl (br_f h1' (br_f h2' (ay_size rfl hs64 (br_f h3' ⟨rfl, R⟩))))))
  · have h0 := aj_n0 hph (show ph < 2 ^ 31 by omega)
    exact br_f h0 (br_f h0 ⟨rfl, R⟩)
theorem i_vc_addRow {k : Nat} {u : SX} {v : SY} (I : i_Rel k u v) (hk : k + 5 ≤ 2564) (v1 : Int32) (v2 : Int32) (v3 : Int32) (v4 : Int32) : wpX_addRow (fun r u' => wpY_addRow (fun r' v' => r' = r ∧ i_Rel (k + 5) u' v') v v1 v2 v3 v4) u v1 v2 v3 v4 := by
  obtain ⟨V, D, AL, n, ph, m, fR, rs, sc, sx, an, lv, ps, sy, rfl, rfl, hI⟩ := I
  have R : i_Rel (k + 5) (nI V, nI D, nI AL, fR, nI n, nI ph, rs, sc, sx, an, lv, ps) (nI V, nI D, nI AL, fR, nI ph, nI n, sc, sy, ps) := ⟨V, D, AL, n, ph, m, fR, rs, sc, sx, an, lv, ps, sy, rfl, rfl, hI⟩
  obtain ⟨⟨b1, b2, b3, b4, b5, b6⟩, hs, ht, hp, hr, hK⟩ := hI
  have hn : n ≤ 6 := by omega
  by_cases hph : ph = 0
  · subst hph
    refine br_t rfl ?_
    rcases aj_badOr n v1 with hx | ⟨a, ha, rfl⟩
    · exact ax_badA hn hx (br_f (by decide) (br_t rfl (aj_bb (by omega) hx (br_f (by decide) ⟨rfl, R⟩))))
    · refine ax_okA hn ha (br_t rfl ?_)
      rcases aj_slot (sy := sy) b2 hn b3 hs ha v2 v3 v4 with ⟨hX, hY⟩ | ⟨q, hq, hX, hY⟩
      · exact hX _ (br_t rfl (br_t rfl (hY _ (br_f (by decide) ⟨rfl, R⟩))))
      · refine hX _ (br_f (aj_nm1 (by omega)) ⟨pk_in (a * 64 + q) 384 (by omega), ?_⟩)
        have hpm := (aj_pm_in _ (hs a ha).2.2.2 q hq).1
        have e := ht.1 a ha q hq
        rw [aj_at sx (show a * 64 + q < 2 ^ 31 by omega)]
        have hge : (0 : Int32) ≤ nI (a * 64 + aj_pm (aj_sz (m a) 6) q) := nI_pos' (by omega)
        have hin : vp_in (nI (a * 64 + aj_pm (aj_sz (m a) 6) q)) 384 := pk_in (a * 64 + aj_pm (aj_sz (m a) 6) q) 384 (by omega)
        by_cases z : sx (a * 64 + q) = 0
        · have z' : sy (nI (a * 64 + aj_pm (aj_sz (m a) 6) q)).toNatClampNeg = 0 := by rw [aj_at sy (by omega), ← e, z]
          refine br_t z (ax_rowsS (by omega) ?_)
          have ec := aj_sto_cn hs ht ha
          by_cases c : nI (aj_cn (fun i => sx (a * 64 + i)) 64) < fR
          · refine br_t c ⟨pk_in (a * 64 + q) 384 (by omega), nm_r (e' := upd sx (a * 64 + q) 1) (by rw [nI_clamp (show a * 64 + q < 2 ^ 31 by omega), aj_nb.1]) (br_t rfl (hY _ (br_t hge ⟨hin, br_t z' (ay_rows (by omega) (br_t (by rw [← ec]; exact c) ⟨hin, nm_r (e' := upd sy (a * 64 + aj_pm (aj_sz (m a) 6) q) 1) (by rw [nI_clamp (show a * 64 + aj_pm (aj_sz (m a) 6) q < 2 ^ 31 by omega), aj_nb.1]) ⟨rfl, ?_⟩⟩))⟩)))⟩
            exact ⟨V, D, AL, n, 0, m, fR, rs, sc, upd sx (a * 64 + q) 1, an, lv, ps, upd sy (a * 64 + aj_pm (aj_sz (m a) 6) q) 1, rfl, rfl, ⟨b1, b2, b3, b4, b5, b6⟩, hs, aj_sto_upd 1 hs ht ha hq, hp, fun z => absurd z (by decide), fun z => absurd rfl z⟩
          · exact br_f c (br_t rfl (hY _ (br_t hge ⟨hin, br_t z' (ay_rows (by omega) (br_f (by rw [← ec]; exact c) ⟨rfl, R⟩))⟩)))
        · have z' : ¬ sy (nI (a * 64 + aj_pm (aj_sz (m a) 6) q)).toNatClampNeg = 0 := by rw [aj_at sy (by omega), ← e]; exact z
          exact br_f z (br_t rfl (hY _ (br_t hge ⟨hin, br_f z' ⟨rfl, R⟩⟩)))
  · have h0 := aj_n0 hph (show ph < 2 ^ 31 by omega)
    exact br_f h0 (br_f h0 ⟨rfl, R⟩)
theorem i_vc_dropRow {k : Nat} {u : SX} {v : SY} (I : i_Rel k u v) (hk : k + 5 ≤ 2564) (v1 : Int32) (v2 : Int32) (v3 : Int32) (v4 : Int32) : wpX_dropRow (fun r u' => wpY_dropRow (fun r' v' => r' = r ∧ i_Rel (k + 5) u' v') v v1 v2 v3 v4) u v1 v2 v3 v4 := by
  obtain ⟨V, D, AL, n, ph, m, fR, rs, sc, sx, an, lv, ps, sy, rfl, rfl, hI⟩ := I
  have R : i_Rel (k + 5) (nI V, nI D, nI AL, fR, nI n, nI ph, rs, sc, sx, an, lv, ps) (nI V, nI D, nI AL, fR, nI ph, nI n, sc, sy, ps) := ⟨V, D, AL, n, ph, m, fR, rs, sc, sx, an, lv, ps, sy, rfl, rfl, hI⟩
  obtain ⟨⟨b1, b2, b3, b4, b5, b6⟩, hs, ht, hp, hr, hK⟩ := hI
  have hn : n ≤ 6 := by omega
  by_cases hph : ph = 0
  · subst hph
    refine br_t rfl ?_
    rcases aj_badOr n v1 with hx | ⟨a, ha, rfl⟩
    · exact ax_badA hn hx (br_f (by decide) (br_t rfl (aj_bb (by omega) hx (br_f (by decide) ⟨rfl, R⟩))))
    · refine ax_okA hn ha (br_t rfl ?_)
      rcases aj_slot (sy := sy) b2 hn b3 hs ha v2 v3 v4 with ⟨hX, hY⟩ | ⟨q, hq, hX, hY⟩
      · exact hX _ (br_t rfl (br_t rfl (hY _ (br_f (by decide) ⟨rfl, R⟩))))
      · refine hX _ (br_f (aj_nm1 (by omega)) ⟨pk_in (a * 64 + q) 384 (by omega), ?_⟩)
        have hpm := (aj_pm_in _ (hs a ha).2.2.2 q hq).1
        have e := ht.1 a ha q hq
        rw [aj_at sx (show a * 64 + q < 2 ^ 31 by omega)]
        have hge : (0 : Int32) ≤ nI (a * 64 + aj_pm (aj_sz (m a) 6) q) := nI_pos' (by omega)
        have hin : vp_in (nI (a * 64 + aj_pm (aj_sz (m a) 6) q)) 384 := pk_in (a * 64 + aj_pm (aj_sz (m a) 6) q) 384 (by omega)
        by_cases z : sx (a * 64 + q) = 0
        · have z' : sy (nI (a * 64 + aj_pm (aj_sz (m a) 6) q)).toNatClampNeg = 0 := by rw [aj_at sy (by omega), ← e, z]
          exact br_t z (br_t rfl (hY _ (br_t hge ⟨hin, br_t z' ⟨rfl, R⟩⟩)))
        · have z' : ¬ sy (nI (a * 64 + aj_pm (aj_sz (m a) 6) q)).toNatClampNeg = 0 := by rw [aj_at sy (by omega), ← e]; exact z
          refine br_f z ⟨pk_in (a * 64 + q) 384 (by omega), nm_r (e' := upd sx (a * 64 + q) 0) (by rw [nI_clamp (show a * 64 + q < 2 ^ 31 by omega), aj_nb.2]) (br_t rfl (hY _ (br_t hge ⟨hin, br_f z' ⟨hin, nm_r (e' := upd sy (a * 64 + aj_pm (aj_sz (m a) 6) q) 0) (by rw [nI_clamp (show a * 64 + aj_pm (aj_sz (m a) 6) q < 2 ^ 31 by omega), aj_nb.2]) ⟨rfl, ?_⟩⟩⟩)))⟩
          exact ⟨V, D, AL, n, 0, m, fR, rs, sc, upd sx (a * 64 + q) 0, an, lv, ps, upd sy (a * 64 + aj_pm (aj_sz (m a) 6) q) 0, rfl, rfl, ⟨b1, b2, b3, b4, b5, b6⟩, hs, aj_sto_upd 0 hs ht ha hq, hp, fun z => absurd z (by decide), fun z => absurd rfl z⟩
  · have h0 := aj_n0 hph (show ph < 2 ^ 31 by omega)
    exact br_f h0 (br_f h0 ⟨rfl, R⟩)
theorem aj_pos0 {V : Nat} {ps : Nat → Int32} : aj_pos V (upd (upd ps 0 (-1)) 1 (-1)) := by
  intro i hi
  have e : i = 0 ∨ i = 1 := by omega
  rcases e with e | e <;> subst e <;> exact Or.inl rfl
theorem i_vc_compile {k : Nat} {u : SX} {v : SY} (I : i_Rel k u v) (hk : k + 5 ≤ 2564) : wpX_compile (fun r u' => wpY_compile (fun r' v' => r' = r ∧ i_Rel (k + 5) u' v') v) u := by
  obtain ⟨V, D, AL, n, ph, m, fR, rs, sc, sx, an, lv, ps, sy, rfl, rfl, hI⟩ := I
  have R : i_Rel (k + 5) (nI V, nI D, nI AL, fR, nI n, nI ph, rs, sc, sx, an, lv, ps) (nI V, nI D, nI AL, fR, nI ph, nI n, sc, sy, ps) := ⟨V, D, AL, n, ph, m, fR, rs, sc, sx, an, lv, ps, sy, rfl, rfl, hI⟩
  obtain ⟨⟨b1, b2, b3, b4, b5, b6⟩, hs, ht, hp, hr, hK⟩ := hI
  have hn : n ≤ 6 := by omega
  have hm := aj_msk_of b2 hs
  by_cases hph : ph = 0
  · subst hph
    refine br_t rfl ?_
    by_cases hz : n = 0
    · subst hz
      exact br_t rfl (br_t rfl (br_t rfl ⟨rfl, R⟩))
    · have hz' := aj_n0 hz (show n < 2 ^ 31 by omega)
      refine br_f hz' (ax_put (ax_cov hn hm (ax_residue hn hm fun K hres => ?_)))
      have h64 := hres.1.1
      refine pk_eq K 0 (fun e => ?_) (fun e => ?_)
      · subst e
        refine ax_find hn hm fun a1 l1 hA hL => br_t rfl (br_f hz' (nm_e (nm_e (ay_resMask hn hm hres (br_t rfl ⟨rfl, ?_⟩)))))
        exact ⟨V, D, AL, n, 1, m, fR, nI 0, sc, sx, a1, l1, upd (upd ps 0 (-1)) 1 (-1), sy, rfl, rfl, ⟨b1, b2, b3, b4, b5, by omega⟩, hs, ht, aj_pos0, fun _ => ⟨hA, hL⟩, fun _ => ⟨0, hres, rfl⟩⟩
      · have e' := aj_n0 e (show K < 2 ^ 31 by omega)
        refine br_t rfl (br_f hz' (nm_e (nm_e (ay_resMask hn hm hres (br_f e' ⟨rfl, ?_⟩)))))
        exact ⟨V, D, AL, n, 2, m, fR, nI K, sc, sx, an, lv, upd (upd ps 0 (-1)) 1 (-1), sy, rfl, rfl, ⟨b1, b2, b3, b4, b5, by omega⟩, hs, ht, aj_pos0, fun z => absurd z (by decide), fun _ => ⟨K, hres, rfl⟩⟩
  · have h0 := aj_n0 hph (show ph < 2 ^ 31 by omega)
    exact br_f h0 (br_f h0 ⟨rfl, R⟩)
theorem i_vc_reopen {k : Nat} {u : SX} {v : SY} (I : i_Rel k u v) (hk : k + 5 ≤ 2564) : wpX_reopen (fun r u' => wpY_reopen (fun r' v' => r' = r ∧ i_Rel (k + 5) u' v') v) u := by
  obtain ⟨V, D, AL, n, ph, m, fR, rs, sc, sx, an, lv, ps, sy, rfl, rfl, hI⟩ := I
  have R : i_Rel (k + 5) (nI V, nI D, nI AL, fR, nI n, nI ph, rs, sc, sx, an, lv, ps) (nI V, nI D, nI AL, fR, nI ph, nI n, sc, sy, ps) := ⟨V, D, AL, n, ph, m, fR, rs, sc, sx, an, lv, ps, sy, rfl, rfl, hI⟩
  obtain ⟨⟨b1, b2, b3, b4, b5, b6⟩, hs, ht, hp, hr, hK⟩ := hI
  by_cases hph : nI ph = 0
  · exact br_t hph (br_t hph ⟨rfl, R⟩)
  · exact br_f hph (br_f hph ⟨rfl, V, D, AL, n, 0, m, fR, rs, sc, sx, an, lv, ps, sy, rfl, rfl, ⟨b1, b2, b3, b4, b5, by omega⟩, hs, ht, hp, fun z => absurd z (by decide), fun z => absurd rfl z⟩)
theorem i_vc_phase {k : Nat} {u : SX} {v : SY} (I : i_Rel k u v) (hk : k + 5 ≤ 2564) : wpX_phase (fun r => wpY_phase (fun r' => r' = r ∧ i_Rel (k + 5) u v) v) u := by
  obtain ⟨V, D, AL, n, ph, m, fR, rs, sc, sx, an, lv, ps, sy, rfl, rfl, hI⟩ := I
  exact ⟨rfl, V, D, AL, n, ph, m, fR, rs, sc, sx, an, lv, ps, sy, rfl, rfl, hI⟩
theorem i_vc_scope {k : Nat} {u : SX} {v : SY} (I : i_Rel k u v) (hk : k + 5 ≤ 2564) (v1 : Int32) : wpX_scope (fun r => wpY_scope (fun r' => r' = r ∧ i_Rel (k + 5) u v) v v1) u v1 := by
  obtain ⟨V, D, AL, n, ph, m, fR, rs, sc, sx, an, lv, ps, sy, rfl, rfl, hI⟩ := I
  have R : i_Rel (k + 5) (nI V, nI D, nI AL, fR, nI n, nI ph, rs, sc, sx, an, lv, ps) (nI V, nI D, nI AL, fR, nI ph, nI n, sc, sy, ps) := ⟨V, D, AL, n, ph, m, fR, rs, sc, sx, an, lv, ps, sy, rfl, rfl, hI⟩
  obtain ⟨⟨b1, b2, b3, b4, b5, b6⟩, hs, ht, hp, hr, hK⟩ := hI
  have hn : n ≤ 6 := by omega
  unfold wpX_scope
  dsimp only
  rcases aj_badOr n v1 with hx | ⟨a, ha, rfl⟩
  · exact ax_badA hn hx (br_f (by decide) (aj_bb (by omega) hx ⟨rfl, R⟩))
  · exact ax_okA hn ha (br_t rfl ⟨pk_in a 6 (by omega), aj_bo (by omega) ha ⟨pk_in a 6 (by omega), rfl, R⟩⟩)
theorem i_vc_residue {k : Nat} {u : SX} {v : SY} (I : i_Rel k u v) (hk : k + 5 ≤ 2564) : wpX_residue (fun r => wpY_residue (fun r' => r' = r ∧ i_Rel (k + 5) u v) v) u := by
  obtain ⟨V, D, AL, n, ph, m, fR, rs, sc, sx, an, lv, ps, sy, rfl, rfl, hI⟩ := I
  have R : i_Rel (k + 5) (nI V, nI D, nI AL, fR, nI n, nI ph, rs, sc, sx, an, lv, ps) (nI V, nI D, nI AL, fR, nI ph, nI n, sc, sy, ps) := ⟨V, D, AL, n, ph, m, fR, rs, sc, sx, an, lv, ps, sy, rfl, rfl, hI⟩
  obtain ⟨⟨b1, b2, b3, b4, b5, b6⟩, hs, ht, hp, hr, hK⟩ := hI
  have hn : n ≤ 6 := by omega
  by_cases hph : ph = 0
  · subst hph
    exact br_t rfl (br_t rfl ⟨rfl, R⟩)
  · have h0 := aj_n0 hph (show ph < 2 ^ 31 by omega)
    obtain ⟨K, hres, rfl⟩ := hK hph
    exact br_f h0 (br_f h0 (ay_resMask hn (aj_msk_of b2 hs) hres ⟨rfl, R⟩))
theorem aj_resOf {fV fD fA fR fp rs : Int32} {sc sx an lv ps sy : Nat → Int32} {n a : Nat} {part : Int32} (hn : n ≤ 6) : ∀ d j : Nat, j + d = n → ∃ r : Int32, (∀ post : Int32 → Prop, post r → wX_residueOf_34 post (nI a) part fV fD fA fR (nI n) fp rs sc sx an lv ps (d + 1) (nI j)) ∧ (∀ post : Int32 → Prop, post r → wY_residueOf_41 post (nI a) rs part fV fD fA fR fp (nI n) sc sy ps (d + 1) (nI j)) := by
  intro d
  induction d with
  | zero =>
    intro j hj
    have h : nI n ≤ nI j := nI_le (by omega) (by omega)
    exact ⟨part, fun _ hp => br_t h hp, fun _ hp => br_t h hp⟩
  | succ d ih =>
    intro j hj
    have h : ¬ nI n ≤ nI j := nI_ge (by omega) (by omega)
    have hi : vp_in (nI j) 6 := pk_in j 6 (by omega)
    obtain ⟨r, hX, hY⟩ := ih (j + 1) (by omega)
    by_cases c1 : (sc (nI j).toNatClampNeg &&& rs) &&& part = part
    · by_cases c2 : sc (nI j).toNatClampNeg &&& rs = part
      · by_cases c3 : nI a ≤ nI j
        · exact ⟨r, fun post hp => br_f h ⟨hi, nm_e (br_t c1 (br_f (by decide) (br_t c2 (br_t c3 (nm_r (nI_1 j) (hX post hp))))))⟩, fun post hp => br_f h ⟨hi, nm_e (br_t c1 (br_t c2 (br_t c3 (nm_r (nI_1 j) (hY post hp)))))⟩⟩
        · exact ⟨0, fun post hp => br_f h ⟨hi, nm_e (br_t c1 (br_f (by decide) (br_t c2 (br_f c3 hp))))⟩, fun post hp => br_f h ⟨hi, nm_e (br_t c1 (br_t c2 (br_f c3 (br_t c2 hp))))⟩⟩
      · exact ⟨0, fun post hp => br_f h ⟨hi, nm_e (br_t c1 (br_f (by decide) (br_f c2 hp)))⟩, fun post hp => br_f h ⟨hi, nm_e (br_t c1 (br_f c2 hp))⟩⟩
    · have c2 : ¬ sc (nI j).toNatClampNeg &&& rs = part := fun e => c1 (by rw [e, Int32.and_self])
      by_cases c3 : nI a ≤ nI j
      · exact ⟨r, fun post hp => br_f h ⟨hi, nm_e (br_f c1 (br_t rfl (nm_r (nI_1 j) (hX post hp))))⟩, fun post hp => br_f h ⟨hi, nm_e (br_f c1 (br_t c3 (nm_r (nI_1 j) (hY post hp))))⟩⟩
      · exact ⟨r, fun post hp => br_f h ⟨hi, nm_e (br_f c1 (br_t rfl (nm_r (nI_1 j) (hX post hp))))⟩, fun post hp => br_f h ⟨hi, nm_e (br_f c1 (br_f c3 (br_f c2 (nm_r (nI_1 j) (hY post hp)))))⟩⟩
theorem i_vc_residueOf {k : Nat} {u : SX} {v : SY} (I : i_Rel k u v) (hk : k + 5 ≤ 2564) (v1 : Int32) : wpX_residueOf (fun r => wpY_residueOf (fun r' => r' = r ∧ i_Rel (k + 5) u v) v v1) u v1 := by
  obtain ⟨V, D, AL, n, ph, m, fR, rs, sc, sx, an, lv, ps, sy, rfl, rfl, hI⟩ := I
  have R : i_Rel (k + 5) (nI V, nI D, nI AL, fR, nI n, nI ph, rs, sc, sx, an, lv, ps) (nI V, nI D, nI AL, fR, nI ph, nI n, sc, sy, ps) := ⟨V, D, AL, n, ph, m, fR, rs, sc, sx, an, lv, ps, sy, rfl, rfl, hI⟩
  obtain ⟨⟨b1, b2, b3, b4, b5, b6⟩, hs, ht, hp, hr, hK⟩ := hI
  have hn : n ≤ 6 := by omega
  by_cases hph : ph = 0
  · subst hph
    exact br_t rfl (br_t rfl ⟨rfl, R⟩)
  · have h0 := aj_n0 hph (show ph < 2 ^ 31 by omega)
    obtain ⟨K, hres, rfl⟩ := hK hph
    rcases aj_badOr n v1 with hx | ⟨a, ha, rfl⟩
    · exact br_f h0 (ax_badA hn hx (br_f (by decide) (br_f h0 (aj_bb (by omega) hx ⟨rfl, R⟩))))
    · obtain ⟨r, hX, hY⟩ := aj_resOf (fV := nI V) (fD := nI D) (fA := nI AL) (fR := fR) (fp := nI ph) (rs := nI K) (sc := sc) (sx := sx) (an := an) (lv := lv) (ps := ps) (sy := sy) (a := a) (part := sc (nI a).toNatClampNeg &&& nI K) hn n 0 (by omega)
      exact br_f h0 (ax_okA hn ha (br_t rfl ⟨pk_in a 6 (by omega), nm_e ⟨_, hX _ (br_f h0 (aj_bo (by omega) ha (ay_resMask hn (aj_msk_of b2 hs) hres ⟨pk_in a 6 (by omega), nm_e ⟨_, hY _ ⟨rfl, R⟩⟩⟩)))⟩⟩))
