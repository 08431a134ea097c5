theorem aj_liveXY {m : Nat → Nat} {V n a q : Nat} {sc sx sy : Nat → Int32} (hs : aj_scp m V n sc) (ht : aj_sto m n sx sy) (ha : a < n) (hq : q < 64) : (∃ c, c < 4096 ∧ aj_ans m n sx c ∧ aj_kx (m a) c 6 = q) ↔ ∃ c, c < 4096 ∧ aj_anY m n sy c ∧ aj_ky (m a) c 6 = aj_pm (aj_sz (m a) 6) q := by
  have h4 := (hs a ha).2.2.2
  constructor
  · intro ⟨c, hc, h1, h2⟩
    exact ⟨c, hc, (aj_ansXY hs ht c).mp h1, by rw [aj_ky_pm, h2]⟩
  · intro ⟨c, hc, h1, h2⟩
    rw [aj_ky_pm] at h2
    exact ⟨c, hc, (aj_ansXY hs ht c).mpr h1, aj_pm_inj h4 (aj_kx_64 h4) hq h2⟩
theorem i_vc_rowState {k : Nat} {u : SX} {v : SY} (I : i_Rel k u v) (hk : k + 5 ≤ 2564) (v1 : Int32) (v2 : Int32) (v3 : Int32) (v4 : Int32) : wpX_rowState (fun r => wpY_rowState (fun r' => r' = r ∧ i_Rel (k + 5) u v) v v1 v2 v3 v4) u v1 v2 v3 v4 := by
  obtain ⟨V, D, AL, n, ph, m, fR, rs, sc, sx, an, lv, ps, sy, rfl, rfl, hI⟩ := I
  have R : i_Rel (k + 5) (nI V, nI D, nI AL, fR, nI n, nI ph, rs, sc, sx, an, lv, ps) (nI V, nI D, nI AL, fR, nI ph, nI n, sc, sy, ps) := ⟨V, D, AL, n, ph, m, fR, rs, sc, sx, an, lv, ps, sy, rfl, rfl, hI⟩
  obtain ⟨⟨b1, b2, b3, b4, b5, b6⟩, hs, ht, hp, hr, hK⟩ := hI
  have hn : n ≤ 6 := by omega
  unfold wpX_rowState wpY_rowState
  dsimp only
  rcases aj_badOr n v1 with hx | ⟨a, ha, rfl⟩
  · exact ax_badA hn hx (br_f (by decide) (aj_bb (by omega) hx (br_f (by decide) ⟨rfl, R⟩)))
  · refine ax_okA hn ha (br_t rfl ?_)
    rcases aj_slot (sy := sy) b2 hn b3 hs ha v2 v3 v4 with ⟨hX, hY⟩ | ⟨q, hq, hX, hY⟩
    · exact hX _ (br_t rfl (hY _ (br_f (by decide) ⟨rfl, R⟩)))
    · have hin0 : vp_in (nI (a * 64 + q)) 384 := pk_in (a * 64 + q) 384 (by omega)
      refine hX _ (br_f (aj_nm1 (by omega)) ⟨hin0, ?_⟩)
      have hpm := (aj_pm_in _ (hs a ha).2.2.2 q hq).1
      have e := ht.1 a ha q hq
      have hge : (0 : Int32) ≤ nI (a * 64 + aj_pm (aj_sz (m a) 6) q) := nI_pos' (by omega)
      have hin : vp_in (nI (a * 64 + aj_pm (aj_sz (m a) 6) q)) 384 := pk_in (a * 64 + aj_pm (aj_sz (m a) 6) q) 384 (by omega)
      rw [aj_at sx (show a * 64 + q < 2 ^ 31 by omega), aj_at lv (show a * 64 + q < 2 ^ 31 by omega)]
      by_cases z : sx (a * 64 + q) = 0
      · have z' : sy (nI (a * 64 + aj_pm (aj_sz (m a) 6) q)).toNatClampNeg = 0 := by rw [aj_at sy (by omega), ← e, z]
        exact br_t z (hY _ (br_t hge ⟨hin, br_t z' ⟨rfl, R⟩⟩))
      · have z' : ¬ sy (nI (a * 64 + aj_pm (aj_sz (m a) 6) q)).toNatClampNeg = 0 := by rw [aj_at sy (by omega), ← e]; exact z
        by_cases hph : ph = 1
        · subst hph
          have hL := (hr rfl).2 a ha q hq
          have hXY := aj_liveXY hs ht ha hq
          by_cases l : lv (a * 64 + q) = 0
          · exact br_f z (br_t rfl ⟨hin0, br_t l (hY _ (br_t hge ⟨hin, br_f z' (br_t rfl (ay_isLive hn (aj_msk_of b2 hs) ha hpm (fun H => absurd (hXY.mpr H) (hL.mp l)) (fun _ => br_t rfl ⟨rfl, R⟩)))⟩))⟩)
          · exact br_f z (br_t rfl ⟨hin0, br_f l (hY _ (br_t hge ⟨hin, br_f z' (br_t rfl (ay_isLive hn (aj_msk_of b2 hs) ha hpm (fun _ => br_f (by decide) ⟨rfl, R⟩) (fun H => absurd (hL.mpr fun G => H (hXY.mp G)) l)))⟩))⟩)
        · have h1 : ¬ nI ph = 1 := fun e => hph ((nI_eq (b := 1) (by omega) (by decide)).mp e)
          exact br_f z (br_f h1 (hY _ (br_t hge ⟨hin, br_f z' (br_f h1 ⟨rfl, R⟩)⟩)))
theorem aj_n1 {ph : Nat} (h : ph ≤ 2) (hph : ¬ ph = 1) : ¬ nI ph = 1 := fun e => hph ((nI_eq (b := 1) (by omega) (by decide)).mp e)
theorem i_vc_live {k : Nat} {u : SX} {v : SY} (I : i_Rel k u v) (hk : k + 5 ≤ 2564) (v1 : Int32) : wpX_live (fun r => wpY_live (fun r' => r' = r ∧ i_Rel (k + 5) u v) v v1) u v1 := by
  obtain ⟨V, D, AL, n, ph, m, fR, rs, sc, sx, an, lv, ps, sy, rfl, rfl, hI⟩ := I
  have R : i_Rel (k + 5) (nI V, nI D, nI AL, fR, nI n, nI ph, rs, sc, sx, an, lv, ps) (nI V, nI D, nI AL, fR, nI ph, nI n, sc, sy, ps) := ⟨V, D, AL, n, ph, m, fR, rs, sc, sx, an, lv, ps, sy, rfl, rfl, hI⟩
  obtain ⟨⟨b1, b2, b3, b4, b5, b6⟩, hs, ht, hp, hr, hK⟩ := hI
  have hn : n ≤ 6 := by omega
  by_cases hph : ph = 1
  · subst hph
    refine br_t rfl ?_
    rcases aj_badOr n v1 with hx | ⟨a, ha, rfl⟩
    · exact ax_badA hn hx (br_f (by decide) (br_t rfl (aj_bb (by omega) hx ⟨rfl, R⟩)))
    · have h4 := (hs a ha).2.2.2
      refine ax_okA hn ha (br_t rfl (ax_rowsL (by omega) (br_t rfl (aj_bo (by omega) ha (ay_live (g := fun p => lv (a * 64 + aj_pm (aj_sz (m a) 6) p)) hn (aj_msk_of b2 hs) ha (fun p hp' => ?_) ⟨?_, R⟩)))))
      · have hq := aj_pm_in _ h4 p hp'
        have h1 := (hr rfl).2 a ha _ hq.1
        have h2 := aj_liveXY hs ht ha hq.1
        rw [hq.2] at h2
        rw [h1, h2]
      · exact congrArg nI (aj_cn_pm (fun i => lv (a * 64 + i)) h4)
  · have h1 := aj_n1 b6 hph
    exact br_f h1 (br_f h1 ⟨rfl, R⟩)
theorem i_vc_count {k : Nat} {u : SX} {v : SY} (I : i_Rel k u v) (hk : k + 5 ≤ 2564) : wpX_count (fun r => wpY_count (fun r' => r' = r ∧ i_Rel (k + 5) u v) v) u := by
  obtain ⟨V, D, AL, n, ph, m, fR, rs, sc, sx, an, lv, ps, sy, rfl, rfl, hI⟩ := I
  have R : i_Rel (k + 5) (nI V, nI D, nI AL, fR, nI n, nI ph, rs, sc, sx, an, lv, ps) (nI V, nI D, nI AL, fR, nI ph, nI n, sc, sy, ps) := ⟨V, D, AL, n, ph, m, fR, rs, sc, sx, an, lv, ps, sy, rfl, rfl, hI⟩
  obtain ⟨⟨b1, b2, b3, b4, b5, b6⟩, hs, ht, hp, hr, hK⟩ := hI
  have hn : n ≤ 6 := by omega
  by_cases hph : ph = 1
  · subst hph
    exact br_t rfl (ax_count (br_t rfl (ay_count hn (aj_msk_of b2 hs) (fun c hc => by rw [(hr rfl).1 c hc, aj_ansXY hs ht]) ⟨rfl, R⟩)))
  · have h1 := aj_n1 b6 hph
    exact br_f h1 (br_f h1 ⟨rfl, R⟩)
/-- a cursor's argument on both sides -/
theorem aj_cur (x : Int32) : (x < 0 ∨ (¬ x < 0 ∧ ¬ x < 2 ∧ 1 < x ∧ ¬ x ≤ 1)) ∨ ∃ i : Nat, i < 2 ∧ x = nI i := by
  rcases aj_dec x with h | ⟨j, hj, rfl⟩
  · exact Or.inl (Or.inl h)
  · by_cases h : j < 2
    · exact Or.inr ⟨j, h, rfl⟩
    · exact Or.inl (Or.inr ⟨nI_pos hj, nI_nlt (b := 2) (by omega) hj, nI_lt (a := 1) (by omega) hj, nI_ge (a := 1) (by omega) hj⟩)
theorem ax_badC {post : Int32 → Prop} {x : Int32} (h : x < 0 ∨ (¬ x < 0 ∧ ¬ x < 2 ∧ 1 < x ∧ ¬ x ≤ 1)) (hp : post 1) : wpX_isBadCursor post x := by
  rcases h with h | ⟨h1, h2, _⟩
  · exact br_t h hp
  · exact br_f h1 (br_f h2 hp)
theorem ax_okC {post : Int32 → Prop} {i : Nat} (h : i < 2) (hp : post 0) : wpX_isBadCursor post (nI i) := br_f (nI_pos (by omega)) (br_t (nI_lt (b := 2) h (by decide)) hp)
theorem ay_badC {A B : Prop} {x : Int32} (h : x < 0 ∨ (¬ x < 0 ∧ ¬ x < 2 ∧ 1 < x ∧ ¬ x ≤ 1)) (hp : B) : (x < 0 → B) ∧ (¬ x < 0 → ((1 < x → B) ∧ (¬ 1 < x → A))) := by
  rcases h with h | ⟨h1, h2, h3, _⟩
  · exact br_t h hp
  · exact br_f h1 (br_t h3 hp)
theorem ay_okC {A B : Prop} {i : Nat} (h : i < 2) (hp : A) : (nI i < 0 → B) ∧ (¬ nI i < 0 → ((1 < nI i → B) ∧ (¬ 1 < nI i → A))) := br_f (nI_pos (by omega)) (br_f (nI_nlt (a := 1) (by omega) (by decide)) hp)
theorem ax_badW {fD fA fR fn fp fr : Int32} {sc sx an lv ps : Nat → Int32} {post : Int32 → Prop} {x : Int32} {V : Nat} (hV : V ≤ 6) (hb : aj_bad V x) (h : post 1) : wpX_isBadVariable post (nI V, fD, fA, fR, fn, fp, fr, sc, sx, an, lv, ps) x := aj_bb (by omega) hb h
theorem ax_okW {fD fA fR fn fp fr : Int32} {sc sx an lv ps : Nat → Int32} {post : Int32 → Prop} {w V : Nat} (hV : V ≤ 6) (hb : w < V) (h : post 0) : wpX_isBadVariable post (nI V, fD, fA, fR, fn, fp, fr, sc, sx, an, lv, ps) (nI w) := aj_bo (by omega) hb h
theorem aj_m4096 : ¬ (-1 : Int32) = 4096 := by decide
theorem i_vc_skip {k : Nat} {u : SX} {v : SY} (I : i_Rel k u v) (hk : k + 5 ≤ 2564) (v1 : Int32) (v2 : Int32) : wpX_skip (fun r u' => wpY_skip (fun r' v' => r' = r ∧ i_Rel (k + 5) u' v') v v1 v2) u v1 v2 := by
  obtain ⟨V, D, AL, n, ph, m, fR, rs, sc, sx, an, lv, ps, sy, rfl, rfl, hI⟩ := I
  have R : i_Rel (k + 5) (nI V, nI D, nI AL, fR, nI n, nI ph, rs, sc, sx, an, lv, ps) (nI V, nI D, nI AL, fR, nI ph, nI n, sc, sy, ps) := ⟨V, D, AL, n, ph, m, fR, rs, sc, sx, an, lv, ps, sy, rfl, rfl, hI⟩
  obtain ⟨⟨b1, b2, b3, b4, b5, b6⟩, hs, ht, hp, hr, hK⟩ := hI
  have hn : n ≤ 6 := by omega
  by_cases hph : ph = 1
  · subst hph
    refine br_t rfl ?_
    rcases aj_cur v1 with hx | ⟨i, hi, rfl⟩
    · exact ax_badC hx (br_f (by decide) (br_t rfl (ay_badC hx ⟨rfl, R⟩)))
    · refine ax_okC hi (br_t rfl ?_)
      rcases aj_badOr V v2 with hw | ⟨w, hw, rfl⟩
      · exact ax_badW b2 hw (br_f (by decide) (br_t rfl (ay_okC hi (aj_bb (by omega) hw ⟨rfl, R⟩))))
      · have hin : vp_in (nI i) 2 := pk_in i 2 hi
        have R2 : ∀ q, aj_pos V (upd ps i (nI q)) → i_Rel (k + 5) (nI V, nI D, nI AL, fR, nI n, nI 1, rs, sc, sx, an, lv, upd ps i (nI q)) (nI V, nI D, nI AL, fR, nI 1, nI n, sc, sy, upd ps i (nI q)) := fun q hq => ⟨V, D, AL, n, 1, m, fR, rs, sc, sx, an, lv, upd ps i (nI q), sy, rfl, rfl, ⟨b1, b2, b3, b4, b5, b6⟩, hs, ht, hq, hr, hK⟩
        refine ax_okW b2 hw (br_t rfl ⟨hin, ?_⟩)
        rw [aj_at ps (show i < 2 ^ 31 by omega)]
        rcases hp i hi with e | ⟨p, p1, p2, e⟩
        · rw [e]
          refine nm_e (br_f aj_m4096 (br_t rfl ?_))
          obtain ⟨q, g1, g2, g3⟩ := aj_go (fV := nI V) (fD := nI D) (fA := nI AL) (fR := fR) (fp := nI 1) (fr := rs) (lv := lv) (F := 0) (x3 := -1) (x4 := 10 - 2 * nI w) b1 b2 hn hs ht hp (hr rfl).1 hi (by omega) (fun c hc _ => aj_key0 hc)
          refine g2 _ (br_t rfl (ay_okC hi (aj_bo (by omega) hw ⟨hin, ?_⟩)))
          rw [aj_at ps (show i < 2 ^ 31 by omega), e]
          exact nm_e (br_f aj_m4096 (nm_e (g3 _ ⟨rfl, R2 q g1⟩)))
        · rw [e]
          by_cases hend : p = 4096
          · subst hend
            refine nm_e (br_t rfl (br_t rfl (ay_okC hi (aj_bo (by omega) hw ⟨hin, ?_⟩))))
            rw [aj_at ps (show i < 2 ^ 31 by omega), e]
            exact nm_e (br_t rfl ⟨rfl, R⟩)
          · have hne : ¬ nI p = 4096 := fun z => hend ((nI_eq (b := 4096) (by omega) (by decide)).mp z)
            have hp' : p < 4096 := by omega
            refine nm_e (br_f hne (br_f (aj_nm1 (by omega)) (nm_e (nm_e ?_))))
            rw [aj_skF hp' (show w < 6 by omega)]
            obtain ⟨q, g1, g2, g3⟩ := aj_go (fV := nI V) (fD := nI D) (fA := nI AL) (fR := fR) (fp := nI 1) (fr := rs) (lv := lv) (F := (p / 2 ^ (10 - 2 * w) + 1) * 2 ^ (10 - 2 * w)) (x3 := nI p) (x4 := 10 - 2 * nI w) b1 b2 hn hs ht hp (hr rfl).1 hi (aj_sk p hp' w (by omega)) (fun c hc _ => aj_keyS hc hp' (by omega))
            refine g2 _ (br_t rfl (ay_okC hi (aj_bo (by omega) hw ⟨hin, ?_⟩)))
            rw [aj_at ps (show i < 2 ^ 31 by omega), e]
            exact nm_e (br_f hne (nm_e (g3 _ ⟨rfl, R2 q g1⟩)))
  · have h1 := aj_n1 b6 hph
    exact br_f h1 (br_f h1 ⟨rfl, R⟩)
theorem i_vc_next {k : Nat} {u : SX} {v : SY} (I : i_Rel k u v) (hk : k + 5 ≤ 2564) (v1 : Int32) : wpX_next (fun r u' => wpY_next (fun r' v' => r' = r ∧ i_Rel (k + 5) u' v') v v1) u v1 := by
  obtain ⟨V, D, AL, n, ph, m, fR, rs, sc, sx, an, lv, ps, sy, rfl, rfl, hI⟩ := I
  have R : i_Rel (k + 5) (nI V, nI D, nI AL, fR, nI n, nI ph, rs, sc, sx, an, lv, ps) (nI V, nI D, nI AL, fR, nI ph, nI n, sc, sy, ps) := ⟨V, D, AL, n, ph, m, fR, rs, sc, sx, an, lv, ps, sy, rfl, rfl, hI⟩
  obtain ⟨⟨b1, b2, b3, b4, b5, b6⟩, hs, ht, hp, hr, hK⟩ := hI
  have hn : n ≤ 6 := by omega
  have eV : nI V - 1 = nI (V - 1) := pk_sub (b := 1) (by omega)
  by_cases hph : ph = 1
  · subst hph
    refine br_t rfl ?_
    rcases aj_cur v1 with hx | ⟨i, hi, rfl⟩
    · exact ax_badC hx (br_f (by decide) (br_t rfl (ay_badC hx ⟨rfl, R⟩)))
    · have hin : vp_in (nI i) 2 := pk_in i 2 hi
      have R2 : ∀ q, aj_pos V (upd ps i (nI q)) → i_Rel (k + 5) (nI V, nI D, nI AL, fR, nI n, nI 1, rs, sc, sx, an, lv, upd ps i (nI q)) (nI V, nI D, nI AL, fR, nI 1, nI n, sc, sy, upd ps i (nI q)) := fun q hq => ⟨V, D, AL, n, 1, m, fR, rs, sc, sx, an, lv, upd ps i (nI q), sy, rfl, rfl, ⟨b1, b2, b3, b4, b5, b6⟩, hs, ht, hq, hr, hK⟩
      have Y0 : ∀ post : Int32 → SY → Prop, wpY_skip (fun r u => match u with | (a1, a2, a3, a4, a5, a6, a7, a8, a9) => post r (a1, a2, a3, a4, a5, a6, a7, a8, a9)) (nI V, nI D, nI AL, fR, nI 1, nI n, sc, sy, ps) (nI i) (nI (V - 1)) → wpY_next post (nI V, nI D, nI AL, fR, nI 1, nI n, sc, sy, ps) (nI i) := fun post h => by
        unfold wpY_next
        dsimp only
        rw [eV]
        exact h
      have hw : V - 1 < V := by omega
      refine ax_okC hi (br_t rfl ⟨hin, ?_⟩)
      rw [aj_at ps (show i < 2 ^ 31 by omega)]
      rcases hp i hi with e | ⟨p, p1, p2, e⟩
      · rw [e]
        refine nm_e (br_f aj_m4096 ?_)
        obtain ⟨q, g1, g2, g3⟩ := aj_go (fV := nI V) (fD := nI D) (fA := nI AL) (fR := fR) (fp := nI 1) (fr := rs) (lv := lv) (F := 0) (x3 := -1) (x4 := 10 - 2 * nI (V - 1)) b1 b2 hn hs ht hp (hr rfl).1 hi (by omega) (fun c hc _ => aj_key0 hc)
        refine g2 _ (Y0 _ (br_t rfl (ay_okC hi (aj_bo (by omega) hw ⟨hin, ?_⟩))))
        rw [aj_at ps (show i < 2 ^ 31 by omega), e]
        exact nm_e (br_f aj_m4096 (nm_e (g3 _ ⟨rfl, R2 q g1⟩)))
      · rw [e]
        by_cases hend : p = 4096
        · subst hend
          refine nm_e (br_t rfl (Y0 _ (br_t rfl (ay_okC hi (aj_bo (by omega) hw ⟨hin, ?_⟩)))))
          rw [aj_at ps (show i < 2 ^ 31 by omega), e]
          exact nm_e (br_t rfl ⟨rfl, R⟩)
        · have hne : ¬ nI p = 4096 := fun z => hend ((nI_eq (b := 4096) (by omega) (by decide)).mp z)
          have hp' : p < 4096 := by omega
          refine nm_e (br_f hne ?_)
          rw [nI_1 p]
          obtain ⟨q, g1, g2, g3⟩ := aj_go (fV := nI V) (fD := nI D) (fA := nI AL) (fR := fR) (fp := nI 1) (fr := rs) (lv := lv) (F := p + 1) (x3 := nI p) (x4 := 10 - 2 * nI (V - 1)) b1 b2 hn hs ht hp (hr rfl).1 hi (by omega) (fun c hc hA => aj_keyN b1 b2 hc hp' (aj_unc_mod b1 b2 (fun a ha => (hs a ha).2.2.1) hA.1) p2)
          refine g2 _ (Y0 _ (br_t rfl (ay_okC hi (aj_bo (by omega) hw ⟨hin, ?_⟩))))
          rw [aj_at ps (show i < 2 ^ 31 by omega), e]
          exact nm_e (br_f hne (nm_e (g3 _ ⟨rfl, R2 q g1⟩)))
  · have h1 := aj_n1 b6 hph
    exact br_f h1 (br_f h1 ⟨rfl, R⟩)
theorem i_vc_rewind {k : Nat} {u : SX} {v : SY} (I : i_Rel k u v) (hk : k + 5 ≤ 2564) (v1 : Int32) : wpX_rewind (fun r u' => wpY_rewind (fun r' v' => r' = r ∧ i_Rel (k + 5) u' v') v v1) u v1 := by
  obtain ⟨V, D, AL, n, ph, m, fR, rs, sc, sx, an, lv, ps, sy, rfl, rfl, hI⟩ := I
  have R : i_Rel (k + 5) (nI V, nI D, nI AL, fR, nI n, nI ph, rs, sc, sx, an, lv, ps) (nI V, nI D, nI AL, fR, nI ph, nI n, sc, sy, ps) := ⟨V, D, AL, n, ph, m, fR, rs, sc, sx, an, lv, ps, sy, rfl, rfl, hI⟩
  obtain ⟨⟨b1, b2, b3, b4, b5, b6⟩, hs, ht, hp, hr, hK⟩ := hI
  by_cases hph : ph = 1
  · subst hph
    refine br_t rfl ?_
    rcases aj_cur v1 with hx | ⟨i, hi, rfl⟩
    · refine ax_badC hx (br_f (by decide) (br_t rfl ?_))
      rcases hx with hx | ⟨h1, _, _, h4⟩
      · exact br_t hx ⟨rfl, R⟩
      · exact br_f h1 (br_f h4 ⟨rfl, R⟩)
    · have hin : vp_in (nI i) 2 := pk_in i 2 hi
      refine ax_okC hi (br_t rfl ⟨hin, nm_e (br_t rfl (br_f (nI_pos (by omega)) (br_t (nI_le (b := 1) (by omega) (by decide)) ⟨hin, nm_e ⟨rfl, ?_⟩⟩)))⟩)
      refine ⟨V, D, AL, n, 1, m, fR, rs, sc, sx, an, lv, _, sy, rfl, rfl, ⟨b1, b2, b3, b4, b5, b6⟩, hs, ht, fun j hj => ?_, hr, hK⟩
      rw [nI_clamp (show i < 2 ^ 31 by omega)]
      by_cases e : j = i
      · subst e
        rw [pk_us]
        exact Or.inl rfl
      · rw [pk_un e]
        exact hp j hj
  · have h1 := aj_n1 b6 hph
    exact br_f h1 (br_f h1 ⟨rfl, R⟩)
theorem i_vc_value {k : Nat} {u : SX} {v : SY} (I : i_Rel k u v) (hk : k + 5 ≤ 2564) (v1 : Int32) (v2 : Int32) : wpX_value (fun r => wpY_value (fun r' => r' = r ∧ i_Rel (k + 5) u v) v v1 v2) u v1 v2 := by
  obtain ⟨V, D, AL, n, ph, m, fR, rs, sc, sx, an, lv, ps, sy, rfl, rfl, hI⟩ := I
  have R : i_Rel (k + 5) (nI V, nI D, nI AL, fR, nI n, nI ph, rs, sc, sx, an, lv, ps) (nI V, nI D, nI AL, fR, nI ph, nI n, sc, sy, ps) := ⟨V, D, AL, n, ph, m, fR, rs, sc, sx, an, lv, ps, sy, rfl, rfl, hI⟩
  obtain ⟨⟨b1, b2, b3, b4, b5, b6⟩, hs, ht, hp, hr, hK⟩ := hI
  by_cases hph : ph = 1
  · subst hph
    refine br_t rfl ?_
    rcases aj_cur v1 with hx | ⟨i, hi, rfl⟩
    · exact ax_badC hx (br_f (by decide) (br_t rfl (ay_badC hx ⟨rfl, R⟩)))
    · refine ax_okC hi (br_t rfl ?_)
      rcases aj_badOr V v2 with hw | ⟨w, hw, rfl⟩
      · exact ax_badW b2 hw (br_f (by decide) (br_t rfl (ay_okC hi (aj_bb (by omega) hw ⟨rfl, R⟩))))
      · have hin : vp_in (nI i) 2 := pk_in i 2 hi
        refine ax_okW b2 hw (br_t rfl ⟨hin, ?_⟩)
        rcases hp i hi with e | ⟨p, p1, p2, e⟩
        · have e' : ps (nI i).toNatClampNeg = -1 := (aj_at ps (show i < 2 ^ 31 by omega)).trans e
          rw [e']
          exact nm_e (br_t rfl (br_t rfl (ay_okC hi (aj_bo (by omega) hw ⟨hin, br_t e' ⟨rfl, R⟩⟩))))
        · have e' : ps (nI i).toNatClampNeg = nI p := (aj_at ps (show i < 2 ^ 31 by omega)).trans e
          have hne1 : ¬ ps (nI i).toNatClampNeg = -1 := by rw [e']; exact aj_nm1 (by omega)
          by_cases hend : p = 4096
          · subst hend
            exact nm_e (br_f hne1 (br_t e' (br_t rfl (ay_okC hi (aj_bo (by omega) hw ⟨hin, br_f hne1 ⟨hin, br_t e' ⟨rfl, R⟩⟩⟩)))))
          · have hne : ¬ ps (nI i).toNatClampNeg = 4096 := by rw [e']; exact fun z => hend ((nI_eq (b := 4096) (by omega) (by decide)).mp z)
            refine nm_e (br_f hne1 (br_f hne ?_))
            have Y : ∀ post : Int32 → Prop, post (nI (aj_val p w)) → wpY_value post (nI V, nI D, nI AL, fR, nI 1, nI n, sc, sy, ps) (nI i) (nI w) := fun post h => by
              refine br_t rfl (ay_okC hi (aj_bo (by omega) hw ⟨hin, br_f hne1 ⟨hin, br_f hne ⟨hin, ?_⟩⟩⟩))
              rw [e', aj_vY (by omega) (by omega)]
              exact h
            rw [e']
            exact ax_valueIn (by omega) (by omega) (Y _ ⟨rfl, R⟩)
  · have h1 := aj_n1 b6 hph
    exact br_f h1 (br_f h1 ⟨rfl, R⟩)
