/-! the relation -/
def aj_inv (V D AL n ph : Nat) (rs : Int32) (m : Nat → Nat) (sc sx an lv ps sy : Nat → Int32) : Prop :=
  (3 ≤ V ∧ V ≤ 6 ∧ D ≤ 4 ∧ AL ≤ 6 ∧ n ≤ AL ∧ ph ≤ 2) ∧ aj_scp m V n sc ∧ aj_sto m n sx sy ∧ aj_pos V ps ∧ (ph = 1 → aj_rdA m n sx an 4096 ∧ aj_rdL m n sx lv 4096) ∧ (ph ≠ 0 → ∃ K, aj_res m n K ∧ rs = nI K)
def i_Rel (_ : Nat) (u : SX) (v : SY) : Prop := ∃ (V D AL n ph : Nat) (m : Nat → Nat) (fR rs : Int32) (sc sx an lv ps sy : Nat → Int32), u = (nI V, nI D, nI AL, fR, nI n, nI ph, rs, sc, sx, an, lv, ps) ∧ v = (nI V, nI D, nI AL, fR, nI ph, nI n, sc, sy, ps) ∧ aj_inv V D AL n ph rs m sc sx an lv ps sy
theorem i_up {k : Nat} {u : SX} {v : SY} (h : i_Rel k u v) : i_Rel (k + 5) u v := h
/-! arguments -/
theorem aj_dec (x : Int32) : x < 0 ∨ ∃ j : Nat, j < 2 ^ 31 ∧ x = nI j := by
  by_cases h : x < 0
  · exact Or.inl h
  · exact Or.inr (nI_of h)
theorem aj_nm1 {k : Nat} (h : k < 2 ^ 31) : ¬ nI k = -1 := fun e => by
  have := nI_pos h
  rw [e] at this
  exact this (by decide)
theorem aj_n0 {k : Nat} (h0 : k ≠ 0) (h : k < 2 ^ 31) : ¬ nI k = 0 := nI_ne0 (by omega) h
theorem aj_clamp (x : Int32) (lo hi : Nat) (h : lo ≤ hi) (hh : hi < 2 ^ 31) : ∃ k, lo ≤ k ∧ k ≤ hi ∧ (∀ post : Int32 → Prop, post (nI k) → wpX_clamp post x (nI lo) (nI hi)) ∧ (∀ (post : Int32 → Prop) (u : SY), post (nI k) → wpY_clamp post u x (nI lo) (nI hi)) := by
  rcases aj_dec x with hx | ⟨j, hj, rfl⟩
  · have hn : ¬ nI lo ≤ x := fun z => Int32.not_lt.mpr (Int32.le_trans (nI_pos' (show lo < 2 ^ 31 by omega)) z) hx
    exact ⟨lo, Nat.le_refl _, h, fun _ hp => br_f hn hp, fun _ _ hp => br_f hn hp⟩
  · by_cases h1 : lo ≤ j
    · by_cases h2 : j ≤ hi
      · exact ⟨j, h1, h2, fun _ hp => br_t (nI_le h1 hj) (br_t (nI_le h2 hh) hp), fun _ _ hp => br_t (nI_le h1 hj) (br_t (nI_le h2 hh) hp)⟩
      · exact ⟨hi, h, Nat.le_refl _, fun _ hp => br_t (nI_le h1 hj) (br_f (nI_ge (by omega) hj) hp), fun _ _ hp => br_t (nI_le h1 hj) (br_f (nI_ge (by omega) hj) hp)⟩
    · exact ⟨lo, Nat.le_refl _, h, fun _ hp => br_f (nI_ge (by omega) (by omega)) hp, fun _ _ hp => br_f (nI_ge (by omega) (by omega)) hp⟩
theorem i_vc0 (k0 : Int32) (k1 : Int32) (k2 : Int32) (k3 : Int32) : wpX_init (fun u => wpY_init (fun v => i_Rel 4 u v) k0 k1 k2 k3) k0 k1 k2 k3 := by
  obtain ⟨V, v1, v2, X0, Y0⟩ := aj_clamp k0 3 6 (by decide) (by decide)
  obtain ⟨D, d1, d2, X1, Y1⟩ := aj_clamp k1 2 4 (by decide) (by decide)
  obtain ⟨A, a1, a2, X2, Y2⟩ := aj_clamp k2 3 6 (by decide) (by decide)
  obtain ⟨R, r1, r2, X3, Y3⟩ := aj_clamp k3 2 8 (by decide) (by decide)
  refine X0 _ (X1 _ (X2 _ (X3 _ (ax_put (n := 0) (Y0 _ _ (Y1 _ _ (Y2 _ _ (Y3 _ _ (nm_e (nm_e ?_))))))))))
  refine ⟨V, D, A, 0, 0, fun _ => 0, nI R, 0, fun _ => 0, fun _ => 0, fun _ => 0, fun _ => 0, upd (upd (fun _ => 0) 0 (-1)) 1 (-1), fun _ => 0, rfl, rfl, ⟨v1, v2, d2, a2, by omega, by omega⟩, lt_0, ⟨lt_0, fun _ _ _ _ => ⟨rfl, rfl⟩⟩, fun i hi => Or.inl ?_, fun z => absurd z (by decide), fun z => absurd rfl z⟩
  have e : i = 0 ∨ i = 1 := by omega
  rcases e with e | e <;> subst e <;> rfl
section
variable {fV fD fA fR fp fr : Int32} {sc sx an lv ps sy : Nat → Int32} {n : Nat} {m : Nat → Nat}
/-! a row's slot on both sides -/
def aj_bad (D : Nat) (x : Int32) : Prop := x < 0 ∨ ∃ j : Nat, j < 2 ^ 31 ∧ D ≤ j ∧ x = nI j
theorem aj_badOr (D : Nat) (x : Int32) : aj_bad D x ∨ ∃ j : Nat, j < D ∧ x = nI j := by
  rcases aj_dec x with h | ⟨j, hj, e⟩
  · exact Or.inl (Or.inl h)
  · by_cases h : j < D
    · exact Or.inr ⟨j, h, e⟩
    · exact Or.inl (Or.inr ⟨j, hj, by omega, e⟩)
theorem aj_bb {D : Nat} {x : Int32} {A B : Prop} (hD : D < 2 ^ 31) (hb : aj_bad D x) (h : B) : (x < 0 → B) ∧ (¬ x < 0 → ((x < nI D → A) ∧ (¬ x < nI D → B))) := by
  rcases hb with hb | ⟨j, hj, hd, rfl⟩
  · exact br_t hb h
  · exact br_f (nI_pos hj) (br_f (nI_nlt hd hj) h)
theorem aj_bo {D j : Nat} {A B : Prop} (hD : D < 2 ^ 31) (hj : j < D) (h : A) : (nI j < 0 → B) ∧ (¬ nI j < 0 → ((nI j < nI D → A) ∧ (¬ nI j < nI D → B))) := br_f (nI_pos (by omega)) (br_t (nI_lt hj hD) h)
theorem ax_badA {post : Int32 → Prop} {x : Int32} (hn : n ≤ 6) (hb : aj_bad n x) (h : post 1) : wpX_isBadAtom post (fV, fD, fA, fR, nI n, fp, fr, sc, sx, an, lv, ps) x := aj_bb (by omega) hb h
theorem ax_okA {post : Int32 → Prop} {a : Nat} (hn : n ≤ 6) (hb : a < n) (h : post 0) : wpX_isBadAtom post (fV, fD, fA, fR, nI n, fp, fr, sc, sx, an, lv, ps) (nI a) := aj_bo (by omega) hb h
theorem ax_badV {post : Int32 → Prop} {x : Int32} {D : Nat} (hn : D ≤ 4) (hb : aj_bad D x) (h : post 1) : wpX_isBadValue post (fV, nI D, fA, fR, nI n, fp, fr, sc, sx, an, lv, ps) x := aj_bb (by omega) hb h
theorem ax_okV {post : Int32 → Prop} {a D : Nat} (hn : D ≤ 4) (hb : a < D) (h : post 0) : wpX_isBadValue post (fV, nI D, fA, fR, nI n, fp, fr, sc, sx, an, lv, ps) (nI a) := aj_bo (by omega) hb h
theorem aj_slot {V D a : Nat} (hV : V ≤ 6) (hn : n ≤ 6) (hD : D ≤ 4) (hs : aj_scp m V n sc) (ha : a < n) (x y z : Int32) :
    ((∀ post : Int32 → Prop, post (-1) → wpX_slotOfRow post (fV, nI D, fA, fR, nI n, fp, fr, sc, sx, an, lv, ps) (nI a) x y z) ∧ (∀ post : Int32 → Prop, post (-2) → wpY_rowPlace post (fV, nI D, fA, fR, fp, nI n, sc, sy, ps) (nI a) x y z)) ∨
    ∃ k, k < 64 ∧ (∀ post : Int32 → Prop, post (nI (a * 64 + k)) → wpX_slotOfRow post (fV, nI D, fA, fR, nI n, fp, fr, sc, sx, an, lv, ps) (nI a) x y z) ∧ (∀ post : Int32 → Prop, post (nI (a * 64 + aj_pm (aj_sz (m a) 6) k)) → wpY_rowPlace post (fV, nI D, fA, fR, fp, nI n, sc, sy, ps) (nI a) x y z) := by
  obtain ⟨e, p0, p1, p2⟩ := hs a ha
  have h64 : m a < 64 := Nat.lt_of_lt_of_le p1 (aj_p2 hV)
  have hz := aj_sz_1 (m a) h64 p0
  have hat : sc (nI a).toNatClampNeg = nI (m a) := (aj_at sc (by omega)).trans e
  have hin : vp_in (nI a) 6 := pk_in a 6 (by omega)
  rcases aj_badOr D x with hx | ⟨i, hi, rfl⟩
  · left
    refine ⟨fun post hp => ⟨hin, ax_sizeOf hat h64 (ax_badV hD hx (br_f (by decide) hp))⟩, fun post hp => aj_bo (by omega) ha ⟨hin, ay_size hat h64 (aj_bb (by omega) hx hp)⟩⟩
  · by_cases s1 : aj_sz (m a) 6 = 1
    · right
      refine ⟨i, by omega, fun post hp => ⟨hin, ax_sizeOf hat h64 (ax_okV hD hi (br_t rfl ?_))⟩, fun post hp => aj_bo (by omega) ha ⟨hin, ay_size hat h64 (aj_bo (by omega) hi ?_)⟩⟩
      · rw [s1]
        refine br_t (by decide) (br_t (by decide) ?_)
        rw [aj_ix]
        exact hp
      · rw [s1] at hp ⊢
        rw [aj_pm1 i (by omega)] at hp
        refine br_t (by decide) (br_t (by decide) (br_t (by decide) ?_))
        rw [aj_ix]
        exact hp
    · rcases aj_badOr D y with hy | ⟨j, hj, rfl⟩
      · left
        refine ⟨fun post hp => ⟨hin, ax_sizeOf hat h64 (ax_okV hD hi (br_t rfl ?_))⟩, fun post hp => aj_bo (by omega) ha ⟨hin, ay_size hat h64 (aj_bo (by omega) hi ?_)⟩⟩
        · exact pk_le (aj_sz (m a) 6) 1 (fun q => absurd q (by omega)) (fun _ => ax_badV hD hy (br_f (by decide) hp))
        · exact pk_lt (aj_sz (m a) 6) 2 (fun q => absurd q (by omega)) (fun _ => aj_bb (by omega) hy hp)
      · by_cases s2 : aj_sz (m a) 6 = 2
        · right
          refine ⟨i + j * 4, by omega, fun post hp => ⟨hin, ax_sizeOf hat h64 (ax_okV hD hi (br_t rfl ?_))⟩, fun post hp => aj_bo (by omega) ha ⟨hin, ay_size hat h64 (aj_bo (by omega) hi ?_)⟩⟩
          · rw [s2]
            refine br_f (by decide) (ax_okV hD hj (br_t rfl (nm_r (aj_or2 i (by omega) j (by omega)) (br_t (by decide) ?_))))
            rw [aj_ix]
            exact hp
          · rw [s2] at hp ⊢
            rw [aj_pm2 i (by omega) j (by omega)] at hp
            refine br_f (by decide) (aj_bo (by omega) hj (br_t (by decide) (br_f (by decide) (br_t (by decide) ?_))))
            rw [show nI i * 4 = nI (i * 4) from pk_mul i 4, aj_ix, nI_add, Nat.add_assoc]
            exact hp
        · have s3 : aj_sz (m a) 6 = 3 := by omega
          rcases aj_badOr D z with hz' | ⟨l, hl, rfl⟩
          · left
            refine ⟨fun post hp => ⟨hin, ax_sizeOf hat h64 (ax_okV hD hi (br_t rfl ?_))⟩, fun post hp => aj_bo (by omega) ha ⟨hin, ay_size hat h64 (aj_bo (by omega) hi ?_)⟩⟩
            · rw [s3]
              exact br_f (by decide) (ax_okV hD hj (br_t rfl (nm_e (br_f (by decide) (ax_badV hD hz' (br_f (by decide) hp))))))
            · rw [s3]
              exact br_f (by decide) (aj_bo (by omega) hj (br_f (by decide) (aj_bb (by omega) hz' hp)))
          · right
            refine ⟨i + j * 4 + l * 16, by omega, fun post hp => ⟨hin, ax_sizeOf hat h64 (ax_okV hD hi (br_t rfl ?_))⟩, fun post hp => aj_bo (by omega) ha ⟨hin, ay_size hat h64 (aj_bo (by omega) hi ?_)⟩⟩
            · rw [s3]
              refine br_f (by decide) (ax_okV hD hj (br_t rfl (nm_r (aj_or2 i (by omega) j (by omega)) (br_f (by decide) (ax_okV hD hl (br_t rfl (nm_r (aj_or3 (i + j * 4) (by omega) l (by omega)) ?_)))))))
              rw [aj_ix]
              exact hp
            · rw [s3] at hp ⊢
              rw [aj_pm3 i (by omega) j (by omega) l (by omega)] at hp
              refine br_f (by decide) (aj_bo (by omega) hj (br_f (by decide) (aj_bo (by omega) hl (br_f (by decide) (br_f (by decide) ?_)))))
              rw [show nI i * 16 = nI (i * 16) from pk_mul i 16, show nI j * 4 = nI (j * 4) from pk_mul j 4, aj_ix, nI_add, nI_add, show a * 64 + i * 16 + j * 4 + l = a * 64 + (i * 16 + j * 4 + l) by omega]
              exact hp
/-! the cursors' step on both sides -/
theorem aj_fstE (an : Nat → Int32) : ∀ d F, F + d = 4096 → ∃ q, aj_fst an F q := by
  intro d
  induction d with
  | zero => exact fun F h => ⟨F, Nat.le_refl _, by omega, fun c h1 h2 => absurd h2 (by omega), fun z => absurd z (by omega)⟩
  | succ d ih =>
    intro F h
    by_cases z : an F = 0
    · obtain ⟨q, q1, q2, q3, q4⟩ := ih (F + 1) (by omega)
      refine ⟨q, by omega, q2, fun c h1 h2 => ?_, q4⟩
      by_cases e : c = F
      · rw [e, z]
      · exact q3 c (by omega) h2
    · exact ⟨F, Nat.le_refl _, by omega, fun c h1 h2 => absurd h2 (by omega), fun _ => z⟩
theorem aj_go {V i F : Nat} {x3 x4 : Int32} (h3 : 3 ≤ V) (hV : V ≤ 6) (hn : n ≤ 6) (hs : aj_scp m V n sc) (ht : aj_sto m n sx sy) (hp : aj_pos V ps) (hr : aj_rdA m n sx an 4096) (hi : i < 2) (hF : F ≤ 4096)
    (key : ∀ c, c < 4096 → aj_ans m n sx c → ((¬ nI c ≤ x3 ∧ (x3 = -1 ∨ ¬ (nI c >>> (x4 &&& 31)) = (x3 >>> (x4 &&& 31)))) ↔ F ≤ c)) :
    ∃ q, aj_pos V (upd ps i (nI q)) ∧ (∀ post : Int32 → SX → Prop, post (aj_out1 q) (fV, fD, fA, fR, nI n, fp, fr, sc, sx, an, lv, upd ps i (nI q)) → wpX_moveToAnswerFrom post (fV, fD, fA, fR, nI n, fp, fr, sc, sx, an, lv, ps) (nI i) (nI F)) ∧ (∀ post : Int32 → SY → Prop, post (aj_out1 q) (fV, fD, fA, fR, fp, nI n, sc, sy, upd ps i (nI q)) → ∃ n', wY_skip_62 post (nI i) x3 x4 fV fD fA fR fp (nI n) sc sy ps n' 0) := by
  obtain ⟨q, hq⟩ := aj_fstE an (4096 - F) F (by omega)
  have hmk := aj_msk_of hV hs
  refine ⟨q, fun j hj => ?_, fun post h => ax_move rfl hi hq h, fun post h => ?_⟩
  · by_cases e : j = i
    · subst e
      rw [pk_us]
      refine Or.inr ⟨q, hq.2.1, ?_, rfl⟩
      by_cases z : q < 4096
      · have hA : aj_ans m n sx q := Classical.byContradiction fun g => hq.2.2.2 z ((hr q z).mpr g)
        exact aj_unc_mod h3 hV (fun a ha => (hs a ha).2.2.1) hA.1
      · have : q = 4096 := by have := hq.2.1; omega
        subst this
        have e : V = 3 ∨ V = 4 ∨ V = 5 ∨ V = 6 := by omega
        rcases e with e | e | e | e <;> subst e <;> decide
    · rw [pk_un e]
      exact hp j hj
  · refine ay_skip hn hmk hi (fun c _ => Iff.rfl) hq.2.1 (fun c hc H => ?_) (fun z => ?_) h
    · have hA := (aj_ansXY hs ht c).mpr H.2
      have hc' : c < 4096 := by have := hq.2.1; omega
      exact (hr c hc').mp (hq.2.2.1 c ((key c hc' hA).mp H.1) hc) hA
    · have hA : aj_ans m n sx q := Classical.byContradiction fun g => hq.2.2.2 z ((hr q z).mpr g)
      exact ⟨(key q z hA).mpr hq.1, (aj_ansXY hs ht q).mp hA⟩
/-- the keys: from the start; with a variable w; one further -/
theorem aj_key0 {c : Nat} {x4 : Int32} (hc : c < 4096) : (¬ nI c ≤ -1 ∧ ((-1 : Int32) = -1 ∨ ¬ (nI c >>> (x4 &&& 31)) = ((-1 : Int32) >>> (x4 &&& 31)))) ↔ 0 ≤ c := by
  refine ⟨fun _ => Nat.zero_le c, fun _ => ⟨fun z => ?_, Or.inl rfl⟩⟩
  have := Int32.le_trans (nI_pos' (show c < 2 ^ 31 by omega)) z
  exact absurd this (by decide)
theorem aj_keyP {c p w : Nat} (hc : c < 4096) (hp : p < 4096) (hw : w < 6) : (¬ nI c ≤ nI p ∧ (nI p = -1 ∨ ¬ (nI c >>> ((10 : Int32) - 2 * nI w &&& 31)) = (nI p >>> ((10 : Int32) - 2 * nI w &&& 31)))) ↔ p / 2 ^ (10 - 2 * w) < c / 2 ^ (10 - 2 * w) := by
  have hd1 := Nat.div_le_self c (2 ^ (10 - 2 * w))
  have hd2 := Nat.div_le_self p (2 ^ (10 - 2 * w))
  rw [pk_shrN (by omega) _ _ (aj_shd w hw), pk_shrN (by omega) _ _ (aj_shd w hw), nI_eq (by omega) (by omega), nI_leI (by omega) (by omega)]
  constructor
  · rintro ⟨h1, h2⟩
    rcases h2 with h2 | h2
    · exact absurd h2 (aj_nm1 (by omega))
    · have := Nat.div_le_div_right (c := 2 ^ (10 - 2 * w)) (show p ≤ c by omega)
      omega
  · intro h
    refine ⟨fun z => ?_, Or.inr (by omega)⟩
    have := Nat.div_le_div_right (c := 2 ^ (10 - 2 * w)) z
    omega
theorem aj_keyS {c p w : Nat} (hc : c < 4096) (hp : p < 4096) (hw : w < 6) : (¬ nI c ≤ nI p ∧ (nI p = -1 ∨ ¬ (nI c >>> ((10 : Int32) - 2 * nI w &&& 31)) = (nI p >>> ((10 : Int32) - 2 * nI w &&& 31)))) ↔ (p / 2 ^ (10 - 2 * w) + 1) * 2 ^ (10 - 2 * w) ≤ c := by
  rw [aj_keyP hc hp hw, ← Nat.le_div_iff_mul_le (Nat.two_pow_pos _)]
  exact Iff.rfl
theorem aj_keyN {c p V : Nat} (h3 : 3 ≤ V) (h6 : V ≤ 6) (hc : c < 4096) (hp : p < 4096) (mc : c % 2 ^ (12 - 2 * V) = 0) (mp : p % 2 ^ (12 - 2 * V) = 0) : (¬ nI c ≤ nI p ∧ (nI p = -1 ∨ ¬ (nI c >>> ((10 : Int32) - 2 * nI (V - 1) &&& 31)) = (nI p >>> ((10 : Int32) - 2 * nI (V - 1) &&& 31)))) ↔ p + 1 ≤ c := by
  rw [aj_keyP hc hp (show V - 1 < 6 by omega)]
  have e : V = 3 ∨ V = 4 ∨ V = 5 ∨ V = 6 := by omega
  rcases e with e | e | e | e <;> subst e <;> simp only [Nat.reduceSub, Nat.reduceMul, Nat.reducePow] at mc mp ⊢ <;> omega
theorem aj_sk : ∀ p, p < 4096 → ∀ w, w < 6 → (p / 2 ^ (10 - 2 * w) + 1) * 2 ^ (10 - 2 * w) ≤ 4096 := by
  intro p hp w hw
  have e : w = 0 ∨ w = 1 ∨ w = 2 ∨ w = 3 ∨ w = 4 ∨ w = 5 := by omega
  rcases e with e | e | e | e | e | e <;> subst e <;> simp only [Nat.reduceSub, Nat.reduceMul, Nat.reducePow] <;> omega
theorem aj_skF {p w : Nat} (hp : p < 4096) (hw : w < 6) : ((nI p >>> ((10 : Int32) - nI w * 2 &&& 31)) + 1) <<< ((10 : Int32) - nI w * 2 &&& 31) = nI ((p / 2 ^ (10 - 2 * w) + 1) * 2 ^ (10 - 2 * w)) := by
  have := aj_sk p hp w hw
  rw [pk_shrN (by omega) _ _ (aj_shc w hw), nI_1, pk_shlN _ _ (aj_shc w hw) (by omega)]
end
