/-! ===== the class puts clocks right and pairs all ===== -/
section
variable {A : Nat → Nat} {n N : Nat} {D : Dt}
def ofF (f : Nat) : Prop := gaF f
theorem offsX {h : IH} (S : ShX h A n) (hN : 2000 ≤ N) (hn : n = dn D) (gs : XgS h A D) (gL : XgL h A D) (gP : XgP h A D) (w : WgL D) (wP : WgP D) (tg : TgX h A D) : ∃ h', s_X0_refresh_L39 N N (A 13) 0 h = some h' ∧ FX A gaF (e1 908) (e1 16) (e1 15) h h' ∧ OfX h' A D := by
  subst hn
  have h12 := S.1
  have L : ∀ (r s z : Nat) (H : IH), s + r = dn D → r < z → FX A gaF (e1 908) (e1 16) (e1 15) h H → (∀ u, u < s → (fL H 908 (A (100 + u))).toInt = offX D u ∧ -11000000000 ≤ offX D u ∧ offX D u ≤ 11000000000) → ∃ h', s_X0_refresh_L39 N z (A 13) (nI s) H = some h' ∧ FX A gaF (e1 908) (e1 16) (e1 15) h h' ∧ OfX h' A D := by
    intro r
    induction r with
    | zero =>
      intro s z H hs hz fr q
      obtain ⟨z, rfl⟩ : ∃ y, z = y + 1 := ⟨z - 1, by omega⟩
      have SH := fr.shX S
      have sH : XgS H A D := gs.fr fr (fun f z => by unfold gaF at z; omega) (fun z => by cases z)
      rw [s_X0_refresh_L39.eq_2, gX0_0 SH, Option.bind_some, gX7_1 SH, Option.bind_some, sH.1, if_pos (nI_le (by omega) (by omega))]
      exact ⟨H, rfl, fr, fun u hu => q u (by omega)⟩
    | succ r ih =>
      intro s z H hs hz fr q
      obtain ⟨z, rfl⟩ : ∃ y, z = y + 1 := ⟨z - 1, by omega⟩
      have SH := fr.shX S
      have sH : XgS H A D := gs.fr fr (fun f z => by unfold gaF at z; omega) (fun z => by cases z)
      have gH : XgL H A D := gL.fr fr (fun f z => by unfold gaF at z; omega) (fun f z => by cases z; omega)
      have tH : TgX H A D := tg.fr fr (by unfold gaF; omega)
      have e3 : fI H 3 (A 13) = dwin D := by rw [fr.fI (by unfold gaF; omega)]; exact gP.1
      obtain ⟨v, H2, e2, f2, v1, v2, v3⟩ := offsetX (N := N) SH hN rfl sH gH w wP tH (show s < dn D by omega)
      have S2 := f2.shX SH
      rw [s_X0_refresh_L39.eq_2, gX0_0 SH, Option.bind_some, gX7_1 SH, Option.bind_some, sH.1, if_neg (nI_ge (by omega) (by omega)), Option.bind_some, vX7 SH, atX SH sH rfl (show s < dn D by omega), Option.bind_some, if_neg (fun z => by cases z), gX0_1 SH, Option.bind_some, gX0_3 SH, Option.bind_some, e3, vX1 SH, e2, Option.bind_some, pX9_8 S2 (show s < dn D by omega), Option.bind_some, Option.bind_some, nI_1]
      have f3 : FX A no1 (e1 908) no1 no1 H2 (wfL H2 908 (A (100 + s)) v) := Fr.wL _ _ _ _ rfl
      refine ih (s + 1) z _ (by omega) (by omega) ((fr.trans (Fr.mono f2 (fun _ _ q => q) (fun _ _ q => q.elim) (fun a q => q) (fun a q => q))).trans (Fr.mono f3 (fun _ _ q => q.elim) (fun _ _ q => q) (fun a ⟨i, q, y⟩ => q.elim) (fun a ⟨i, q, y⟩ => q.elim))) (fun u hu => ?_)
      by_cases d : u = s
      · rw [d]
        have : fL (wfL H2 908 (A (100 + s)) v) 908 (A (100 + s)) = v := fL_wfL _ _ _ _
        rw [this]
        exact ⟨v1, by omega, by omega⟩
      · rw [fL_wfL_na _ _ (nA S (lv_s (by omega)) (lv_s (by omega)) (by omega)), f2.fL (fun z => z)]
        exact q u (by omega)
  obtain ⟨h', e', q'⟩ := L (dn D) 0 N h (by omega) (by omega) (Fr.refl _) (fun u hu => absurd hu (by omega))
  rw [nI_0] at e'
  exact ⟨h', e', q'⟩
def PkX (h : IH) (A : Nat → Nat) (D : Dt) (c : Nat) : Prop := ∀ e, e / 16 < 3 * dn D → ctB D e = true → MaE h A e (if kyE D e < c then parF D e else none)
theorem PkX.up {h : IH} {c c' : Nat} (x : PkX h A D c) (hc : c ≤ c') (hn : ∀ e, e / 16 < 3 * dn D → c ≤ kyE D e → kyE D e < c' → parF D e = none) : PkX h A D c' := fun e he ce => by
  have := x e he ce
  by_cases c1 : kyE D e < c
  · rw [if_pos c1] at this
    rw [if_pos (show kyE D e < c' by omega)]
    exact this
  · rw [if_neg c1] at this
    by_cases c2 : kyE D e < c'
    · rw [if_pos c2, hn e he (by omega) c2]
      exact this
    · rw [if_neg c2]
      exact this
theorem pairsX {h : IH} (S : ShX h A n) (hN : 2000 ≤ N) (hn : n = dn D) (gs : XgS h A D) (gL : XgL h A D) (gP : XgP h A D) (w : WgL D) (wP : WgP D) (tg : TgX h A D) (of : OfX h A D) (h0 : ∀ e, e / 16 < 3 * dn D → ctB D e = true → MaE h A e none) : ∃ h', s_X0_refresh_L87 N N (A 13) 0 h = some h' ∧ FrPU A h h' ∧ ∀ e, e / 16 < 3 * dn D → ctB D e = true → MaE h' A e (parF D e) := by
  subst hn
  have wn := S.1
  have ce : ∀ e, e / 16 < 3 * dn D → ctB D e = true → e / 48 < dn D := fun e he c => by omega
  have sH : ∀ {H : IH}, FrPU A h H → XgS H A D := fun fr => gs.fr fr (fun f z => by unfold puF at z; omega) (fun z => z)
  have L115 : ∀ s t, s < t → t < dn D → ∀ (r b z : Nat) (H : IH), b + r = 3 → r < z → FrPU A h H → PkX H A D (36 * s + 3 * t + b) → ∃ h', s_X0_refresh_L115 N z (A 13) (nI s) (nI t) (nI b) H = some h' ∧ FrPU A h h' ∧ PkX h' A D (36 * s + 3 * t + 3) := by
    intro s t hst ht r
    induction r with
    | zero =>
      intro b z H hb hz fr q
      obtain ⟨z, rfl⟩ : ∃ y, z = y + 1 := ⟨z - 1, by omega⟩
      have : b = 3 := by omega
      subst this
      rw [s_X0_refresh_L115.eq_2, if_pos (by decide)]
      exact ⟨H, rfl, fr, q⟩
    | succ r ih =>
      intro b z H hb hz fr q
      obtain ⟨z, rfl⟩ : ∃ y, z = y + 1 := ⟨z - 1, by omega⟩
      have SH := fr.shX S
      have gH : XgL H A D := gL.fr fr (fun f z => by unfold puF at z; omega) (fun f z => z.elim)
      have tH : TgX H A D := tg.fr fr (by unfold puF; omega)
      have oH : OfX H A D := fun u hu => by rw [fr.fL (fun z => z)]; exact of u hu
      have e3 : fI H 3 (A 13) = dwin D := by rw [fr.fI (by unfold puF; omega)]; exact gP.1
      obtain ⟨h', e', f', p'⟩ := pairUpX (N := N) (b := b) SH hN rfl (sH fr) gH w wP tH oH (show s < dn D by omega) ht (by omega) (by omega) (fun e he ce ge => by
        have := (kyE_grp wn (show e < 576 by omega) (show b < 3 by omega) hst (by omega)).mp ge
        have q' := q e he ce
        rw [if_neg (show ¬ kyE D e < 36 * s + 3 * t + b by omega)] at q'
        exact q')
      rw [s_X0_refresh_L115.eq_2, if_neg (show ¬ (3 : Int32) ≤ nI b from nI_ge (b := 3) (by omega) (by omega)), gX0_2 SH, Option.bind_some, gX0_0 SH, Option.bind_some, gX0_3 SH, Option.bind_some, e3, vX6 SH, e', Option.bind_some, nI_1]
      refine ih (b + 1) z h' (by omega) (by omega) (fr.trans f') (fun e he ce => ?_)
      obtain ⟨a1, a2, a3⟩ := p' e he ce
      have hb3 : b < 3 := by omega
      by_cases c : grp D s t b e
      · have := (kyE_grp wn (show e < 576 by omega) hb3 hst (by omega)).mp c
        rw [if_pos (by omega)]
        rcases c with c | c
        · rw [parF_row hb3 hst c.1 c.2]; exact a1 c.1 c.2
        · rw [parF_col hb3 hst c.1 c.2]; exact a2 c.1 c.2
      · have a4 := a3 c
        have q' := q e he ce
        have tr : ∀ o, MaE H A e o → MaE h' A e o := fun o m => by
          unfold MaE
          rw [a4.1, a4.2]
          exact m
        by_cases c1 : kyE D e < 36 * s + 3 * t + b
        · rw [if_pos c1] at q'
          rw [if_pos (by omega)]
          exact tr _ q'
        · rw [if_neg c1] at q'
          by_cases c2 : kyE D e < 36 * s + 3 * t + (b + 1)
          · have hn : tgO D e = none := by
              cases ct : tgO D e with
              | none => rfl
              | some u => exact absurd ((kyE_grp wn (show e < 576 by omega) hb3 hst (by omega)).mpr ⟨(by rw [ct]; exact fun z => (by cases z)), by omega⟩) c
            rw [if_pos c2, parF_no (Or.inl hn)]
            exact tr _ q'
          · rw [if_neg c2]
            exact tr _ q'
  have L102 : ∀ s, s < dn D → ∀ (r t z : Nat) (H : IH), t + r = dn D → s < t → r < z → FrPU A h H → PkX H A D (36 * s + 3 * t) → ∃ h', s_X0_refresh_L102 N z (A 13) (nI s) (nI t) H = some h' ∧ FrPU A h h' ∧ PkX h' A D (36 * s + 3 * dn D) := by
    intro s hs r
    induction r with
    | zero =>
      intro t z H ht hst hz fr q
      obtain ⟨z, rfl⟩ : ∃ y, z = y + 1 := ⟨z - 1, by omega⟩
      have SH := fr.shX S
      rw [s_X0_refresh_L102.eq_2, gX0_0 SH, Option.bind_some, gX7_1 SH, Option.bind_some, (sH fr).1, if_pos (nI_le (by omega) (by omega))]
      rw [show t = dn D by omega] at q
      exact ⟨H, rfl, fr, q⟩
    | succ r ih =>
      intro t z H ht hst hz fr q
      obtain ⟨z, rfl⟩ : ∃ y, z = y + 1 := ⟨z - 1, by omega⟩
      have SH := fr.shX S
      obtain ⟨h', e', f', p'⟩ := L115 s t hst (by omega) 3 0 N H (by omega) (by omega) fr q
      rw [nI_0] at e'
      rw [s_X0_refresh_L102.eq_2, gX0_0 SH, Option.bind_some, gX7_1 SH, Option.bind_some, (sH fr).1, if_neg (nI_ge (by omega) (by omega)), e', Option.bind_some, nI_1]
      exact ih (t + 1) z h' (by omega) (by omega) (by omega) f' p'
  have L87 : ∀ (r s z : Nat) (H : IH), s + r = dn D → r < z → FrPU A h H → PkX H A D (36 * s + 3 * s) → ∃ h', s_X0_refresh_L87 N z (A 13) (nI s) H = some h' ∧ FrPU A h h' ∧ PkX h' A D (39 * dn D) := by
    intro r
    induction r with
    | zero =>
      intro s z H hs hz fr q
      obtain ⟨z, rfl⟩ : ∃ y, z = y + 1 := ⟨z - 1, by omega⟩
      have SH := fr.shX S
      rw [s_X0_refresh_L87.eq_2, gX0_0 SH, Option.bind_some, gX7_1 SH, Option.bind_some, (sH fr).1, if_pos (nI_le (by omega) (by omega))]
      rw [show s = dn D by omega, show 36 * dn D + 3 * dn D = 39 * dn D by omega] at q
      exact ⟨H, rfl, fr, q⟩
    | succ r ih =>
      intro s z H hs hz fr q
      obtain ⟨z, rfl⟩ : ∃ y, z = y + 1 := ⟨z - 1, by omega⟩
      have SH := fr.shX S
      have q0 : PkX H A D (36 * s + 3 * (s + 1)) := q.up (by omega) (fun e he h1 h2 => kyE_gap wn (show e < 576 by omega) (ce e he) h1 h2 (fun lo hi b a1 a2 a3 a4 a5 => by omega))
      obtain ⟨h', e', f', p'⟩ := L102 s (by omega) (dn D - (s + 1)) (s + 1) N H (by omega) (by omega) (by omega) fr q0
      rw [s_X0_refresh_L87.eq_2, gX0_0 SH, Option.bind_some, gX7_1 SH, Option.bind_some, (sH fr).1, if_neg (nI_ge (by omega) (by omega)), nI_1, e', Option.bind_some]
      refine ih (s + 1) z h' (by omega) (by omega) f' (p'.up (by omega) (fun e he h1 h2 => kyE_gap wn (show e < 576 by omega) (ce e he) h1 h2 (fun lo hi b a1 a2 a3 a4 a5 => by omega)))
  obtain ⟨h', e', f', p'⟩ := L87 (dn D) 0 N h (by omega) (by omega) (Fr.refl _) (fun e he ce => by rw [if_neg (by omega)]; exact h0 e he ce)
  rw [nI_0] at e'
  refine ⟨h', e', f', fun e he c => ?_⟩
  have := p' e he c
  by_cases d : kyE D e < 39 * dn D
  · rw [if_pos d] at this
    exact this
  · rw [if_neg d] at this
    rw [kyE_gap wn (c := 39 * dn D) (c' := kyE D e + 1) (show e < 576 by omega) (ce e he) (by omega) (by omega) (fun lo hi b a1 a2 a3 a4 a5 => by omega)]
    exact this
end
