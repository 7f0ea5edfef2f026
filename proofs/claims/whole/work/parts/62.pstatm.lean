def smF (f : Nat) : Prop := f = 1229 ∨ f = 1201 ∨ f = 1217
def smR (i : Nat) : Prop := 2 ≤ i ∧ i ≤ 7
theorem smR_row : mRow smR := fun i q => by
  have : i = 2 ∨ i = 3 ∨ i = 4 ∨ i = 5 ∨ i = 6 ∨ i = 7 := by unfold smR at q; omega
  rcases this with q | q | q | q | q | q <;> subst q <;> decide
theorem stationM {h : IH} {m : Nat} {ar : Nat → Nat} (S : ShM h m ar) {D : Dt} {N : Nat} (hN : 2000 ≤ N) (gT : MgT h m ar D) (gS : MgS h m ar D) (wT : WgT D) (wS : WgS D) (a0 a1 a2 a3 : Int32) : ∃ h', s_X12_station N h m a0 a1 a2 a3 = some (stV D a0 a1 a2 a3, h') ∧ FM m ar smF no1 smR no1 h h' ∧ ((stG D a0 a1 a2 a3 ∧ fI h' 1217 m = 0 ∧ MgT h' m ar (stD D a0 a1 a2 a3) ∧ MgS h' m ar (stD D a0 a1 a2 a3)) ∨ (¬ stG D a0 a1 a2 a3 ∧ FM m ar (e1 1229) no1 no1 no1 h h' ∧ MgT h' m ar (stF D) ∧ MgS h' m ar (stF D))) := by
  have h12 := wS.1
  have hT := wT.1
  have nr : ∀ {j k}, mKd j ≠ 0 → mKd k ≠ 0 → j ≠ k → ar j ≠ ar k := fun h1 h2 h3 z => h3 (S.2.2 _ _ h1 h2 z)
  unfold s_X12_station
  rw [mgI 29 S.1, Option.bind_some, gT.1, mpI 29 _ S.1, Option.bind_some]
  generalize h2e : wfI h (1200 + 29) m 0 = H2
  have S2 : ShM H2 m ar := by rw [← h2e]; exact S
  have f2 : FM m ar (e1 1229) no1 no1 no1 h H2 := by rw [← h2e]; exact Fr.wI _ _ _ _ ⟨rfl, rfl⟩
  have no : mRow no1 := fun i z => z.elim
  have g2 : MgS H2 m ar D := MgS.fr S f2 no gS (e1n (by decide)) (fun k z => z.elim)
  have t2 : MgT H2 m ar (stF D) := ⟨by rw [← h2e]; exact fI_wfI _ _ _ _, by rw [mrI S f2 no (by decide) (fun z => z)]; exact gT.2⟩
  have r28 : rI H2 (ar 28) = dB D := t2.2
  have toM : ∀ {x y : IH}, FM m ar (e1 1229) no1 no1 no1 x y → FM m ar smF no1 smR no1 x y := fun z => Fr.mono z (fun f a q => ⟨Or.inl q.1, q.2⟩) (fun f a q => q) (fun a ⟨i, q, _⟩ => q.elim) (fun a q => q)
  have fin : ∀ v, v = stV D a0 a1 a2 a3 → ¬ stG D a0 a1 a2 a3 → ∃ h', some (v, H2) = some (stV D a0 a1 a2 a3, h') ∧ FM m ar smF no1 smR no1 h h' ∧ ((stG D a0 a1 a2 a3 ∧ fI h' 1217 m = 0 ∧ MgT h' m ar (stD D a0 a1 a2 a3) ∧ MgS h' m ar (stD D a0 a1 a2 a3)) ∨ (¬ stG D a0 a1 a2 a3 ∧ FM m ar (e1 1229) no1 no1 no1 h h' ∧ MgT h' m ar (stF D) ∧ MgS h' m ar (stF D))) := fun v hv nc => ⟨H2, by rw [hv], toM f2, Or.inr ⟨nc, f2, t2, g2⟩⟩
  have lv : stV D a0 a1 a2 a3 = (if (0 ≤ a0 ∧ a0 < 5) then (if (0 ≤ a1 ∧ a1 < 40) then (if (0 ≤ a2 ∧ a2 < 100) then (if (0 ≤ a3 ∧ a3 < 100) then (if 1 ≤ dT D ∧ dT D ≤ 6 ∧ allB clB (dB D) (dT D) 0 = true then (if withC D (dT D) (dB D) = none then (if dn D < 12 then nI (dn D) else -4) else -3) else -2) else -1) else -1) else -1) else -1) := rfl
  have lel : ∀ (a : Int32) (k : Nat), k < 1000 → ((a ≤ nI k) ↔ (a < nI (k + 1))) := fun a k hk => by
    rw [iLe, iLt, nIt (by omega), nIt (by omega)]
    omega
  rw [isIn32 H2 a0 0 4 (lo' := 0) (hi' := 4) rfl rfl, Option.bind_some, ite01]
  by_cases c0 : 0 ≤ a0 ∧ a0 < 5
  · rw [if_pos c0] at lv
    rw [if_pos ⟨c0.1, (lel a0 4 (by omega)).mpr c0.2⟩, isIn32 H2 a1 0 39 (lo' := 0) (hi' := 39) rfl rfl, Option.bind_some, ite01]
    by_cases c1 : 0 ≤ a1 ∧ a1 < 40
    · rw [if_pos c1] at lv
      rw [if_pos ⟨c1.1, (lel a1 39 (by omega)).mpr c1.2⟩, isIn32 H2 a2 0 99 (lo' := 0) (hi' := 99) rfl rfl, Option.bind_some, ite01]
      by_cases c2 : 0 ≤ a2 ∧ a2 < 100
      · rw [if_pos c2] at lv
        rw [if_pos ⟨c2.1, (lel a2 99 (by omega)).mpr c2.2⟩, isIn32 H2 a3 0 99 (lo' := 0) (hi' := 99) rfl rfl, Option.bind_some, ite01]
        by_cases c3 : 0 ≤ a3 ∧ a3 < 100
        · rw [if_pos c3] at lv
          rw [if_pos ⟨c3.1, (lel a3 99 (by omega)).mpr c3.2⟩, mV12 S2]
          have ec := isCallM S2 (N := N) (f := 0) (l := dT D) hN (by omega)
          rw [nI_0, r28] at ec
          rw [ec, Option.bind_some, ite01]
          by_cases ck : 1 ≤ dT D ∧ dT D ≤ 6 ∧ allB clB (dB D) (dT D) 0 = true
          · rw [if_pos ck] at lv
            have ew := withCallM S2 (N := N) (r := 28) (f := 0) (l := dT D) (b := dB D) hN g2 wS (by decide) ck.2.1 (by have : mSz 28 = 1000 := rfl; omega) (fun k _ => by rw [r28, Nat.zero_add]) ck.2.2
            rw [nI_0] at ew
            rw [if_pos ck, mgR 28 S2 (by decide), Option.bind_some, mV12 S2, ew, Option.bind_some]
            by_cases cw : withC D (dT D) (dB D) = none
            · rw [if_pos cw] at lv
              rw [cw, if_pos oI_none, mgI 1 S2.1, Option.bind_some, g2.1]
              by_cases c12 : dn D < 12
              · rw [if_pos c12] at lv
                have hn : dn D < 12 := c12
                rw [if_neg (show ¬ nI (dn D) = 12 from fun z => by have := (nI_eq (b := 12) (by omega) (by omega)).mp z; omega)]
                -- the five words of the station
                rw [mgR 2 S2 (by decide), Option.bind_some, Option.bind_some, msI 2 _ _ S2 (by decide) c12, Option.bind_some]
                generalize h20e : setI H2 (ar 2) (upd (rI H2 (ar 2)) (dn D) a0) = H20
                have S20 : ShM H20 m ar := by rw [← h20e]; exact S2
                have i20 : fI H20 = fI H2 := by rw [← h20e]; rfl
                rw [mgR 3 S20 (by decide), Option.bind_some, mgI 1 S20.1, Option.bind_some, i20, g2.1, msI 3 _ _ S20 (by decide) c12, Option.bind_some]
                generalize h23e : setI H20 (ar 3) (upd (rI H20 (ar 3)) (dn D) a1) = H23
                have S23 : ShM H23 m ar := by rw [← h23e]; exact S20
                have i23 : fI H23 = fI H2 := by rw [← h23e]; exact i20
                rw [mgR 4 S23 (by decide), Option.bind_some, mgI 1 S23.1, Option.bind_some, i23, g2.1, msI 4 _ _ S23 (by decide) c12, Option.bind_some]
                generalize h26e : setI H23 (ar 4) (upd (rI H23 (ar 4)) (dn D) a2) = H26
                have S26 : ShM H26 m ar := by rw [← h26e]; exact S23
                have i26 : fI H26 = fI H2 := by rw [← h26e]; exact i23
                rw [mgR 5 S26 (by decide), Option.bind_some, mgI 1 S26.1, Option.bind_some, i26, g2.1, msI 5 _ _ S26 (by decide) c12, Option.bind_some]
                generalize h29e : setI H26 (ar 5) (upd (rI H26 (ar 5)) (dn D) a3) = H29
                have S29 : ShM H29 m ar := by rw [← h29e]; exact S26
                have i29 : fI H29 = fI H2 := by rw [← h29e]; exact i26
                rw [mgR 6 S29 (by decide), Option.bind_some, mgI 1 S29.1, Option.bind_some, i29, g2.1, msI 6 _ _ S29 (by decide) c12, Option.bind_some]
                generalize h32e : setI H29 (ar 6) (upd (rI H29 (ar 6)) (dn D) (nI (dT D))) = H32
                have S32 : ShM H32 m ar := by rw [← h32e]; exact S29
                have i32 : fI H32 = fI H2 := by rw [← h32e]; exact i29
                have f32 : FM m ar no1 no1 smR no1 H2 H32 := by
                  rw [← h32e, ← h29e, ← h26e, ← h23e, ← h20e]
                  exact ((((Fr.sI _ _ _ ⟨2, ⟨by omega, by omega⟩, rfl⟩).trans (Fr.sI _ _ _ ⟨3, ⟨by omega, by omega⟩, rfl⟩)).trans (Fr.sI _ _ _ ⟨4, ⟨by omega, by omega⟩, rfl⟩)).trans (Fr.sI _ _ _ ⟨5, ⟨by omega, by omega⟩, rfl⟩)).trans (Fr.sI _ _ _ ⟨6, ⟨by omega, by omega⟩, rfl⟩)
                have x28 : rI H32 (ar 28) = dB D := by rw [mrI S2 f32 smR_row (by decide) (by unfold smR; omega), r28]
                have x2 : rI H32 (ar 2) = upd (rI H2 (ar 2)) (dn D) a0 := by rw [← h32e, rI_setI_ne _ _ (nr (by decide) (by decide) (by decide)), ← h29e, rI_setI_ne _ _ (nr (by decide) (by decide) (by decide)), ← h26e, rI_setI_ne _ _ (nr (by decide) (by decide) (by decide)), ← h23e, rI_setI_ne _ _ (nr (by decide) (by decide) (by decide)), ← h20e, rI_setI]
                have x3 : rI H32 (ar 3) = upd (rI H2 (ar 3)) (dn D) a1 := by rw [← h32e, rI_setI_ne _ _ (nr (by decide) (by decide) (by decide)), ← h29e, rI_setI_ne _ _ (nr (by decide) (by decide) (by decide)), ← h26e, rI_setI_ne _ _ (nr (by decide) (by decide) (by decide)), ← h23e, rI_setI, ← h20e, rI_setI_ne _ _ (nr (by decide) (by decide) (by decide))]
                have x4 : rI H32 (ar 4) = upd (rI H2 (ar 4)) (dn D) a2 := by rw [← h32e, rI_setI_ne _ _ (nr (by decide) (by decide) (by decide)), ← h29e, rI_setI_ne _ _ (nr (by decide) (by decide) (by decide)), ← h26e, rI_setI, ← h23e, rI_setI_ne _ _ (nr (by decide) (by decide) (by decide)), ← h20e, rI_setI_ne _ _ (nr (by decide) (by decide) (by decide))]
                have x5 : rI H32 (ar 5) = upd (rI H2 (ar 5)) (dn D) a3 := by rw [← h32e, rI_setI_ne _ _ (nr (by decide) (by decide) (by decide)), ← h29e, rI_setI, ← h26e, rI_setI_ne _ _ (nr (by decide) (by decide) (by decide)), ← h23e, rI_setI_ne _ _ (nr (by decide) (by decide) (by decide)), ← h20e, rI_setI_ne _ _ (nr (by decide) (by decide) (by decide))]
                have x6 : rI H32 (ar 6) = upd (rI H2 (ar 6)) (dn D) (nI (dT D)) := by rw [← h32e, rI_setI, ← h29e, rI_setI_ne _ _ (nr (by decide) (by decide) (by decide)), ← h26e, rI_setI_ne _ _ (nr (by decide) (by decide) (by decide)), ← h23e, rI_setI_ne _ _ (nr (by decide) (by decide) (by decide)), ← h20e, rI_setI_ne _ _ (nr (by decide) (by decide) (by decide))]
                have x7 : rI H32 (ar 7) = rI H2 (ar 7) := by rw [← h32e, rI_setI_ne _ _ (nr (by decide) (by decide) (by decide)), ← h29e, rI_setI_ne _ _ (nr (by decide) (by decide) (by decide)), ← h26e, rI_setI_ne _ _ (nr (by decide) (by decide) (by decide)), ← h23e, rI_setI_ne _ _ (nr (by decide) (by decide) (by decide)), ← h20e, rI_setI_ne _ _ (nr (by decide) (by decide) (by decide))]
                have L : ∀ r k z (g : Nat → Int32), k + r = dT D → r < z → (∀ i, i < k → g (6 * dn D + i) = dB D i) → (∀ i, i < 6 * dn D → g i = rI H2 (ar 7) i) → ∃ g', s_X12_station_L159 N z m (nI (dT D)) (nI k) (setI H32 (ar 7) g) = some (setI H32 (ar 7) g') ∧ (∀ i, i < dT D → g' (6 * dn D + i) = dB D i) ∧ (∀ i, i < 6 * dn D → g' i = rI H2 (ar 7) i) := by
                  intro r
                  induction r with
                  | zero =>
                    intro k z g hk hz q1 q2
                    obtain ⟨z, rfl⟩ : ∃ y, z = y + 1 := ⟨z - 1, by omega⟩
                    rw [s_X12_station_L159.eq_2, if_pos (nI_le (by omega) (by omega))]
                    exact ⟨g, rfl, fun i hi => q1 i (by omega), q2⟩
                  | succ r ih =>
                    intro k z g hk hz q1 q2
                    obtain ⟨z, rfl⟩ : ∃ y, z = y + 1 := ⟨z - 1, by omega⟩
                    have SS : ShM (setI H32 (ar 7) g) m ar := S32
                    rw [s_X12_station_L159.eq_2, if_neg (nI_ge (by omega) (by omega)), mgR 7 SS (by decide), Option.bind_some, mgI 1 SS.1, Option.bind_some, fI_setI, i32, g2.1, mgR 28 SS (by decide), Option.bind_some, mb SS (by omega), Option.bind_some, rI_setI_ne _ _ (nr (by decide) (by decide) (by decide)), x28, show (6 : Int32) = nI 6 from rfl, nI_mul, nI_add, msI 7 _ _ SS (by decide) (show 6 * dn D + k < 72 by omega), Option.bind_some, setI_setI, rI_setI, nI_1]
                    refine ih (k + 1) z _ (by omega) (by omega) (fun i hi => ?_) (fun i hi => ?_)
                    · unfold upd
                      by_cases c : i = k
                      · rw [c, if_pos rfl]
                      · rw [if_neg (by omega)]
                        exact q1 i (by omega)
                    · unfold upd
                      rw [if_neg (by omega)]
                      exact q2 i hi
                have self : setI H32 (ar 7) (rI H32 (ar 7)) = H32 := by
                  have e2 : (fun x => if x = ar 7 then rI H32 (ar 7) else H32.2.2.2.2.2.2.1 x) = H32.2.2.2.2.2.2.1 := by
                    funext x
                    by_cases e : x = ar 7
                    · rw [if_pos e, e]
                      rfl
                    · rw [if_neg e]
                  show (_, _, _, _, _, _, (fun x => if x = ar 7 then rI H32 (ar 7) else H32.2.2.2.2.2.2.1 x), _) = H32
                  rw [e2]
                obtain ⟨g', e1', e2', e3'⟩ := L (dT D) 0 N (rI H32 (ar 7)) (by omega) (by omega) (fun i hi => absurd hi (by omega)) (fun i _ => by rw [x7])
                rw [self, nI_0] at e1'
                rw [e1', Option.bind_some]
                generalize h39e : setI H32 (ar 7) g' = H39
                have S39 : ShM H39 m ar := by rw [← h39e]; exact S32
                have i39 : fI H39 = fI H2 := by rw [← h39e]; exact i32
                rw [mgI 1 S39.1, Option.bind_some, i39, g2.1, nI_1, mpI 1 _ S39.1, Option.bind_some, mpZ 17 (show kd (wfI H39 (1200 + 1) m _) m = 13 from S39.1) (Or.inl rfl), Option.bind_some, mgI 1 (show kd (wfI (wfI H39 (1200 + 1) m _) (1200 + 17) m 0) m = 13 from S39.1), Option.bind_some, fI_wfI_ne _ _ (by decide), fI_wfI, show (1 : Int32) = nI 1 from rfl, nI_sub (by omega), Nat.add_sub_cancel, ← lv]
                generalize hHe : wfI (wfI H39 (1200 + 1) m (nI (dn D + 1))) (1200 + 17) m 0 = H
                have rH : ∀ a, rI H a = rI H39 a := fun a => by rw [← hHe]; rfl
                have y : ∀ k, mKd k ≠ 0 → k ≠ 7 → rI H (ar k) = rI H32 (ar k) := fun k h1 h2 => by rw [rH, ← h39e, rI_setI_ne _ _ (nr h1 (by decide) h2)]
                have y7 : rI H (ar 7) = g' := by rw [rH, ← h39e, rI_setI]
                have fH : FM m ar smF no1 smR no1 h H := by
                  refine (toM f2).trans ((Fr.mono f32 (fun f a q => q.1.elim) (fun f a q => q) (fun a q => q) (fun a q => q)).trans ?_)
                  rw [← hHe, ← h39e]
                  exact ((Fr.sI _ _ _ ⟨7, ⟨by omega, by omega⟩, rfl⟩).trans (Fr.wI _ _ _ _ ⟨Or.inr (Or.inl rfl), rfl⟩)).trans (Fr.wI _ _ _ _ ⟨Or.inr (Or.inr rfl), rfl⟩)
                refine ⟨H, rfl, fH, Or.inl ⟨⟨⟨c0, c1, c2, c3⟩, ck, cw, c12⟩, by rw [← hHe]; exact fI_wfI _ _ _ _, ⟨?_, ?_⟩, ⟨?_, fun s hs => ?_, fun s hs => ?_⟩⟩⟩
                · show fI H 1229 m = 0
                  rw [← hHe, fI_wfI_ne _ _ (by decide), fI_wfI_ne _ _ (by decide), i39, ← h2e]
                  exact fI_wfI _ _ _ _
                · show rI H (ar 28) = dB D
                  rw [y 28 (by decide) (by decide), x28]
                · show fI H 1201 m = nI (dn D + 1)
                  rw [← hHe, fI_wfI_ne _ _ (by decide)]
                  exact fI_wfI _ _ _ _
                · have hs : s < dn D + 1 := hs
                  show rI H (ar 2) s = upd (dK D) (dn D) a0 s ∧ rI H (ar 3) s = upd (dZ D) (dn D) a1 s ∧ rI H (ar 4) s = upd (dX D) (dn D) a2 s ∧ rI H (ar 5) s = upd (dY D) (dn D) a3 s ∧ rI H (ar 6) s = nI (if s = dn D then dT D else dcl D s) ∧ ∀ k, k < (if s = dn D then dT D else dcl D s) → rI H (ar 7) (6 * s + k) = (if s = dn D then dB D else dcb D s) k
                  rw [y 2 (by decide) (by decide), y 3 (by decide) (by decide), y 4 (by decide) (by decide), y 5 (by decide) (by decide), y 6 (by decide) (by decide), y7, x2, x3, x4, x5, x6]
                  unfold upd
                  by_cases c : s = dn D
                  · subst c
                    rw [if_pos rfl, if_pos rfl, if_pos rfl, if_pos rfl, if_pos rfl, if_pos rfl, if_pos rfl, if_pos rfl, if_pos rfl, if_pos rfl, if_pos rfl]
                    exact ⟨rfl, rfl, rfl, rfl, rfl, e2'⟩
                  · have hs' : s < dn D := by omega
                    have gs := g2.2.1 s hs'
                    have w6 := (wS.2.1 s hs').2.2.2.2.2.1
                    rw [if_neg c, if_neg c, if_neg c, if_neg c, if_neg c, if_neg c, if_neg c, if_neg c, if_neg c, if_neg c, if_neg c]
                    refine ⟨gs.1, gs.2.1, gs.2.2.1, gs.2.2.2.1, gs.2.2.2.2.1, fun k hk => ?_⟩
                    rw [e3' _ (by omega)]
                    exact gs.2.2.2.2.2 k hk
                · show rI H (ar 8) s = dtm D s
                  rw [y 8 (by decide) (by decide), mrI S2 f32 smR_row (by decide) (by unfold smR; omega)]
                  exact g2.2.2 s hs
              · rw [if_neg c12] at lv
                rw [if_pos (show nI (dn D) = 12 from by rw [show dn D = 12 by omega]; rfl)]
                exact fin _ lv.symm (fun z => c12 z.2.2.2)
            · rw [if_neg cw] at lv
              cases hw : withC D (dT D) (dB D) with
              | none => exact absurd hw cw
              | some s =>
                have := withC_lt s hw
                rw [if_neg (oI_some (by omega))]
                exact fin _ lv.symm (fun z => cw z.2.2.1)
          · rw [if_neg ck] at lv
            rw [if_neg ck]
            exact fin _ lv.symm (fun z => ck z.2.1)
        · rw [if_neg c3] at lv
          rw [if_neg (fun z => c3 ⟨z.1, (lel a3 99 (by omega)).mp z.2⟩)]
          exact fin _ lv.symm (fun z => c3 z.1.2.2.2)
      · rw [if_neg c2] at lv
        rw [if_neg (fun z => c2 ⟨z.1, (lel a2 99 (by omega)).mp z.2⟩)]
        exact fin _ lv.symm (fun z => c2 z.1.2.2.1)
    · rw [if_neg c1] at lv
      rw [if_neg (fun z => c1 ⟨z.1, (lel a1 39 (by omega)).mp z.2⟩)]
      exact fin _ lv.symm (fun z => c1 z.1.2.1)
  · rw [if_neg c0] at lv
    rw [if_neg (fun z => c0 ⟨z.1, (lel a0 4 (by omega)).mp z.2⟩)]
    exact fin _ lv.symm (fun z => c0 z.1.1)
theorem stW {D : Dt} (w : WgS D) {a0 a1 a2 a3 : Int32} (q : stG D a0 a1 a2 a3) : WgS (stD D a0 a1 a2 a3) := by
  obtain ⟨⟨c0, c1, c2, c3⟩, ck, cw, c12⟩ := q
  have rg : ∀ (a : Int32) (k : Nat), k < 1000 → (0 ≤ a ∧ a < nI (k + 1)) → in_ a 0 (k : Int) := fun a k hk z => by
    have h1 := iLe.mp z.1
    have h2 := iLt.mp z.2
    rw [nIt (by omega)] at h2
    exact ⟨h1, by omega⟩
  have cl : ∀ s, s < dn D → dcl D s ≤ 6 ∧ allB clB (dcb D s) (dcl D s) 0 = true := fun s hs => ⟨(w.2.1 s hs).2.2.2.2.2.1, (w.2.1 s hs).2.2.2.2.2.2⟩
  have nw : ∀ s, s < dn D → calV (dcb D s) (dcl D s) 0 0 ≠ calV (dB D) (dT D) 0 0 := fun s hs z => by
    have := lst_none _ _ cw s (by omega) (by omega)
    exact of_decide_eq_false this z
  refine ⟨show dn D + 1 ≤ 12 by omega, fun s hs => ?_, fun s t hs ht e => ?_, fun s hs => ?_⟩
  · have hs : s < dn D + 1 := hs
    show in_ (upd (dK D) (dn D) a0 s) 0 4 ∧ in_ (upd (dZ D) (dn D) a1 s) 0 39 ∧ in_ (upd (dX D) (dn D) a2 s) 0 99 ∧ in_ (upd (dY D) (dn D) a3 s) 0 99 ∧ 1 ≤ (if s = dn D then dT D else dcl D s) ∧ (if s = dn D then dT D else dcl D s) ≤ 6 ∧ allB clB (if s = dn D then dB D else dcb D s) (if s = dn D then dT D else dcl D s) 0 = true
    unfold upd
    by_cases c : s = dn D
    · rw [if_pos c, if_pos c, if_pos c, if_pos c, if_pos c, if_pos c]
      exact ⟨rg _ 4 (by omega) c0, rg _ 39 (by omega) c1, rg _ 99 (by omega) c2, rg _ 99 (by omega) c3, ck⟩
    · rw [if_neg c, if_neg c, if_neg c, if_neg c, if_neg c, if_neg c]
      exact w.2.1 s (by omega)
  · have hs : s < dn D + 1 := hs
    have ht : t < dn D + 1 := ht
    have e : calV (if s = dn D then dB D else dcb D s) (if s = dn D then dT D else dcl D s) 0 0 = calV (if t = dn D then dB D else dcb D t) (if t = dn D then dT D else dcl D t) 0 0 := e
    by_cases c : s = dn D
    · by_cases d : t = dn D
      · omega
      · rw [if_pos c, if_pos c, if_neg d, if_neg d] at e
        exact absurd e.symm (nw t (by omega))
    · by_cases d : t = dn D
      · rw [if_neg c, if_neg c, if_pos d, if_pos d] at e
        exact absurd e (nw s (by omega))
      · rw [if_neg c, if_neg c, if_neg d, if_neg d] at e
        exact w.2.2.1 s t (by omega) (by omega) e
  · rcases w.2.2.2 s hs with h | ⟨t, h1, h2, h3, h4, h5⟩
    · exact Or.inl h
    · refine Or.inr ⟨t, show t < dn D + 1 by omega, h2, show s < dn D + 1 by omega, ?_, ?_⟩
      · show upd (dK D) (dn D) a0 t = 4
        unfold upd
        rw [if_neg (by omega)]
        exact h4
      · show upd (dK D) (dn D) a0 s ≠ 4
        unfold upd
        rw [if_neg (by omega)]
        exact h5
theorem stWL {D : Dt} (w : WgL D) {a0 a1 a2 a3 : Int32} (q : stG D a0 a1 a2 a3) : WgL (stD D a0 a1 a2 a3) := by
  have c12 := q.2.2.2
  refine ⟨fun p hp => ?_, fun p hp i hi => w.2 p hp i hi⟩
  have w1 := w.1 p hp
  refine ⟨w1.1, w1.2.1, fun z => w1.2.2.1 (by have z : 3 * (dn D + 1) ≤ p := z; omega), fun z e => ?_⟩
  have z : p < 3 * (dn D + 1) := z
  have e : upd (dK D) (dn D) a0 (p / 3) = 4 := e
  by_cases c : p < 3 * dn D
  · unfold upd at e
    rw [if_neg (by omega)] at e
    exact w1.2.2.2 c e
  · exact w1.2.2.1 (by omega)
