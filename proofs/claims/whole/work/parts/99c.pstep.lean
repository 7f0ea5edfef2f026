/-! ===== every call keeps the two side by side ===== -/
theorem ChM.fr {m : Nat} {ar : Nat → Nat} {D : Dt} {h h' : IH} {F G R Q : Nat → Prop} (S : ShM h m ar) (x : FM m ar F G R Q h h') (hR : mRow R) (hQ : mRow Q) (c : ChM h m ar D) (f1 : ¬ F 1217) (r1 : ¬ R 18) (r2 : ¬ R 19) (q1 : ¬ Q 20) : ChM h' m ar D := fun z => by
  rw [mfI x f1] at z
  exact (c z).fr S x hR hQ r1 r2 q1
theorem rw28 : mRow (e1 28) := fun i z => by cases z; decide
theorem rw8 : mRow (e1 8) := fun i z => by cases z; decide
theorem lv2 {n : Nat} : lvR n (e1 2) := fun i z => by cases z; exact lv_lit (by decide) (by decide)
theorem lv7 {n : Nat} : lvR n (e1 7) := fun i z => by cases z; exact lv_lit (by decide) (by decide)
theorem lv0 {n : Nat} : lvR n no1 := fun i z => z.elim
section
variable {x m k : Nat} {hx hm hx' hm' : IH} {A ar : Nat → Nat} {D : Dt}
theorem relT (e0 : A 0 = x) (S : ShX hx A (dn D)) (T : ShM hm m ar) (g : GX hx A D) (gm : GM hm m ar D) (wd : WD D) (hk : dop D ≤ k) (cx : ChX hx A D) (cm : ChM hm m ar D) {t : Nat} {b : Nat → Int32} (fx : FX A (e1 1001) no1 (e1 2) no1 hx hx') (fm : FM m ar (e1 1229) no1 (e1 28) no1 hm hm') (gT : XgT hx' A (uT D t b)) (gMT : MgT hm' m ar (uT D t b)) (wT : WgT (uT D t b)) : Rel x m (k + 1) hx' hm' := by
  have sm : SmC D (uT D t b) := ⟨rfl, rfl, rfl, rfl, rfl, rfl, rfl, rfl, rfl, rfl, rfl, rfl⟩
  obtain ⟨g1, g2, g3, g4, g5, g6, g7, g8⟩ := g
  obtain ⟨m1, m2, m3, m4, m5, m6, m7, m8⟩ := gm
  obtain ⟨w1, w2, w3, w4, w5, w6, w7⟩ := wd
  refine ⟨A, ar, uT D t b, e0, fx.shX S, fm.shM T, ⟨gT, g2.fr fx (fun f z => by cases z; omega) (fun z => z), g3.fr fx (fun f z => by cases z; omega) (fun f z => z.elim), g4.fr S fx lv2 (fun z => by cases z) (fun z => by cases z), g5.fr S fx lv2 (fun z => by cases z) (fun z => by cases z), g6.fr fx (fun z => by cases z) (fun z => by cases z), g7.fr S fx lv2 w7.1 (fun z => by cases z) (fun z => by cases z) (fun i hi z => by have z : 70 + i = 2 := z; omega), g8.fr fx (fun f z => by cases z; omega)⟩, ⟨gMT, m2.fr T fm rw28 (fun z => by cases z) (fun k z => by cases z; omega), m3.fr T fm rw28 no1_row (fun k z => by cases z; omega) (fun k z => z.elim), m4.fr T fm rw28 (fun z => by cases z) (fun z => by cases z), m5.fr T fm rw28 (fun z => by cases z) (fun z => by cases z) (fun z => by cases z), m6.fr fm (fun z => by cases z) (fun z => by cases z), m7.fr T fm rw28 (fun z => by cases z) (fun z => by cases z) (fun k z => by cases z; omega), m8.fr fm (fun f z => by cases z; omega)⟩, ⟨wT, w2, w3, w4, w5, w6, w7⟩, Nat.le_succ_of_le hk, sc_ChX sm (cx.fr fx (fun z => by cases z) (fun f z => by cases z; omega) (fun z => z)), sc_ChM sm (cm.fr T fm rw28 no1_row (fun z => by cases z) (fun z => by cases z) (fun z => by cases z) (fun z => z))⟩
theorem relSame (r : Rel x m k hx hm) : Rel x m (k + 1) hx hm := by
  obtain ⟨A, ar, D, a1, a2, a3, a4, a5, a6, a7, a8, a9⟩ := r
  exact ⟨A, ar, D, a1, a2, a3, a4, a5, a6, Nat.le_succ_of_le a7, a8, a9⟩
theorem relJ (e0 : A 0 = x) (S : ShX hx A (dn D)) (T : ShM hm m ar) (g : GX hx A D) (gm : GM hm m ar D) (wd : WD D) (hk : dop D ≤ k) (cx : ChX hx A D) (cm : ChM hm m ar D) {t : Nat → Int32} (fx : FX A (fun f => f = 906 ∨ f = 907) no1 no1 no1 hx hx') (fm : FM m ar no1 no1 (e1 8) no1 hm hm') (gS : XgS hx' A (uTm D t)) (gMS : MgS hm' m ar (uTm D t)) (wS : WgS (uTm D t)) : Rel x m (k + 1) hx' hm' := by
  have sm : SmC D (uTm D t) := ⟨rfl, rfl, rfl, rfl, rfl, rfl, rfl, rfl, rfl, rfl, rfl, rfl⟩
  obtain ⟨g1, g2, g3, g4, g5, g6, g7, g8⟩ := g
  obtain ⟨m1, m2, m3, m4, m5, m6, m7, m8⟩ := gm
  obtain ⟨w1, w2, w3, w4, w5, w6, w7⟩ := wd
  refine ⟨A, ar, uTm D t, e0, fx.shX S, fm.shM T, ⟨g1.fr S fx lv0 (by omega) (fun z => z), gS, g3.fr fx (fun f z => by omega) (fun f z => z.elim), g4.fr S fx lv0 (by omega) (fun z => z), g5.fr S fx lv0 (by omega) (fun z => z), g6.fr fx (by omega) (by omega), g7.fr S fx lv0 w7.1 (by omega) (fun z => z) (fun i hi z => z), g8.fr fx (fun f z => by omega)⟩, ⟨m1.fr T fm rw8 (fun z => z) (fun z => by cases z), gMS, m3.fr T fm rw8 no1_row (fun k z => by cases z; omega) (fun k z => z.elim), m4.fr T fm rw8 (fun z => z) (fun z => by cases z), m5.fr T fm rw8 (fun z => z) (fun z => by cases z) (fun z => by cases z), m6.fr fm (fun z => z) (fun z => z), m7.fr T fm rw8 (fun z => z) (fun z => z) (fun k z => by cases z; omega), m8.fr fm (fun f z => z.elim)⟩, ⟨w1, wS, w3, w4, w5, w6, w7⟩, Nat.le_succ_of_le hk, sc_ChX sm (cx.fr fx (by omega) (fun f z => by omega) (fun z => z)), sc_ChM sm (cm.fr T fm rw8 no1_row (fun z => z) (fun z => by cases z) (fun z => by cases z) (fun z => z))⟩
theorem relPen (e0 : A 0 = x) (S : ShX hx A (dn D)) (T : ShM hm m ar) (g : GX hx A D) (gm : GM hm m ar D) (wd : WD D) (hk : dop D ≤ k) (cx : ChX hx A D) (cm : ChM hm m ar D) {t : Int32} (fx : FX A (e1 802) no1 no1 no1 hx hx') (fm : FM m ar (e1 1222) no1 no1 no1 hm hm') (gP : XgP hx' A (uPen D t)) (gMP : MgP hm' m ar (uPen D t)) (wP : WgP (uPen D t)) : Rel x m (k + 1) hx' hm' := by
  have sm : SmC D (uPen D t) := ⟨rfl, rfl, rfl, rfl, rfl, rfl, rfl, rfl, rfl, rfl, rfl, rfl⟩
  obtain ⟨g1, g2, g3, g4, g5, g6, g7, g8⟩ := g
  obtain ⟨m1, m2, m3, m4, m5, m6, m7, m8⟩ := gm
  obtain ⟨w1, w2, w3, w4, w5, w6, w7⟩ := wd
  refine ⟨A, ar, uPen D t, e0, fx.shX S, fm.shM T, ⟨g1.fr S fx lv0 (fun z => by cases z) (fun z => z), g2.fr fx (fun f z => by cases z; omega) (fun z => z), g3.fr fx (fun f z => by cases z; omega) (fun f z => z.elim), g4.fr S fx lv0 (fun z => by cases z) (fun z => z), g5.fr S fx lv0 (fun z => by cases z) (fun z => z), gP, g7.fr S fx lv0 w7.1 (fun z => by cases z) (fun z => z) (fun i hi z => z), g8.fr fx (fun f z => by cases z; omega)⟩, ⟨m1.fr T fm no1_row (fun z => by cases z) (fun z => z), m2.fr T fm no1_row (fun z => by cases z) (fun k z => z.elim), m3.fr T fm no1_row no1_row (fun k z => z.elim) (fun k z => z.elim), m4.fr T fm no1_row (fun z => by cases z) (fun z => z), m5.fr T fm no1_row (fun z => by cases z) (fun z => z) (fun z => z), gMP, m7.fr T fm no1_row (fun z => by cases z) (fun z => by cases z) (fun k z => z.elim), m8.fr fm (fun f z => by cases z; omega)⟩, ⟨w1, w2, w3, w4, w5, wP, w7⟩, Nat.le_succ_of_le hk, sc_ChX sm (cx.fr fx (fun z => by cases z) (fun f z => by cases z; omega) (fun z => z)), sc_ChM sm (cm.fr T fm no1_row no1_row (fun z => by cases z) (fun z => z) (fun z => z) (fun z => z))⟩
theorem relWin (e0 : A 0 = x) (S : ShX hx A (dn D)) (T : ShM hm m ar) (g : GX hx A D) (gm : GM hm m ar D) (wd : WD D) (hk : dop D ≤ k) {t : Int32} (fx : FX A (fun f => f = 3 ∨ f = 4) no1 no1 no1 hx hx') (fm : FM m ar (fun f => f = 1221 ∨ f = 1217) no1 no1 no1 hm hm') (gP : XgP hx' A (uWin D t)) (gMP : MgP hm' m ar (uWin D t)) (wP : WgP (uWin D t)) (zx : fI hx' 4 (A 13) = 0) (zm : fI hm' 1217 m = 0) : Rel x m (k + 1) hx' hm' := by
  obtain ⟨g1, g2, g3, g4, g5, g6, g7, g8⟩ := g
  obtain ⟨m1, m2, m3, m4, m5, m6, m7, m8⟩ := gm
  obtain ⟨w1, w2, w3, w4, w5, w6, w7⟩ := wd
  refine ⟨A, ar, uWin D t, e0, fx.shX S, fm.shM T, ⟨g1.fr S fx lv0 (by omega) (fun z => z), g2.fr fx (fun f z => by omega) (fun z => z), g3.fr fx (fun f z => by omega) (fun f z => z.elim), g4.fr S fx lv0 (by omega) (fun z => z), g5.fr S fx lv0 (by omega) (fun z => z), gP, g7.fr S fx lv0 w7.1 (by omega) (fun z => z) (fun i hi z => z), g8.fr fx (fun f z => by omega)⟩, ⟨m1.fr T fm no1_row (by omega) (fun z => z), m2.fr T fm no1_row (by omega) (fun k z => z.elim), m3.fr T fm no1_row no1_row (fun k z => z.elim) (fun k z => z.elim), m4.fr T fm no1_row (by omega) (fun z => z), m5.fr T fm no1_row (by omega) (fun z => z) (fun z => z), gMP, m7.fr T fm no1_row (by omega) (by omega) (fun k z => z.elim), m8.fr fm (fun f z => by omega)⟩, ⟨w1, w2, w3, w4, w5, wP, w7⟩, Nat.le_succ_of_le hk, fun z => absurd zx z, fun z => absurd zm z⟩
theorem relPub (e0 : A 0 = x) (S : ShX hx A (dn D)) (T : ShM hm m ar) (g : GX hx A D) (gm : GM hm m ar D) (wd : WD D) (hk : dop D ≤ k) {t : Nat} {u : Nat → Nat} {v : Nat → Nat → Int32} (fx : FX A pbF (e1 908) (pbR (dE D)) xkQ hx hx') (fm : FM m ar pmF (e1 1268) pmR chQ hm hm') (gE : XgE hx' A (uE D t u v)) (gME : MgE hm' m ar (uE D t u v)) (wE : WgE (uE D t u v)) (cx : ChX hx' A D) (cm : ChM hm' m ar D) : Rel x m (k + 1) hx' hm' := by
  have sm : SmC D (uE D t u v) := ⟨rfl, rfl, rfl, rfl, rfl, rfl, rfl, rfl, rfl, rfl, rfl, rfl⟩
  obtain ⟨g1, g2, g3, g4, g5, g6, g7, g8⟩ := g
  obtain ⟨m1, m2, m3, m4, m5, m6, m7, m8⟩ := gm
  obtain ⟨w1, w2, w3, w4, w5, w6, w7⟩ := wd
  refine ⟨A, ar, uE D t u v, e0, fx.shX S, fm.shM T, ⟨g1.fr S fx pbR_lv (by unfold pbF rfF; omega) (by unfold pbR rfR puR; omega), g2.fr fx (fun f z => by unfold pbF rfF at z; omega) (fun z => by cases z), g3.fr fx (fun f z => by unfold pbF rfF at z; omega) (fun f z => by cases z; omega), g4.fr S fx pbR_lv (by unfold pbF rfF; omega) (by unfold pbR rfR puR; omega), g5.fr S fx pbR_lv (by unfold pbF rfF; omega) (by unfold pbR rfR puR; omega), g6.fr fx (by unfold pbF rfF; omega) (by unfold pbF rfF; omega), gE, g8.fr fx (fun f z => by unfold pbF rfF at z; omega)⟩, ⟨m1.fr T fm pmR_row (by unfold pmF chF paF ptF; omega) (by unfold pmR mkR chR paR; omega), m2.fr T fm pmR_row (by unfold pmF chF paF ptF; omega) (fun k z => by unfold pmR mkR chR paR at z; omega), m3.fr T fm pmR_row chQ_row (fun k z => by unfold pmR mkR chR paR at z; omega) (fun k z => by unfold chQ paQ at z; omega), m4.fr T fm pmR_row (by unfold pmF chF paF ptF; omega) (by unfold pmR mkR chR paR; omega), m5.fr T fm pmR_row (by unfold pmF chF paF ptF; omega) (by unfold pmR mkR chR paR; omega) (by unfold pmR mkR chR paR; omega), m6.fr fm (by unfold pmF chF paF ptF; omega) (by unfold pmF chF paF ptF; omega), gME, m8.fr fm (fun f z => by unfold pmF chF paF ptF at z; omega)⟩, ⟨w1, w2, w3, w4, w5, w6, wE⟩, Nat.le_succ_of_le hk, sc_ChX sm cx, sc_ChM sm cm⟩
/-! station, log, rule -/
theorem CkX.nm {h : IH} {A' : Nat → Nat} (e : ∀ i, 100 ≤ i → A' i = A i) (c : CkX h A D) : CkX h A' D := by
  refine ⟨fun e' he ce => ?_, fun s hs => ?_, fun e' he ce => ?_⟩
  · rw [e _ (by omega)]; exact c.1 e' he ce
  · rw [e _ (by omega)]; exact c.2.1 s hs
  · unfold MaE
    rw [e _ (by omega)]
    exact c.2.2 e' he ce
theorem WyX.nm {h : IH} {A' : Nat → Nat} (e : ∀ i, 100 ≤ i → A' i = A i) (c : WyX h A D) : WyX h A' D := fun e' he ce => by
  rw [e _ (by omega)]
  exact c e' he ce
theorem CkX.sv {h h' : IH} (e : SmV h h') (c : CkX h A D) : CkX h' A D := by
  obtain ⟨e1, e2, e3, e4⟩ := e
  unfold CkX TgX OfX MtX MaE
  rw [e1, e2]
  exact c
theorem WyX.sv {h h' : IH} (e : SmV h h') (c : WyX h A D) : WyX h' A D := by
  obtain ⟨e1, e2, e3, e4⟩ := e
  unfold WyX
  rw [e1]
  exact c
theorem relRule (e0 : A 0 = x) (S : ShX hx A (dn D)) (T : ShM hm m ar) (gm : GM hm m ar D) (wd : WD D) (hk : dop D ≤ k) (cx : ChX hx A D) (cm : ChM hm m ar D) {A' : Nat → Nat} {H2 : IH} (S' : ShX hx' A' (dn D)) (nmE : ∀ i, i ≠ 9 → i ≠ 10 → A' i = A i) (fx : FX A (fun f => ruF f ∨ f = 1001 ∨ f = 301) no1 ruR no1 hx H2) (sv : SmV H2 hx') (g' : GX hx' A' (ruleD D)) (fm : FM m ar (fun f => rmF f ∨ f = 1223 ∨ f = 1229) no1 (fun i => rmR i ∨ i = 24 ∨ i = 25) no1 hm hm') (gMT : MgT hm' m ar (ruleD D)) (gMR : MgR hm' m ar (ruleD D)) : Rel x m (k + 1) hx' hm' := by
  obtain ⟨m1, m2, m3, m4, m5, m6, m7, m8⟩ := gm
  obtain ⟨w1, w2, w3, w4, w5, w6, w7⟩ := wd
  have rr : mRow (fun i => rmR i ∨ i = 24 ∨ i = 25) := fun i z => by
    rcases (show i = 26 ∨ i = 27 ∨ i = 51 ∨ i = 24 ∨ i = 25 by unfold rmR at z; omega) with y | y | y | y | y <;> subst y <;> decide
  have key : SmC D (ruleD D) ∧ WgT (ruleD D) ∧ (WgS D → WgS (ruleD D)) ∧ (WgL D → WgL (ruleD D)) ∧ (WgW D → WgW (ruleD D)) ∧ (WgP D → WgP (ruleD D)) ∧ (WgE D → WgE (ruleD D)) ∧ dop (ruleD D) = dop D ∧ (MgS hm' m ar D → MgS hm' m ar (ruleD D)) ∧ (MgL hm' m ar D → MgL hm' m ar (ruleD D)) ∧ (MgW hm' m ar D → MgW hm' m ar (ruleD D)) ∧ (MgP hm' m ar D → MgP hm' m ar (ruleD D)) ∧ (MgE hm' m ar D → MgE hm' m ar (ruleD D)) ∧ (MgA hm' m ar D → MgA hm' m ar (ruleD D)) ∧ dn (ruleD D) = dn D := by
    unfold ruleD
    cases rule0 D with
    | inl p => exact ⟨⟨rfl, rfl, rfl, rfl, rfl, rfl, rfl, rfl, rfl, rfl, rfl, rfl⟩, ⟨Nat.zero_le _, w1.2⟩, id, id, id, id, id, rfl, id, id, id, id, id, id, rfl⟩
    | inr l => exact ⟨⟨rfl, rfl, rfl, rfl, rfl, rfl, rfl, rfl, rfl, rfl, rfl, rfl⟩, ⟨Nat.zero_le _, w1.2⟩, id, id, id, id, id, rfl, id, id, id, id, id, id, rfl⟩
  obtain ⟨sm, kT, kS, kL, kW, kP, kE, kO, jS, jL, jW, jP, jE, jA, kn⟩ := key
  have c13 : A' 13 = A 13 := nmE 13 (by omega) (by omega)
  have nm2 : ∀ i, 100 ≤ i → A' i = A i := fun i hi => nmE i (by omega) (by omega)
  have cx' : ChX hx' A' D := fun z => by
    rw [c13, sv.1, fx.fI (by unfold ruF; omega)] at z
    have q := cx z
    exact ⟨((q.1.fr fx (by unfold ruF; omega) (by unfold ruF; omega) (by unfold ruF; omega) (fun z => z)).sv sv).nm nm2, ((q.2.fr fx (by unfold ruF; omega) (by unfold ruF; omega)).sv sv).nm nm2⟩
  refine ⟨A', ar, ruleD D, by rw [nmE 0 (by omega) (by omega)]; exact e0, by rw [kn]; exact S', fm.shM T, g', ⟨gMT, jS (m2.fr T fm rr (by unfold rmF; omega) (fun k z => by unfold rmR at z; omega)), jL (m3.fr T fm rr no1_row (fun k z => by unfold rmR at z; omega) (fun k z => z.elim)), jW (m4.fr T fm rr (by unfold rmF; omega) (by unfold rmR; omega)), gMR, jP (m6.fr fm (by unfold rmF; omega) (by unfold rmF; omega)), jE (m7.fr T fm rr (by unfold rmF; omega) (by unfold rmF; omega) (fun k z => by unfold rmR at z; omega)), jA (m8.fr fm (fun f z => by unfold rmF at z; omega))⟩, ⟨kT, kS w2, kL w3, kW w4, ruleW w5, kP w6, kE w7⟩, by rw [kO]; exact Nat.le_succ_of_le hk, sc_ChX sm cx', sc_ChM sm (cm.fr T fm rr no1_row (by unfold rmF; omega) (by unfold rmR; omega) (by unfold rmR; omega) (fun z => z))⟩
theorem relStn (T : ShM hm m ar) (gm : GM hm m ar D) (wd : WD D) (hk : dop D ≤ k) {a0 a1 a2 a3 : Int32} {A' : Nat → Nat} (hg : stG D a0 a1 a2 a3) (e0 : A' 0 = x) (S' : ShX hx' A' (dn D + 1)) (zx : fI hx' 4 (A' 13) = 0) (g' : GX hx' A' (stD D a0 a1 a2 a3)) (fm : FM m ar smF no1 smR no1 hm hm') (zm : fI hm' 1217 m = 0) (gMT : MgT hm' m ar (stD D a0 a1 a2 a3)) (gMS : MgS hm' m ar (stD D a0 a1 a2 a3)) : Rel x m (k + 1) hx' hm' := by
  obtain ⟨m1, m2, m3, m4, m5, m6, m7, m8⟩ := gm
  obtain ⟨w1, w2, w3, w4, w5, w6, w7⟩ := wd
  have wE : WgE (stD D a0 a1 a2 a3) := ⟨w7.1, fun i hi => by
    have := w7.2 i hi
    show dem D i ≤ dn D + 1
    omega⟩
  exact ⟨A', ar, stD D a0 a1 a2 a3, e0, S', fm.shM T, g', ⟨gMT, gMS, m3.fr T fm smR_row no1_row (fun k z => by unfold smR at z; omega) (fun k z => z.elim), m4.fr T fm smR_row (by unfold smF; omega) (by unfold smR; omega), m5.fr T fm smR_row (by unfold smF; omega) (by unfold smR; omega) (by unfold smR; omega), m6.fr fm (by unfold smF; omega) (by unfold smF; omega), m7.fr T fm smR_row (by unfold smF; omega) (by unfold smF; omega) (fun k z => by unfold smR at z; omega), m8.fr fm (fun f z => by unfold smF at z; omega)⟩, ⟨⟨Nat.zero_le _, w1.2⟩, stW w2 hg, stWL w3 hg, w4, w5, w6, wE⟩, Nat.le_succ_of_le hk, fun z => absurd zx z, fun z => absurd zm z⟩
theorem relLogF (e0 : A 0 = x) (S' : ShX hx' A (dn D)) (S : ShX hx A (dn D)) (T : ShM hm m ar) (g : GX hx A D) (gm : GM hm m ar D) (wd : WD D) (hk : dop D ≤ k) (cx : ChX hx A D) (cm : ChM hm m ar D) {H2 : IH} (fx : FX A lxF lxG (e1 7) no1 hx H2) (sv : SmV H2 hx') (z4 : fI hx' 4 (A 13) = fI hx 4 (A 13)) (gT : XgT hx' A (logF D)) (qL : XgL hx' A (logF D)) (gW : XgW hx' A (logF D)) (fm : FM m ar (fun f => f = 1229 ∨ rdF f) rdG (e1 31) no1 hm hm') (gMT : MgT hm' m ar (logF D)) (gML : MgL hm' m ar (logF D)) (gMW : MgW hm' m ar (logF D)) : Rel x m (k + 1) hx' hm' := by
  have sm : SmC D (logF D) := ⟨rfl, rfl, rfl, rfl, rfl, rfl, rfl, rfl, rfl, rfl, rfl, rfl⟩
  obtain ⟨g1, g2, g3, g4, g5, g6, g7, g8⟩ := g
  obtain ⟨m1, m2, m3, m4, m5, m6, m7, m8⟩ := gm
  obtain ⟨w1, w2, w3, w4, w5, w6, w7⟩ := wd
  have r31 : mRow (e1 31) := fun i z => by cases z; decide
  have cx' : ChX hx' A D := fun z => by
    rw [z4] at z
    have q := cx z
    exact ⟨(q.1.fr fx (by unfold lxF; omega) (by unfold lxF; omega) (by unfold lxF; omega) (by unfold lxG; omega)).sv sv, (q.2.fr fx (by unfold lxF; omega) (by unfold lxF; omega)).sv sv⟩
  exact ⟨A, ar, logF D, e0, S', fm.shM T, ⟨gT, (g2.fr fx (fun f z => by unfold lxF at z; omega) (by unfold lxG; omega)).sv sv, qL, gW, (g5.fr S fx lv7 (by unfold lxF; omega) (fun z => by cases z)).sv sv, (g6.fr fx (by unfold lxF; omega) (by unfold lxF; omega)).sv sv, (g7.fr S fx lv7 w7.1 (by unfold lxF; omega) (fun z => by cases z) (fun i hi z => by have z : 70 + i = 7 := z; omega)).sv sv, (g8.fr fx (fun f z => by unfold lxF at z; omega)).sv sv⟩, ⟨gMT, m2.fr T fm r31 (by unfold rdF; omega) (fun k z => by cases z; omega), gML, gMW, m5.fr T fm r31 (by unfold rdF; omega) (fun z => by cases z) (fun z => by cases z), m6.fr fm (by unfold rdF; omega) (by unfold rdF; omega), m7.fr T fm r31 (by unfold rdF; omega) (by unfold rdF; omega) (fun k z => by cases z; omega), m8.fr fm (fun f z => by unfold rdF at z; omega)⟩, ⟨⟨Nat.zero_le _, w1.2⟩, w2, w3, Nat.zero_le _, w5, w6, w7⟩, Nat.le_succ_of_le hk, sc_ChX sm cx', sc_ChM sm (cm.fr T fm r31 no1_row (by unfold rdF; omega) (fun z => by cases z) (fun z => by cases z) (fun z => z))⟩
theorem relLogS (e0 : A 0 = x) (S : ShX hx A (dn D)) (T : ShM hm m ar) (g : GX hx A D) (gm : GM hm m ar D) (wd : WD D) (hk : dop D ≤ k) {A' : Nat → Nat} {H2 : IH} {a c : Int32} (hc : logC D a c) (S' : ShX hx' A' (dn D)) (nmE : ∀ i, i < 200 → A' i = A i) (fx : FX A lxF lxG (e1 7) no1 hx H2) (sv : SmV H2 hx') (zx : fI hx' 4 (A 13) = 0) (gT : XgT hx' A' (logS D (qOf a c))) (qL : XgL hx' A' (logS D (qOf a c))) (gW : XgW hx' A' (logS D (qOf a c))) (fm : FM m ar lgF rdG lgR lgQ hm hm') (zm : fI hm' 1217 m = 0) (gMT : MgT hm' m ar (logS D (qOf a c))) (gML : MgL hm' m ar (logS D (qOf a c))) (gMW : MgW hm' m ar (logS D (qOf a c))) : Rel x m (k + 1) hx' hm' := by
  obtain ⟨g1, g2, g3, g4, g5, g6, g7, g8⟩ := g
  obtain ⟨m1, m2, m3, m4, m5, m6, m7, m8⟩ := gm
  obtain ⟨w1, w2, w3, w4, w5, w6, w7⟩ := wd
  have wn := w2.1
  have wl : WgL (logS D (qOf a c)) := by
    obtain ⟨h1, h2, h3, h4⟩ := hc
    rcases stC wn a with ⟨s, hs, rfl⟩ | q
    · rcases bandC c with ⟨j, hj, rfl⟩ | q
      · have eq : qOf (nI s) (nI j) = 3 * s + j := by unfold qOf; rw [nI_clamp (by omega), nI_clamp (by omega)]
        rw [nI_clamp (by omega)] at h3
        rw [eq]
        exact logW w1 w2 w3 hs hj h3 h4
      · exact absurd h2 q
    · exact absurd h1 q
  have c13 : A' 13 = A 13 := nmE 13 (by omega)
  exact ⟨A', ar, logS D (qOf a c), by rw [nmE 0 (by omega)]; exact e0, S', fm.shM T, ⟨gT, XgS.nm nmE wn ((g2.fr fx (fun f z => by unfold lxF at z; omega) (by unfold lxG; omega)).sv sv), qL, gW, XgR.nm nmE ((g5.fr S fx lv7 (by unfold lxF; omega) (fun z => by cases z)).sv sv), XgP.nm nmE ((g6.fr fx (by unfold lxF; omega) (by unfold lxF; omega)).sv sv), XgE.nm nmE w7.1 ((g7.fr S fx lv7 w7.1 (by unfold lxF; omega) (fun z => by cases z) (fun i hi z => by have z : 70 + i = 7 := z; omega)).sv sv), XgA.nm nmE ((g8.fr fx (fun f z => by unfold lxF at z; omega)).sv sv)⟩, ⟨gMT, m2.fr T fm lgR_row (by unfold lgF; omega) (fun k z => by unfold lgR wrR_ at z; omega), gML, gMW, m5.fr T fm lgR_row (by unfold lgF; omega) (by unfold lgR wrR_; omega) (by unfold lgR wrR_; omega), m6.fr fm (by unfold lgF; omega) (by unfold lgF; omega), m7.fr T fm lgR_row (by unfold lgF; omega) (by unfold lgF; omega) (fun k z => by unfold lgR wrR_ at z; omega), m8.fr fm (fun f z => by unfold lgF at z; omega)⟩, ⟨⟨Nat.zero_le _, w1.2⟩, w2, wl, wl_len w1, w5, w6, w7⟩, Nat.le_succ_of_le hk, fun z => absurd (by rw [c13]; exact zx) z, fun z => absurd zm z⟩
end
