/-! ===== a line of a log, read by the class ===== -/
def bI (x : Bool) : Int32 := if x then 1 else 0
theorem bI_z (x : Bool) {α : Type} (y z : α) : (if bI x = 0 then y else z) = if x = true then z else y := by cases x <;> rfl
theorem bI_01 (x : Bool) : bI x = 0 ∨ bI x = 1 := by cases x <;> simp [bI]
abbrev LnT : Type := Int32 × Int64 × Int64 × Nat × Nat × Int32 × Int32
def pLine (b : Nat → Int32) (l c : Nat) : Nat × Option LnT := if txB b (nxS b l c) (nxE b l c - nxS b l c) 0 = true then ((pCon b l (nxE b l c)).1, (pCon b l (nxE b l c)).2.map (fun x => (0, x.1, 0, x.2.1, x.2.2.1, x.2.2.2.1, x.2.2.2.2))) else if txB b (nxS b l c) (nxE b l c - nxS b l c) 1 = true then ((pRes b l (nxE b l c)).1, (pRes b l (nxE b l c)).2.map (fun x => (1, x.1, x.2, 0, 0, -1, -1))) else if txB b (nxS b l c) (nxE b l c - nxS b l c) 2 = true then (nxS b l c, some (2, 0, 0, 0, 0, -1, -1)) else (nxS b l c, none)
theorem conX {h : IH} {A : Nat → Nat} {n : Nat} (S : ShX h A n) {T l c N : Nat} {b : Nat → Int32} (hN : 2000 ≤ N) (w : WX h A T l c b) : ∃ h', s_X5_readContact N h (A 5) = some (bI (pCon b l c).2.isSome, h') ∧ FrL A h h' ∧ fI h' 1004 (A 1) = nI (pCon b l c).1 ∧ fI h' 200 (A 6) = fI h 200 (A 6) ∧ ∀ x, (pCon b l c).2 = some x → fL h' 201 (A 6) = x.1 ∧ fL h' 203 (A 6) = calV b x.2.2.1 x.2.1 0 ∧ fI h' 204 (A 6) = x.2.2.2.1 ∧ fI h' 205 (A 6) = x.2.2.2.2 := by
  have hl := w.2.2.2.1
  have hcl := w.2.2.2.2.2.1
  have hb1 := nx_bd b hcl
  have hb2 := nx_bd b hb1.2.2
  have hb3 := nx_bd b hb2.2.2
  have hb4 := nx_bd b hb3.2.2
  have S2 : ShX (wfI h 204 (A 6) (-1)) A n := S
  have S4 : ShX (wfI (wfI h 204 (A 6) (-1)) 205 (A 6) (-1)) A n := S
  have w4 : WX (wfI (wfI h 204 (A 6) (-1)) 205 (A 6) (-1)) A T l c b := (w.wI _ _ _ (by omega)).wI _ _ _ (by omega)
  have f4 : FrL A h (wfI (wfI h 204 (A 6) (-1)) 205 (A 6) (-1)) := (Fr.wI _ _ _ _ (Or.inr ⟨by omega, by omega, rfl⟩)).trans (Fr.wI _ _ _ _ (Or.inr ⟨by omega, by omega, rfl⟩))
  have i204 : fI (wfI (wfI h 204 (A 6) (-1)) 205 (A 6) (-1)) 204 (A 6) = -1 := by rw [fI_wfI_ne _ _ (by decide), fI_wfI]
  have i205 : fI (wfI (wfI h 204 (A 6) (-1)) 205 (A 6) (-1)) 205 (A 6) = -1 := fI_wfI _ _ _ _
  have i200 : fI (wfI (wfI h 204 (A 6) (-1)) 205 (A 6) (-1)) 200 (A 6) = fI h 200 (A 6) := by rw [fI_wfI_ne _ _ (by decide), fI_wfI_ne _ _ (by decide)]
  obtain ⟨h5, e5, f5, w5, p5, m5, k5, g5⟩ := momX S4 hN w4
  have S5 := f5.shX S4
  have f5 := f4.trans f5
  unfold s_X5_readContact pCon
  simp only [gX5_1 S, pX2l_4 S, gX5_1 S2, pX2l_5 S2, vX5 S4, e5, Option.bind_some, ite01]
  by_cases q1 : numOk b (nxS b l c) (nxE b l c) 10 = true
  · rw [if_pos q1, if_pos q1]
    obtain ⟨h8, e8, f8, w8, d8, k8, g8⟩ := nextX S5 hN w5
    have S8 := f8.shX S5
    have n8 := calX S8 hN w8 d8 hb2.2.1 (by omega)
    have S12 : ∀ v, ShX (wfL h8 203 (A 6) v) A n := fun v => S8
    have w12 : ∀ v, WX (wfL h8 203 (A 6) v) A T l (nxE b l (nxE b l c)) b := fun v => w8
    have f12 : ∀ v, FrL A h (wfL h8 203 (A 6) v) := fun v => (f5.trans f8).trans (Fr.wL _ _ _ _ ⟨by omega, by omega, rfl⟩)
    unfold pCon2
    simp only [gX5_0 S5, vX10 S5, e8, gX5_1 S8, gX5_0 S8, vX10 S8, n8, pX2l_3 S8, gX5_1 (S12 _), gX2l_3 (S12 _), fL_wfL, Option.bind_some]
    by_cases q2 : calOk b (nxS b l (nxE b l c)) (nxE b l (nxE b l c)) = true
    · rw [if_pos q2, if_pos q2, if_neg (fun z => calOk_ne q2 ((lc_eq _ _).mp z))]
      obtain ⟨h17, e17, f17, w17, d17, k17, g17⟩ := nextX (S12 (calV b (nxE b l (nxE b l c) - nxS b l (nxE b l c)) (nxS b l (nxE b l c)) 0)) hN (w12 _)
      have S17 := f17.shX (S12 _)
      have f17 := (f12 _).trans f17
      have n17 := numX S17 hN w17 d17 hb3.2.1 (by omega) 5 (by omega)
      unfold pCon3
      have m17 : fL h17 201 (A 6) = numV b (nxE b l c - nxS b l c) (nxS b l c) 0 := by rw [g17, fL_wfL_ne _ _ (by decide), g8, m5 q1]
      have c17 : fL h17 203 (A 6) = calV b (nxE b l (nxE b l c) - nxS b l (nxE b l c)) (nxS b l (nxE b l c)) 0 := by rw [g17, fL_wfL]
      have j204 : fI h17 204 (A 6) = -1 := by rw [k17 _ _ (by omega), fI_wfL, k8 _ _ (by omega), k5 _ _ (by omega), i204]
      have j205 : fI h17 205 (A 6) = -1 := by rw [k17 _ _ (by omega), fI_wfL, k8 _ _ (by omega), k5 _ _ (by omega), i205]
      have j200 : fI h17 200 (A 6) = fI h 200 (A 6) := by rw [k17 _ _ (by omega), fI_wfL, k8 _ _ (by omega), k5 _ _ (by omega), i200]
      simp only [gX5_0 (S12 _), vX10 (S12 _), e17, Option.bind_some, ite01]
      by_cases q3 : nxS b l (nxE b l (nxE b l c)) < nxE b l (nxE b l (nxE b l c))
      · rw [if_pos q3, if_pos q3]
        have S22 : ∀ v, ShX (wfI h17 204 (A 6) v) A n := fun v => S17
        have f22 : ∀ v, FrL A h (wfI h17 204 (A 6) v) := fun v => f17.trans (Fr.wI _ _ _ _ (Or.inr ⟨by omega, by omega, rfl⟩))
        rw [show (5 : Int32) = nI 5 from rfl]
        simp only [gX5_1 S17, gX5_0 S17, vX10 S17, n17, pX2l_4 S17, gX5_1 (S22 _), gX2l_4 (S22 _), fI_wfI, Option.bind_some]
        by_cases q4 : numOk b (nxS b l (nxE b l (nxE b l c))) (nxE b l (nxE b l (nxE b l c))) 5 = true
        · have nv := numV5 q4
          rw [if_pos q4, if_pos q4, if_neg (ne_m1i nv.1)]
          obtain ⟨h27, e27, f27, w27, d27, k27, g27⟩ := nextX (S22 (numV b (nxE b l (nxE b l (nxE b l c)) - nxS b l (nxE b l (nxE b l c))) (nxS b l (nxE b l (nxE b l c))) 0).toInt32) hN (w17.wI _ _ _ (by omega))
          have S27 := f27.shX (S22 _)
          have f27 := (f22 _).trans f27
          have n27 := numX S27 hN w27 d27 hb4.2.1 (by omega) 5 (by omega)
          have m27 : fL h27 201 (A 6) = numV b (nxE b l c - nxS b l c) (nxS b l c) 0 := by rw [g27, fL_wfI, m17]
          have c27 : fL h27 203 (A 6) = calV b (nxE b l (nxE b l c) - nxS b l (nxE b l c)) (nxS b l (nxE b l c)) 0 := by rw [g27, fL_wfI, c17]
          have l204 : fI h27 204 (A 6) = (numV b (nxE b l (nxE b l (nxE b l c)) - nxS b l (nxE b l (nxE b l c))) (nxS b l (nxE b l (nxE b l c))) 0).toInt32 := by rw [k27 _ _ (by omega), fI_wfI]
          have l205 : fI h27 205 (A 6) = -1 := by rw [k27 _ _ (by omega), fI_wfI_ne _ _ (by decide), j205]
          have l200 : fI h27 200 (A 6) = fI h 200 (A 6) := by rw [k27 _ _ (by omega), fI_wfI_ne _ _ (by decide), j200]
          unfold pCon4
          simp only [gX5_0 (S22 _), vX10 (S22 _), e27, Option.bind_some, ite01]
          by_cases q5 : nxS b l (nxE b l (nxE b l (nxE b l c))) < nxE b l (nxE b l (nxE b l (nxE b l c)))
          · rw [if_pos q5, if_pos q5]
            have S32 : ∀ v, ShX (wfI h27 205 (A 6) v) A n := fun v => S27
            have f32 : ∀ v, FrL A h (wfI h27 205 (A 6) v) := fun v => f27.trans (Fr.wI _ _ _ _ (Or.inr ⟨by omega, by omega, rfl⟩))
            simp only [gX5_1 S27, gX5_0 S27, vX10 S27, n27, pX2l_5 S27, gX5_1 (S32 _), gX2l_5 (S32 _), fI_wfI, Option.bind_some]
            by_cases q6 : numOk b (nxS b l (nxE b l (nxE b l (nxE b l c)))) (nxE b l (nxE b l (nxE b l (nxE b l c)))) 5 = true
            · have nv2 := numV5 q6
              rw [if_pos q6, if_pos q6, if_neg (ne_m1i nv2.1)]
              obtain ⟨h37, e37, f37, w37, d37, k37, g37⟩ := nextX (S32 (numV b (nxE b l (nxE b l (nxE b l (nxE b l c))) - nxS b l (nxE b l (nxE b l (nxE b l c)))) (nxS b l (nxE b l (nxE b l (nxE b l c)))) 0).toInt32) hN (w27.wI _ _ _ (by omega))
              have f37 := (f32 _).trans f37
              have m37 : fL h37 201 (A 6) = numV b (nxE b l c - nxS b l c) (nxS b l c) 0 := by rw [g37, fL_wfI, m27]
              have c37 : fL h37 203 (A 6) = calV b (nxE b l (nxE b l c) - nxS b l (nxE b l c)) (nxS b l (nxE b l c)) 0 := by rw [g37, fL_wfI, c27]
              have o204 : fI h37 204 (A 6) = (numV b (nxE b l (nxE b l (nxE b l c)) - nxS b l (nxE b l (nxE b l c))) (nxS b l (nxE b l (nxE b l c))) 0).toInt32 := by rw [k37 _ _ (by omega), fI_wfI_ne _ _ (by decide), l204]
              have o205 : fI h37 205 (A 6) = (numV b (nxE b l (nxE b l (nxE b l (nxE b l c))) - nxS b l (nxE b l (nxE b l (nxE b l c)))) (nxS b l (nxE b l (nxE b l (nxE b l c)))) 0).toInt32 := by rw [k37 _ _ (by omega), fI_wfI]
              have o200 : fI h37 200 (A 6) = fI h 200 (A 6) := by rw [k37 _ _ (by omega), fI_wfI_ne _ _ (by decide), l200]
              unfold pEnd
              simp only [gX5_0 (S32 _), vX10 (S32 _), e37, Option.bind_some, ite01]
              by_cases q7 : nxS b l (nxE b l (nxE b l (nxE b l (nxE b l c)))) < nxE b l (nxE b l (nxE b l (nxE b l (nxE b l c))))
              · rw [if_pos q7, if_pos q7]
                exact ⟨_, rfl, f37, d37.1, o200, fun x hx => by cases hx⟩
              · rw [if_neg q7, if_neg q7]
                refine ⟨_, rfl, f37, d37.1, o200, fun x hx => ?_⟩
                cases hx
                exact ⟨m37, c37, o204, o205⟩
            · rw [if_neg q6, if_neg q6, if_pos (by decide)]
              exact ⟨_, rfl, f32 _, by rw [fI_wfI_ne _ _ (by decide)]; exact d27.1, by rw [fI_wfI_ne _ _ (by decide)]; exact l200, fun x hx => by cases hx⟩
          · rw [if_neg q5, if_neg q5]
            refine ⟨_, rfl, f27, d27.1, l200, fun x hx => ?_⟩
            cases hx
            exact ⟨m27, c27, l204, l205⟩
        · rw [if_neg q4, if_neg q4, if_pos (by decide)]
          exact ⟨_, rfl, f22 _, by rw [fI_wfI_ne _ _ (by decide)]; exact d17.1, by rw [fI_wfI_ne _ _ (by decide)]; exact j200, fun x hx => by cases hx⟩
      · rw [if_neg q3, if_neg q3]
        refine ⟨_, rfl, f17, d17.1, j200, fun x hx => ?_⟩
        cases hx
        exact ⟨m17, c17, j204, j205⟩
    · rw [if_neg q2, if_neg q2, if_pos ((lc_eq _ _).mpr rfl)]
      exact ⟨_, rfl, f12 _, d8.1, by rw [fI_wfL, k8 _ _ (by omega), k5 _ _ (by omega), i200], fun x hx => by cases hx⟩
  · rw [if_neg q1, if_neg q1]
    exact ⟨_, rfl, f5, p5, by rw [k5 _ _ (by omega), i200], fun x hx => by cases hx⟩
theorem resX {h : IH} {A : Nat → Nat} {n : Nat} (S : ShX h A n) {T l c N : Nat} {b : Nat → Int32} (hN : 2000 ≤ N) (w : WX h A T l c b) : ∃ h', s_X5_readRest N h (A 5) = some (bI (pRes b l c).2.isSome, h') ∧ FrL A h h' ∧ fI h' 1004 (A 1) = nI (pRes b l c).1 ∧ fI h' 200 (A 6) = fI h 200 (A 6) ∧ ∀ x, (pRes b l c).2 = some x → fL h' 201 (A 6) = x.1 ∧ fL h' 202 (A 6) = x.2 := by
  have hl := w.2.2.2.1
  have hcl := w.2.2.2.2.2.1
  have hb1 := nx_bd b hcl
  have hb2 := nx_bd b hb1.2.2
  have hb3 := nx_bd b hb2.2.2
  obtain ⟨h5, e5, f5, w5, p5, m5, k5, g5⟩ := momX S hN w
  have S5 := f5.shX S
  unfold s_X5_readRest pRes
  simp only [vX5 S, e5, Option.bind_some, ite01]
  by_cases q1 : numOk b (nxS b l c) (nxE b l c) 10 = true
  · rw [if_pos q1, if_pos q1]
    obtain ⟨h8, e8, f8, w8, d8, k8, g8⟩ := nextX S5 hN w5
    have S8 := f8.shX S5
    have n8 := numX S8 hN w8 d8 hb2.2.1 (by omega) 10 (by omega)
    have S12 : ∀ v, ShX (wfL h8 202 (A 6) v) A n := fun v => S8
    have w12 : ∀ v, WX (wfL h8 202 (A 6) v) A T l (nxE b l (nxE b l c)) b := fun v => w8
    have f12 : ∀ v, FrL A h (wfL h8 202 (A 6) v) := fun v => (f5.trans f8).trans (Fr.wL _ _ _ _ ⟨by omega, by omega, rfl⟩)
    unfold pRes2
    rw [show (10 : Int32) = nI 10 from rfl]
    simp only [gX5_0 S5, vX10 S5, e8, gX5_1 S8, gX5_0 S8, vX10 S8, n8, pX2l_2 S8, gX5_1 (S12 _), gX2l_2 (S12 _), fL_wfL, Option.bind_some]
    by_cases q2 : numOk b (nxS b l (nxE b l c)) (nxE b l (nxE b l c)) 10 = true
    · rw [if_pos q2, if_pos q2, if_neg (ne_m1 (numV_ok (by omega) q2).1)]
      obtain ⟨h17, e17, f17, w17, d17, k17, g17⟩ := nextX (S12 (numV b (nxE b l (nxE b l c) - nxS b l (nxE b l c)) (nxS b l (nxE b l c)) 0)) hN (w12 _)
      have f17 := (f12 _).trans f17
      unfold pEnd
      have m17 : fL h17 201 (A 6) = numV b (nxE b l c - nxS b l c) (nxS b l c) 0 := by rw [g17, fL_wfL_ne _ _ (by decide), g8, m5 q1]
      have c17 : fL h17 202 (A 6) = numV b (nxE b l (nxE b l c) - nxS b l (nxE b l c)) (nxS b l (nxE b l c)) 0 := by rw [g17, fL_wfL]
      have j200 : fI h17 200 (A 6) = fI h 200 (A 6) := by rw [k17 _ _ (by omega), fI_wfL, k8 _ _ (by omega), k5 _ _ (by omega)]
      simp only [gX5_0 (S12 _), vX10 (S12 _), e17, Option.bind_some, ite01]
      by_cases q7 : nxS b l (nxE b l (nxE b l c)) < nxE b l (nxE b l (nxE b l c))
      · rw [if_pos q7, if_pos q7]
        exact ⟨_, rfl, f17, d17.1, j200, fun x hx => by cases hx⟩
      · rw [if_neg q7, if_neg q7]
        refine ⟨_, rfl, f17, d17.1, j200, fun x hx => ?_⟩
        cases hx
        exact ⟨m17, c17⟩
    · rw [if_neg q2, if_neg q2, if_pos (by decide)]
      exact ⟨_, rfl, f12 _, d8.1, by rw [fI_wfL, k8 _ _ (by omega), k5 _ _ (by omega)], fun x hx => by cases hx⟩
  · rw [if_neg q1, if_neg q1]
    exact ⟨_, rfl, f5, p5, by rw [k5 _ _ (by omega)], fun x hx => by cases hx⟩
/-- the line as it stands in the reader -/
def LnX (h : IH) (A : Nat → Nat) (b : Nat → Int32) (x : LnT) : Prop := fI h 200 (A 6) = x.1 ∧ (x.1 ≠ 2 → fL h 201 (A 6) = x.2.1) ∧ (x.1 = 1 → fL h 202 (A 6) = x.2.2.1) ∧ (x.1 = 0 → fL h 203 (A 6) = calV b x.2.2.2.2.1 x.2.2.2.1 0 ∧ fI h 204 (A 6) = x.2.2.2.2.2.1 ∧ fI h 205 (A 6) = x.2.2.2.2.2.2)
theorem txX {h : IH} {A : Nat → Nat} {n : Nat} (S : ShX h A n) {T l c s e N : Nat} {b : Nat → Int32} (hN : 2000 ≤ N) (w : WX h A T l c b) (d : WdX h A s e) (hs : s ≤ e) (he : e ≤ T) {k : Nat} (hk : k < 13) : s_X10_wordIs N h (A 1) k = some (if txB b s (e - s) k = true then 1 else 0) := by
  obtain ⟨w1, w2, w3, w4, w5, w6, w7⟩ := w
  rw [wordIsX S hN w1 w2 d.1 d.2 (by omega) hk, w7]
theorem lineX {h : IH} {A : Nat → Nat} {n : Nat} (S : ShX h A n) {T l c N : Nat} {b : Nat → Int32} (hN : 2000 ≤ N) (w : WX h A T l c b) : ∃ h', s_X5_readLine N h (A 5) = some (bI (pLine b l c).2.isSome, h') ∧ FrL A h h' ∧ fI h' 1004 (A 1) = nI (pLine b l c).1 ∧ ∀ x, (pLine b l c).2 = some x → LnX h' A b x := by
  have hl := w.2.2.2.1
  have hcl := w.2.2.2.2.2.1
  have hb1 := nx_bd b hcl
  obtain ⟨h1, e1, f1, w1, d1, k1, g1⟩ := nextX S hN w
  have S1 := f1.shX S
  have t0 := txX S1 hN w1 d1 hb1.2.1 (by omega) (k := 0) (by omega)
  have t1 := txX S1 hN w1 d1 hb1.2.1 (by omega) (k := 1) (by omega)
  have S2 : ∀ v, ShX (wfI h1 200 (A 6) v) A n := fun v => S1
  have w2 : ∀ v, WX (wfI h1 200 (A 6) v) A T l (nxE b l c) b := fun v => w1.wI _ _ _ (by omega)
  have f2 : ∀ v, FrL A h (wfI h1 200 (A 6) v) := fun v => f1.trans (Fr.wI _ _ _ _ (Or.inr ⟨by omega, by omega, rfl⟩))
  have t2 := fun v => txX (S2 v) hN (w2 v) (d1.wI 200 (A 6) v (by omega)) hb1.2.1 (by omega) (k := 2) (by omega)
  unfold s_X5_readLine pLine
  simp only [gX5_0 S, vX10 S, e1, Option.bind_some, gX5_0 S1, vX10 S1, t0, t1, ite01, gX5_1 S1, pX2l_0 S1, gX5_0 (S2 _), vX10 (S2 _), t2, vX5 (S2 _)]
  by_cases q0 : txB b (nxS b l c) (nxE b l c - nxS b l c) 0 = true
  · rw [if_pos q0, if_pos q0]
    obtain ⟨h3, e3, f3, p3, k3, x3⟩ := conX (S2 0) hN (w2 0)
    rw [e3, Option.bind_some, if_pos (bI_01 _)]
    refine ⟨h3, ?_, (f2 _).trans f3, p3, fun x hx => ?_⟩
    · rw [Option.isSome_map]
    · obtain ⟨y, hy, rfl⟩ := Option.map_eq_some_iff.mp hx
      obtain ⟨a1, a2, a3, a4⟩ := x3 y hy
      exact ⟨by rw [k3, fI_wfI], fun _ => a1, fun z => absurd z (show ¬ (0 : Int32) = 1 by decide), fun _ => ⟨a2, a3, a4⟩⟩
  · rw [if_neg q0, if_neg q0]
    by_cases q1 : txB b (nxS b l c) (nxE b l c - nxS b l c) 1 = true
    · rw [if_pos q1, if_pos q1]
      obtain ⟨h3, e3, f3, p3, k3, x3⟩ := resX (S2 1) hN (w2 1)
      rw [e3, Option.bind_some, if_pos (bI_01 _)]
      refine ⟨h3, ?_, (f2 _).trans f3, p3, fun x hx => ?_⟩
      · rw [Option.isSome_map]
      · obtain ⟨y, hy, rfl⟩ := Option.map_eq_some_iff.mp hx
        obtain ⟨a1, a2⟩ := x3 y hy
        exact ⟨by rw [k3, fI_wfI], fun _ => a1, fun _ => a2, fun z => absurd z (show ¬ (1 : Int32) = 0 by decide)⟩
    · rw [if_neg q1, if_neg q1]
      by_cases q2 : txB b (nxS b l c) (nxE b l c - nxS b l c) 2 = true
      · rw [if_pos q2, if_pos q2]
        refine ⟨_, rfl, f2 _, by rw [fI_wfI_ne _ _ (by decide)]; exact d1.1, fun x hx => ?_⟩
        cases hx
        exact ⟨fI_wfI _ _ _ _, fun z => absurd rfl z, fun z => absurd z (by decide), fun z => absurd z (by decide)⟩
      · rw [if_neg q2, if_neg q2]
        exact ⟨_, rfl, f2 _, by rw [fI_wfI_ne _ _ (by decide)]; exact d1.1, fun x hx => by cases hx⟩
