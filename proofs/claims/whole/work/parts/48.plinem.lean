/-! ===== a line of a log, read by the reference ===== -/
def fM1 (m : Nat) (f a : Nat) : Prop := a = m ∧ 1240 ≤ f ∧ f ≤ 1250 ∧ f ≠ 1241
def gM1 (m : Nat) (f a : Nat) : Prop := a = m ∧ 1245 ≤ f ∧ f ≤ 1246
abbrev FrM (m : Nat) : IH → IH → Prop := Fr (fM1 m) (gM1 m) no1 no1
def WM (h : IH) (m : Nat) (ar : Nat → Nat) (l c : Nat) (b : Nat → Int32) : Prop := fI h 1241 m = nI l ∧ l ≤ 1000 ∧ fI h 1240 m = nI c ∧ c ≤ l ∧ rI h (ar 28) = b ∧ Byt b l
theorem WM.wI {h : IH} {m : Nat} {ar : Nat → Nat} {l c : Nat} {b : Nat → Int32} (w : WM h m ar l c b) (f a : Nat) (v : Int32) (hf : 1242 ≤ f) : WM (wfI h f a v) m ar l c b := by
  obtain ⟨w1, w2, w3, w4, w5, w6⟩ := w
  exact ⟨by rw [fI_wfI_ne _ _ (by omega), w1], w2, by rw [fI_wfI_ne _ _ (by omega), w3], w4, w5, w6⟩
theorem nextMM {h : IH} {m : Nat} {ar : Nat → Nat} (S : ShM h m ar) {l c N : Nat} {b : Nat → Int32} (hN : 2000 ≤ N) (w : WM h m ar l c b) : ∃ h', s_X12_next N h m = some h' ∧ FrM m h h' ∧ WM h' m ar l (nxE b l c) b ∧ WdM h' m (nxS b l c) (nxE b l c - nxS b l c) ∧ (∀ f a, 1244 ≤ f → fI h' f a = fI h f a) ∧ fL h' = fL h := by
  obtain ⟨w1, w2, w3, w4, w5, w6⟩ := w
  have hb := nx_bd b w4
  have e := nextM S hN w1 w2 w3 w4
  rw [w5] at e
  refine ⟨_, e, ?_, ?_, ?_, ?_, rfl⟩
  · unfold nxM
    exact ((Fr.wI _ _ _ _ ⟨rfl, by omega, by omega, by omega⟩).trans (Fr.wI _ _ _ _ ⟨rfl, by omega, by omega, by omega⟩)).trans (Fr.wI _ _ _ _ ⟨rfl, by omega, by omega, by omega⟩)
  · unfold nxM
    exact ⟨by rw [fI_wfI_ne _ _ (by decide), fI_wfI_ne _ _ (by decide), fI_wfI_ne _ _ (by decide), w1], w2, by rw [fI_wfI_ne _ _ (by decide), fI_wfI], hb.2.2, w5, w6⟩
  · unfold nxM
    exact ⟨by rw [fI_wfI_ne _ _ (by decide), fI_wfI_ne _ _ (by decide), fI_wfI], by rw [fI_wfI], by omega⟩
  · intro f a hf
    unfold nxM
    rw [fI_wfI_ne _ _ (by omega), fI_wfI_ne _ _ (by omega), fI_wfI_ne _ _ (by omega)]
theorem numMM {h : IH} {m : Nat} {ar : Nat → Nat} (S : ShM h m ar) {l c s e N : Nat} {b : Nat → Int32} (hN : 2000 ≤ N) (w : WM h m ar l c b) (d : WdM h m s (e - s)) (mx : Nat) (hm : mx < 100) : s_X12_isNumber N h m (nI mx) = some (if numOk b s e mx = true then 1 else 0) := by
  rw [isNumberM S hN d mx hm, w.2.2.2.2.1]
  unfold numOk
  congr 1
  by_cases q : 1 ≤ e - s ∧ e - s ≤ mx ∧ allB dig b (e - s) s = true
  · rw [if_pos q, if_pos (decide_eq_true q)]
  · rw [if_neg q, if_neg (fun z => q (of_decide_eq_true z))]
theorem herMM {h : IH} {m : Nat} {ar : Nat → Nat} (S : ShM h m ar) {l c s e N : Nat} {b : Nat → Int32} (hN : 2000 ≤ N) (w : WM h m ar l c b) (d : WdM h m s (e - s)) (hs : s ≤ e) (he : e ≤ l) : s_X12_numberHere N h m = some (numV b (e - s) s 0) := by
  have hw := w.2.2.2.2.1
  rw [numberHereM S hN d (T := l) (by rw [hw]; exact w.2.2.2.2.2) (by omega), hw]
theorem calMM {h : IH} {m : Nat} {ar : Nat → Nat} (S : ShM h m ar) {l c s e N : Nat} {b : Nat → Int32} (hN : 2000 ≤ N) (w : WM h m ar l c b) (d : WdM h m s (e - s)) : s_X12_isCall N h m (nI s) (nI (e - s)) = some (if calOk b s e = true then 1 else 0) := by
  rw [isCallM S hN d.2.2, w.2.2.2.2.1]
  unfold calOk
  congr 1
  by_cases q : 1 ≤ e - s ∧ e - s ≤ 6 ∧ allB clB b (e - s) s = true
  · rw [if_pos q, if_pos (decide_eq_true q)]
  · rw [if_neg q, if_neg (fun z => q (of_decide_eq_true z))]
theorem wl0 {s e : Nat} (hs : s ≤ e) (he : e ≤ 1000) {α : Type} (x y : α) : (if nI (e - s) = 0 then x else y) = if s < e then y else x := by
  have q : (nI (e - s) = 0) ↔ e - s = 0 := nI_eq (b := 0) (by omega) (by omega)
  by_cases c : s < e
  · rw [if_pos c, if_neg (fun z => by have := q.mp z; omega)]
  · rw [if_neg c, if_pos (q.mpr (by omega))]
/-- the new line's words as they stand in the reference -/
def NwM (h : IH) (m : Nat) (x : CoT) : Prop := fL h 1245 m = x.1 ∧ fI h 1247 m = nI x.2.1 ∧ fI h 1248 m = nI x.2.2.1 ∧ fI h 1249 m = x.2.2.2.1 ∧ fI h 1250 m = x.2.2.2.2
theorem conM {h : IH} {m : Nat} {ar : Nat → Nat} (S : ShM h m ar) {l c N : Nat} {b : Nat → Int32} (hN : 2000 ≤ N) (w : WM h m ar l c b) (i9 : fI h 1249 m = -1) (i0 : fI h 1250 m = -1) : ∃ h', s_X12_isContact N h m = some (bI (pCon b l c).2.isSome, h') ∧ FrM m h h' ∧ fI h' 1242 m = nI (pCon b l c).1 ∧ fI h' 1244 m = fI h 1244 m ∧ fL h' 1246 m = fL h 1246 m ∧ ∀ x, (pCon b l c).2 = some x → NwM h' m x := by
  have hl := w.2.1
  have hcl := w.2.2.2.1
  have hb1 := nx_bd b hcl
  have hb2 := nx_bd b hb1.2.2
  have hb3 := nx_bd b hb2.2.2
  have hb4 := nx_bd b hb3.2.2
  have hb5 := nx_bd b hb4.2.2
  obtain ⟨h1, e1, f1, w1, d1, k1, g1⟩ := nextMM S hN w
  have S1 := f1.shM S
  have n1 := numMM S1 hN w1 d1 10 (by omega)
  have v1 := herMM S1 hN w1 d1 hb1.2.1 hb1.2.2
  unfold s_X12_isContact pCon
  rw [show (10 : Int32) = nI 10 from rfl, show (5 : Int32) = nI 5 from rfl]
  simp only [mV12 S, e1, Option.bind_some, mV12 S1, n1, ite01]
  by_cases q1 : numOk b (nxS b l c) (nxE b l c) 10 = true
  · rw [if_pos q1, if_pos q1, v1, Option.bind_some, mpL 45 _ S1.1, Option.bind_some]
    generalize hH : wfL h1 (1200 + 45) m (numV b (nxE b l c - nxS b l c) (nxS b l c) 0) = H5
    have S5 : ShM H5 m ar := by rw [← hH]; exact S1
    have w5 : WM H5 m ar l (nxE b l c) b := by rw [← hH]; exact w1
    have f5 : FrM m h H5 := by rw [← hH]; exact f1.trans (Fr.wL _ _ _ _ ⟨rfl, by omega, by omega⟩)
    have k5 : ∀ f a, 1244 ≤ f → fI H5 f a = fI h f a := by rw [← hH]; exact k1
    have m5 : fL H5 1245 m = numV b (nxE b l c - nxS b l c) (nxS b l c) 0 := by rw [← hH]; exact fL_wfL _ _ _ _
    have o5 : fL H5 1246 m = fL h 1246 m := by rw [← hH, fL_wfL_ne _ _ (by decide), g1]
    obtain ⟨h6, e6, f6, w6, d6, k6, g6⟩ := nextMM S5 hN w5
    have S6 := f6.shM S5
    have n6 := calMM S6 hN w6 d6
    have f6 := f5.trans f6
    unfold pCon2
    simp only [mV12 S5, e6, Option.bind_some, mV12 S6, mgI 42 S6.1, mgI 43 S6.1, d6.1, d6.2.1, n6, ite01, mpI 47 _ S6.1]
    by_cases q2 : calOk b (nxS b l (nxE b l c)) (nxE b l (nxE b l c)) = true
    · rw [if_pos q2, if_pos q2]
      generalize hH8 : wfI h6 (1200 + 47) m (nI (nxS b l (nxE b l c))) = H8
      have S8 : ShM H8 m ar := by rw [← hH8]; exact S6
      have l8 : fI H8 1243 m = nI (nxE b l (nxE b l c) - nxS b l (nxE b l c)) := by rw [← hH8, fI_wfI_ne _ _ (by decide), d6.2.1]
      rw [mgI 43 S8.1, Option.bind_some, l8, mpI 48 _ S8.1, Option.bind_some]
      generalize hH9 : wfI H8 (1200 + 48) m (nI (nxE b l (nxE b l c) - nxS b l (nxE b l c))) = H9
      have S9 : ShM H9 m ar := by rw [← hH9]; exact S8
      have w9 : WM H9 m ar l (nxE b l (nxE b l c)) b := by rw [← hH9, ← hH8]; exact (w6.wI _ _ _ (by omega)).wI _ _ _ (by omega)
      have f9 : FrM m h H9 := by rw [← hH9, ← hH8]; exact (f6.trans (Fr.wI _ _ _ _ ⟨rfl, by omega, by omega, by omega⟩)).trans (Fr.wI _ _ _ _ ⟨rfl, by omega, by omega, by omega⟩)
      have k9 : ∀ f a, 1244 ≤ f → f ≠ 1247 → f ≠ 1248 → fI H9 f a = fI h f a := by
        intro f a h1 h2 h3
        rw [← hH9, fI_wfI_ne _ _ (by omega), ← hH8, fI_wfI_ne _ _ (by omega), k6 f a h1, k5 f a h1]
      have x7 : fI H9 1247 m = nI (nxS b l (nxE b l c)) := by rw [← hH9, fI_wfI_ne _ _ (by decide), ← hH8, fI_wfI]
      have x8 : fI H9 1248 m = nI (nxE b l (nxE b l c) - nxS b l (nxE b l c)) := by rw [← hH9, fI_wfI]
      have m9 : fL H9 1245 m = numV b (nxE b l c - nxS b l c) (nxS b l c) 0 := by rw [← hH9, fL_wfI, ← hH8, fL_wfI, g6, m5]
      have o9 : fL H9 1246 m = fL h 1246 m := by rw [← hH9, fL_wfI, ← hH8, fL_wfI, g6, o5]
      obtain ⟨h17, e17, f17, w17, d17, k17, g17⟩ := nextMM S9 hN w9
      have S17 := f17.shM S9
      have f17 := f9.trans f17
      have n17 := numMM S17 hN w17 d17 5 (by omega)
      have v17 := herMM S17 hN w17 d17 hb3.2.1 hb3.2.2
      unfold pCon3
      simp only [mV12 S9, e17, Option.bind_some, mV12 S17, mgI 43 S17.1, d17.2.1, n17, ite01, v17, mpI 49 _ S17.1, wl0 hb3.2.1 (show nxE b l (nxE b l (nxE b l c)) ≤ 1000 by omega)]
      by_cases q3 : nxS b l (nxE b l (nxE b l c)) < nxE b l (nxE b l (nxE b l c))
      · rw [if_pos q3, if_pos q3]
        by_cases q4 : numOk b (nxS b l (nxE b l (nxE b l c))) (nxE b l (nxE b l (nxE b l c))) 5 = true
        · rw [if_pos q4, if_pos q4]
          generalize hG : (numV b (nxE b l (nxE b l (nxE b l c)) - nxS b l (nxE b l (nxE b l c))) (nxS b l (nxE b l (nxE b l c))) 0).toInt32 = sv
          generalize hH21 : wfI h17 (1200 + 49) m sv = H21
          have S21 : ShM H21 m ar := by rw [← hH21]; exact S17
          have w21 : WM H21 m ar l (nxE b l (nxE b l (nxE b l c))) b := by rw [← hH21]; exact w17.wI _ _ _ (by omega)
          have f21 : FrM m h H21 := by rw [← hH21]; exact f17.trans (Fr.wI _ _ _ _ ⟨rfl, by omega, by omega, by omega⟩)
          obtain ⟨h27, e27, f27, w27, d27, k27, g27⟩ := nextMM S21 hN w21
          have S27 := f27.shM S21
          have f27 := f21.trans f27
          have n27 := numMM S27 hN w27 d27 5 (by omega)
          have v27 := herMM S27 hN w27 d27 hb4.2.1 hb4.2.2
          have a9 : fI h27 1249 m = sv := by rw [k27 _ _ (by omega), ← hH21, fI_wfI]
          have a0 : fI h27 1250 m = -1 := by rw [k27 _ _ (by omega), ← hH21, fI_wfI_ne _ _ (by decide), k17 _ _ (by omega), k9 _ _ (by omega) (by omega) (by omega), i0]
          have a4 : fI h27 1244 m = fI h 1244 m := by rw [k27 _ _ (by omega), ← hH21, fI_wfI_ne _ _ (by decide), k17 _ _ (by omega), k9 _ _ (by omega) (by omega) (by omega)]
          have a7 : fI h27 1247 m = nI (nxS b l (nxE b l c)) := by rw [k27 _ _ (by omega), ← hH21, fI_wfI_ne _ _ (by decide), k17 _ _ (by omega), x7]
          have a8 : fI h27 1248 m = nI (nxE b l (nxE b l c) - nxS b l (nxE b l c)) := by rw [k27 _ _ (by omega), ← hH21, fI_wfI_ne _ _ (by decide), k17 _ _ (by omega), x8]
          have a5 : fL h27 1245 m = numV b (nxE b l c - nxS b l c) (nxS b l c) 0 := by rw [g27, ← hH21, fL_wfI, g17, m9]
          have a6 : fL h27 1246 m = fL h 1246 m := by rw [g27, ← hH21, fL_wfI, g17, o9]
          unfold pCon4
          simp only [mV12 S21, e27, Option.bind_some, mV12 S27, mgI 43 S27.1, d27.2.1, n27, ite01, v27, mpI 50 _ S27.1, wl0 hb4.2.1 (show nxE b l (nxE b l (nxE b l (nxE b l c))) ≤ 1000 by omega)]
          by_cases q5 : nxS b l (nxE b l (nxE b l (nxE b l c))) < nxE b l (nxE b l (nxE b l (nxE b l c)))
          · rw [if_pos q5, if_pos q5]
            by_cases q6 : numOk b (nxS b l (nxE b l (nxE b l (nxE b l c)))) (nxE b l (nxE b l (nxE b l (nxE b l c)))) 5 = true
            · rw [if_pos q6, if_pos q6]
              generalize hK : (numV b (nxE b l (nxE b l (nxE b l (nxE b l c))) - nxS b l (nxE b l (nxE b l (nxE b l c)))) (nxS b l (nxE b l (nxE b l (nxE b l c)))) 0).toInt32 = gv
              generalize hH28 : wfI h27 (1200 + 50) m gv = H28
              have S28 : ShM H28 m ar := by rw [← hH28]; exact S27
              have w28 : WM H28 m ar l (nxE b l (nxE b l (nxE b l (nxE b l c)))) b := by rw [← hH28]; exact w27.wI _ _ _ (by omega)
              have f28 : FrM m h H28 := by rw [← hH28]; exact f27.trans (Fr.wI _ _ _ _ ⟨rfl, by omega, by omega, by omega⟩)
              obtain ⟨h37, e37, f37, w37, d37, k37, g37⟩ := nextMM S28 hN w28
              have S37 := f37.shM S28
              have f37 := f28.trans f37
              have b4 : fI h37 1244 m = fI h 1244 m := by rw [k37 _ _ (by omega), ← hH28, fI_wfI_ne _ _ (by decide), a4]
              have b6 : fL h37 1246 m = fL h 1246 m := by rw [g37, ← hH28, fL_wfI, a6]
              unfold pEnd
              simp only [mV12 S28, e37, Option.bind_some, mgI 43 S37.1, d37.2.1, wl0 hb5.2.1 (show nxE b l (nxE b l (nxE b l (nxE b l (nxE b l c)))) ≤ 1000 by omega)]
              by_cases q7 : nxS b l (nxE b l (nxE b l (nxE b l (nxE b l c)))) < nxE b l (nxE b l (nxE b l (nxE b l (nxE b l c))))
              · rw [if_pos q7, if_pos q7]
                exact ⟨_, rfl, f37, d37.1, b4, b6, fun x hx => by cases hx⟩
              · rw [if_neg q7, if_neg q7]
                refine ⟨_, rfl, f37, d37.1, b4, b6, fun x hx => ?_⟩
                cases hx
                refine ⟨?_, ?_, ?_, ?_, ?_⟩
                · rw [g37, ← hH28, fL_wfI, a5]
                · rw [k37 _ _ (by omega), ← hH28, fI_wfI_ne _ _ (by decide), a7]
                · rw [k37 _ _ (by omega), ← hH28, fI_wfI_ne _ _ (by decide), a8]
                · rw [k37 _ _ (by omega), ← hH28, fI_wfI_ne _ _ (by decide), a9]
                · rw [k37 _ _ (by omega), ← hH28, fI_wfI]
            · rw [if_neg q6, if_neg q6]
              exact ⟨_, rfl, f27, d27.1, a4, a6, fun x hx => by cases hx⟩
          · rw [if_neg q5, if_neg q5]
            refine ⟨_, rfl, f27, d27.1, a4, a6, fun x hx => ?_⟩
            cases hx
            exact ⟨a5, a7, a8, a9, a0⟩
        · rw [if_neg q4, if_neg q4]
          exact ⟨_, rfl, f17, d17.1, by rw [k17 _ _ (by omega), k9 _ _ (by omega) (by omega) (by omega)], by rw [g17, o9], fun x hx => by cases hx⟩
      · rw [if_neg q3, if_neg q3]
        refine ⟨_, rfl, f17, d17.1, by rw [k17 _ _ (by omega), k9 _ _ (by omega) (by omega) (by omega)], by rw [g17, o9], fun x hx => ?_⟩
        cases hx
        exact ⟨by rw [g17, m9], by rw [k17 _ _ (by omega), x7], by rw [k17 _ _ (by omega), x8], by rw [k17 _ _ (by omega), k9 _ _ (by omega) (by omega) (by omega), i9], by rw [k17 _ _ (by omega), k9 _ _ (by omega) (by omega) (by omega), i0]⟩
    · rw [if_neg q2, if_neg q2]
      exact ⟨_, rfl, f6, d6.1, by rw [k6 _ _ (by omega), k5 _ _ (by omega)], by rw [g6, o5], fun x hx => by cases hx⟩
  · rw [if_neg q1, if_neg q1]
    exact ⟨_, rfl, f1, d1.1, by rw [k1 _ _ (by omega)], by rw [g1], fun x hx => by cases hx⟩
theorem resM {h : IH} {m : Nat} {ar : Nat → Nat} (S : ShM h m ar) {l c N : Nat} {b : Nat → Int32} (hN : 2000 ≤ N) (w : WM h m ar l c b) : ∃ h', s_X12_isRest N h m = some (bI (pRes b l c).2.isSome, h') ∧ FrM m h h' ∧ fI h' 1242 m = nI (pRes b l c).1 ∧ (∀ f a, 1244 ≤ f → fI h' f a = fI h f a) ∧ ∀ x, (pRes b l c).2 = some x → fL h' 1245 m = x.1 ∧ fL h' 1246 m = x.2 := by
  have hl := w.2.1
  have hcl := w.2.2.2.1
  have hb1 := nx_bd b hcl
  have hb2 := nx_bd b hb1.2.2
  have hb3 := nx_bd b hb2.2.2
  obtain ⟨h1, e1, f1, w1, d1, k1, g1⟩ := nextMM S hN w
  have S1 := f1.shM S
  have n1 := numMM S1 hN w1 d1 10 (by omega)
  have v1 := herMM S1 hN w1 d1 hb1.2.1 hb1.2.2
  unfold s_X12_isRest pRes
  rw [show (10 : Int32) = nI 10 from rfl]
  simp only [mV12 S, e1, Option.bind_some, mV12 S1, n1, ite01]
  by_cases q1 : numOk b (nxS b l c) (nxE b l c) 10 = true
  · rw [if_pos q1, if_pos q1, v1, Option.bind_some, mpL 45 _ S1.1, Option.bind_some]
    generalize hH : wfL h1 (1200 + 45) m (numV b (nxE b l c - nxS b l c) (nxS b l c) 0) = H5
    have S5 : ShM H5 m ar := by rw [← hH]; exact S1
    have w5 : WM H5 m ar l (nxE b l c) b := by rw [← hH]; exact w1
    have f5 : FrM m h H5 := by rw [← hH]; exact f1.trans (Fr.wL _ _ _ _ ⟨rfl, by omega, by omega⟩)
    have k5 : ∀ f a, 1244 ≤ f → fI H5 f a = fI h f a := by rw [← hH]; exact k1
    have m5 : fL H5 1245 m = numV b (nxE b l c - nxS b l c) (nxS b l c) 0 := by rw [← hH]; exact fL_wfL _ _ _ _
    obtain ⟨h6, e6, f6, w6, d6, k6, g6⟩ := nextMM S5 hN w5
    have S6 := f6.shM S5
    have n6 := numMM S6 hN w6 d6 10 (by omega)
    have v6 := herMM S6 hN w6 d6 hb2.2.1 hb2.2.2
    have f6 := f5.trans f6
    unfold pRes2
    simp only [mV12 S5, e6, Option.bind_some, mV12 S6, n6, ite01, v6, mpL 46 _ S6.1]
    by_cases q2 : numOk b (nxS b l (nxE b l c)) (nxE b l (nxE b l c)) 10 = true
    · rw [if_pos q2, if_pos q2]
      generalize hH9 : wfL h6 (1200 + 46) m (numV b (nxE b l (nxE b l c) - nxS b l (nxE b l c)) (nxS b l (nxE b l c)) 0) = H9
      have S9 : ShM H9 m ar := by rw [← hH9]; exact S6
      have w9 : WM H9 m ar l (nxE b l (nxE b l c)) b := by rw [← hH9]; exact w6
      have f9 : FrM m h H9 := by rw [← hH9]; exact f6.trans (Fr.wL _ _ _ _ ⟨rfl, by omega, by omega⟩)
      obtain ⟨h17, e17, f17, w17, d17, k17, g17⟩ := nextMM S9 hN w9
      have S17 := f17.shM S9
      have f17 := f9.trans f17
      have k9 : ∀ f a, 1244 ≤ f → fI h17 f a = fI h f a := fun f a hf => by rw [k17 f a hf, ← hH9, fI_wfL, k6 f a hf, k5 f a hf]
      unfold pEnd
      simp only [mV12 S9, e17, Option.bind_some, mgI 43 S17.1, d17.2.1, wl0 hb3.2.1 (show nxE b l (nxE b l (nxE b l c)) ≤ 1000 by omega)]
      by_cases q3 : nxS b l (nxE b l (nxE b l c)) < nxE b l (nxE b l (nxE b l c))
      · rw [if_pos q3, if_pos q3]
        exact ⟨_, rfl, f17, d17.1, k9, fun x hx => by cases hx⟩
      · rw [if_neg q3, if_neg q3]
        refine ⟨_, rfl, f17, d17.1, k9, fun x hx => ?_⟩
        cases hx
        exact ⟨by rw [g17, ← hH9, fL_wfL_ne _ _ (by decide), g6, m5], by rw [g17, ← hH9, fL_wfL]⟩
    · rw [if_neg q2, if_neg q2]
      exact ⟨_, rfl, f6, d6.1, fun f a hf => by rw [k6 f a hf, k5 f a hf], fun x hx => by cases hx⟩
  · rw [if_neg q1, if_neg q1]
    exact ⟨_, rfl, f1, d1.1, k1, fun x hx => by cases hx⟩
/-- the line as it stands in the reference -/
def LnM (h : IH) (m : Nat) (x : LnT) : Prop := fI h 1244 m = x.1 ∧ fL h 1245 m = x.2.1 ∧ fL h 1246 m = x.2.2.1 ∧ (x.1 = 0 → fI h 1247 m = nI x.2.2.2.1) ∧ fI h 1248 m = nI x.2.2.2.2.1 ∧ fI h 1249 m = x.2.2.2.2.2.1 ∧ fI h 1250 m = x.2.2.2.2.2.2
theorem txM {h : IH} {m : Nat} {ar : Nat → Nat} (S : ShM h m ar) {l c s e : Nat} {b : Nat → Int32} (w : WM h m ar l c b) (d : WdM h m s (e - s)) (k : Nat) (ch : Int32) (h1 : scLen.getD k 0 = 1) (h2 : (scByt.getD k []).getD 0 0 = ch) : s_X12_isByte h m ch = some (if txB b s (e - s) k = true then 1 else 0) := by
  rw [isByteT S d k ch h1 h2, w.2.2.2.2.1]
theorem lineM {h : IH} {m : Nat} {ar : Nat → Nat} (S : ShM h m ar) {l c N : Nat} {b : Nat → Int32} (hN : 2000 ≤ N) (w : WM h m ar l c b) : ∃ h', s_X12_isLine N h m = some (bI (pLine b l c).2.isSome, h') ∧ FrM m h h' ∧ fI h' 1242 m = nI (pLine b l c).1 ∧ ∀ x, (pLine b l c).2 = some x → LnM h' m x := by
  have hcl := w.2.2.2.1
  have hb1 := nx_bd b hcl
  unfold s_X12_isLine pLine
  rw [mpI 49 _ S.1, Option.bind_some, mpI 50 _ (show kd (wfI h (1200 + 49) m (-1)) m = 13 from S.1), Option.bind_some, mpI 48 _ (show kd (wfI (wfI h (1200 + 49) m (-1)) (1200 + 50) m (-1)) m = 13 from S.1), Option.bind_some, mpL 45 _ (show kd (wfI (wfI (wfI h (1200 + 49) m (-1)) (1200 + 50) m (-1)) (1200 + 48) m 0) m = 13 from S.1), Option.bind_some, mpL 46 _ (show kd (wfL (wfI (wfI (wfI h (1200 + 49) m (-1)) (1200 + 50) m (-1)) (1200 + 48) m 0) (1200 + 45) m 0) m = 13 from S.1), Option.bind_some]
  generalize hH : wfL (wfL (wfI (wfI (wfI h (1200 + 49) m (-1)) (1200 + 50) m (-1)) (1200 + 48) m 0) (1200 + 45) m 0) (1200 + 46) m 0 = H5
  have S5 : ShM H5 m ar := by rw [← hH]; exact S
  have w5 : WM H5 m ar l c b := by rw [← hH]; exact ((w.wI 1249 m (-1) (by omega)).wI 1250 m (-1) (by omega)).wI 1248 m 0 (by omega)
  have f5 : FrM m h H5 := by rw [← hH]; exact ((((Fr.wI _ _ _ _ ⟨rfl, by omega, by omega, by omega⟩).trans (Fr.wI _ _ _ _ ⟨rfl, by omega, by omega, by omega⟩)).trans (Fr.wI _ _ _ _ ⟨rfl, by omega, by omega, by omega⟩)).trans (Fr.wL _ _ _ _ ⟨rfl, by omega, by omega⟩)).trans (Fr.wL _ _ _ _ ⟨rfl, by omega, by omega⟩)
  have i8 : fI H5 1248 m = 0 := by rw [← hH, fI_wfL, fI_wfL, fI_wfI]
  have i9 : fI H5 1249 m = -1 := by rw [← hH, fI_wfL, fI_wfL, fI_wfI_ne _ _ (by decide), fI_wfI_ne _ _ (by decide), fI_wfI]
  have i0 : fI H5 1250 m = -1 := by rw [← hH, fI_wfL, fI_wfL, fI_wfI_ne _ _ (by decide), fI_wfI]
  have j5 : fL H5 1245 m = 0 := by rw [← hH, fL_wfL_ne _ _ (by decide), fL_wfL]
  have j6 : fL H5 1246 m = 0 := by rw [← hH, fL_wfL]
  obtain ⟨h6, e6, f6, w6, d6, k6, g6⟩ := nextMM S5 hN w5
  have S6 := f6.shM S5
  have f6 := f5.trans f6
  have t0 := txM S6 w6 d6 0 113 (by decide) (by decide)
  have t1 := txM S6 w6 d6 1 114 (by decide) (by decide)
  have t2 := txM S6 w6 d6 2 120 (by decide) (by decide)
  simp only [mV12 S5, e6, Option.bind_some, mV12 S6, t0, t1, t2, ite01]
  have S7 : ∀ v, ShM (wfI h6 (1200 + 44) m v) m ar := fun v => S6
  have w7 : ∀ v, WM (wfI h6 (1200 + 44) m v) m ar l (nxE b l c) b := fun v => w6.wI _ _ _ (by omega)
  have f7 : ∀ v, FrM m h (wfI h6 (1200 + 44) m v) := fun v => f6.trans (Fr.wI _ _ _ _ ⟨rfl, by omega, by omega, by omega⟩)
  have n7 : ∀ v f a, 1245 ≤ f → fI (wfI h6 (1200 + 44) m v) f a = fI H5 f a := fun v f a hf => by rw [fI_wfI_ne _ _ (by omega), k6 f a (by omega)]
  have p7 : ∀ v, fI (wfI h6 (1200 + 44) m v) 1242 m = nI (nxS b l c) := fun v => by rw [fI_wfI_ne _ _ (by decide), d6.1]
  by_cases q0 : txB b (nxS b l c) (nxE b l c - nxS b l c) 0 = true
  · obtain ⟨h3, e3, f3, p3, k3, g3, x3⟩ := conM (S7 0) hN (w7 0) (by rw [n7 _ _ _ (by omega), i9]) (by rw [n7 _ _ _ (by omega), i0])
    rw [if_pos q0, if_pos q0, Option.bind_some, mpI 44 _ S6.1, Option.bind_some, mgI 44 (S7 _).1, Option.bind_some, fI_wfI, if_pos rfl, mV12 (S7 0), e3, Option.bind_some, Option.bind_some, if_pos (bI_01 _)]
    refine ⟨h3, ?_, (f7 _).trans f3, p3, fun x hx => ?_⟩
    · rw [Option.isSome_map]
    · obtain ⟨y, hy, rfl⟩ := Option.map_eq_some_iff.mp hx
      obtain ⟨a1, a2, a3, a4, a5⟩ := x3 y hy
      exact ⟨by rw [k3, fI_wfI], a1, by rw [g3, fL_wfI, g6, j6], fun _ => a2, a3, a4, a5⟩
  · rw [if_neg q0, if_neg q0]
    by_cases q1 : txB b (nxS b l c) (nxE b l c - nxS b l c) 1 = true
    · obtain ⟨h3, e3, f3, p3, k3, x3⟩ := resM (S7 1) hN (w7 1)
      rw [if_pos q1, if_pos q1, Option.bind_some, mpI 44 _ S6.1, Option.bind_some, mgI 44 (S7 _).1, Option.bind_some, fI_wfI, if_neg (by decide), Option.bind_some, if_pos rfl, mV12 (S7 1), e3, Option.bind_some, Option.bind_some, if_pos (bI_01 _)]
      refine ⟨h3, ?_, (f7 _).trans f3, p3, fun x hx => ?_⟩
      · rw [Option.isSome_map]
      · obtain ⟨y, hy, rfl⟩ := Option.map_eq_some_iff.mp hx
        obtain ⟨a1, a2⟩ := x3 y hy
        exact ⟨by rw [k3 _ _ (by omega), fI_wfI], a1, a2, fun z => absurd z (show ¬ (1 : Int32) = 0 by decide), by rw [k3 _ _ (by omega), n7 _ _ _ (by omega), i8]; rfl, by rw [k3 _ _ (by omega), n7 _ _ _ (by omega), i9], by rw [k3 _ _ (by omega), n7 _ _ _ (by omega), i0]⟩
    · rw [if_neg q1, if_neg q1]
      by_cases q2 : txB b (nxS b l c) (nxE b l c - nxS b l c) 2 = true
      · rw [if_pos q2, if_pos q2, Option.bind_some, mpI 44 _ S6.1, Option.bind_some, mgI 44 (S7 _).1, Option.bind_some, fI_wfI, if_neg (by decide), Option.bind_some, if_neg (by decide), Option.bind_some, if_pos rfl, Option.bind_some, if_pos (Or.inr rfl)]
        refine ⟨_, rfl, f7 _, p7 _, fun x hx => ?_⟩
        cases hx
        exact ⟨fI_wfI _ _ _ _, by rw [fL_wfI, g6, j5], by rw [fL_wfI, g6, j6], fun z => absurd z (show ¬ (2 : Int32) = 0 by decide), by rw [n7 _ _ _ (by omega), i8]; rfl, by rw [n7 _ _ _ (by omega), i9], by rw [n7 _ _ _ (by omega), i0]⟩
      · rw [if_neg q2, if_neg q2, Option.bind_some, mpI 44 _ S6.1, Option.bind_some, mgI 44 (S7 _).1, Option.bind_some, fI_wfI, if_neg (by decide), Option.bind_some, if_neg (by decide), Option.bind_some, if_neg (by decide), Option.bind_some, if_pos (Or.inl rfl)]
        exact ⟨_, rfl, f7 _, p7 _, fun x hx => by cases hx⟩
