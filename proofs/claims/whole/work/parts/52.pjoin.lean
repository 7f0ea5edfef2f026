/-! ===== join ===== -/
theorem cnt_set {p q : Nat → Bool} {s : Nat} (h0 : p s = false) (h1 : q s = true) (h2 : ∀ j, j ≠ s → q j = p j) : ∀ k, cnt q k = cnt p k + (if s < k then 1 else 0) := by
  intro k
  induction k with
  | zero => rw [if_neg (by omega)]; rfl
  | succ k ih =>
    have e0 : cnt q (k + 1) = cnt q k + (if q k then 1 else 0) := rfl
    have e9 : cnt p (k + 1) = cnt p k + (if p k then 1 else 0) := rfl
    rw [e0, e9, ih]
    by_cases e : k = s
    · subst e
      simp [h0, h1]
    · rw [h2 k e]
      by_cases c : s < k
      · have c2 : s < k + 1 := by omega
        simp only [c, c2, if_true]
        omega
      · have c2 : ¬ s < k + 1 := by omega
        simp only [c, c2, if_false, Nat.add_zero]
def joinT (D : Dt) (t s : Nat) : Dt := uTm D (upd (dtm D) s (nI (t + 1)))
theorem mem_j {D : Dt} {t s : Nat} (ht : t < 1000) (hs : s < dn D) (h0 : dtm D s = 0) (u : Nat) (hu : u < 1000) : mem (joinT D t s) u = mem D u + (if u = t then 1 else 0) := by
  show cnt (fun k => decide (upd (dtm D) s (nI (t + 1)) k = nI (u + 1))) (dn D) = cnt (fun k => decide (dtm D k = nI (u + 1))) (dn D) + _
  have z : ¬ (0 : Int32) = nI (u + 1) := fun z => by
    have := (nI_eq (a := 0) (b := u + 1) (by omega) (by omega)).mp z
    omega
  by_cases c : u = t
  · subst c
    rw [if_pos rfl, cnt_set (p := fun k => decide (dtm D k = nI (u + 1))) (s := s)]
    · rw [if_pos hs]
    · exact decide_eq_false (by rw [h0]; exact z)
    · exact decide_eq_true (by unfold upd; rw [if_pos rfl])
    · intro j hj
      show decide (upd (dtm D) s (nI (u + 1)) j = nI (u + 1)) = _
      unfold upd
      rw [if_neg hj]
  · rw [if_neg c, Nat.add_zero]
    apply cnt_congr
    intro j _
    show decide (upd (dtm D) s (nI (t + 1)) j = nI (u + 1)) = _
    unfold upd
    by_cases e : j = s
    · subst e
      rw [if_pos rfl, h0, decide_eq_false z, decide_eq_false (fun z => c (by have := (nI_eq (by omega) (by omega)).mp z; omega))]
    · rw [if_neg e]
def joinD (D : Dt) (a b : Int32) : Dt := if (0 ≤ a ∧ a < nI (dn D)) ∧ (0 ≤ b ∧ b < nI (dn D)) ∧ dK D a.toNatClampNeg = 4 ∧ dK D b.toNatClampNeg ≠ 4 ∧ dtm D b.toNatClampNeg = 0 then joinT D a.toNatClampNeg b.toNatClampNeg else D
def joinV (D : Dt) (a b : Int32) : Int32 := if (0 ≤ a ∧ a < nI (dn D)) ∧ (0 ≤ b ∧ b < nI (dn D)) ∧ dK D a.toNatClampNeg = 4 then (if dK D b.toNatClampNeg = 4 then -2 else if dtm D b.toNatClampNeg = 0 then nI (mem D a.toNatClampNeg + 1) else -3) else -1
theorem tm_m1 {D : Dt} (w : WgS D) {s : Nat} (hs : s < 12) : (dtm D s - 1 = -1) ↔ dtm D s = 0 := by
  constructor
  · intro z
    rcases w.2.2.2 s hs with h | ⟨t, h1, h2, _⟩
    · exact h
    · rw [h2] at z
      have z := congrArg Int32.toInt z
      have hn := w.1
      have e1 : (1 : Int32).toInt = 1 := rfl
      rw [is (by rw [nIt (by omega), e1]; omega) (by rw [nIt (by omega), e1]; omega), nIt (by omega), e1] at z
      have : (-1 : Int32).toInt = -1 := rfl
      omega
  · intro z
    rw [z]
    decide
theorem joinX {h : IH} {A : Nat → Nat} {n : Nat} (S : ShX h A n) {D : Dt} (g : XgS h A D) (w : WgS D) (hn : n = dn D) (a b : Int32) : ∃ h', s_X11_join h (A 0) a b = some (joinV D a b, h') ∧ FX A (fun f => f = 906 ∨ f = 907) no1 no1 no1 h h' ∧ XgS h' A (joinD D a b) := by
  have h12 := w.1
  unfold s_X11_join joinV joinD
  rcases stC h12 a with ⟨t, ht, rfl⟩ | qa
  · have wt := stIn h12 ht
    have et := atX S g hn ht
    have gt := g.2 t ht
    rcases stC h12 b with ⟨s, hs, rfl⟩ | qb
    · have ws := stIn h12 hs
      have es := atX S g hn hs
      have gs := g.2 s hs
      subst hn
      rw [nI_clamp (n := t) (by omega), nI_clamp (n := s) (by omega)]
      simp only [gX11_1 S, vX7 S, et, es, Option.bind_some, gX9_0 S ht, gX9_0 S hs, gX9_6 S hs, gt.1, gs.1, gs.2.2.2.2.2.1, pX9_6 S hs]
      rw [if_neg (show ¬ some (A (100 + t)) = none from fun z => by cases z), if_neg (show ¬ some (A (100 + s)) = none from fun z => by cases z)]
      by_cases q1 : dK D t = 4
      · rw [if_pos q1, if_pos (show (0 ≤ nI t ∧ nI t < nI (dn D)) ∧ (0 ≤ nI s ∧ nI s < nI (dn D)) ∧ dK D t = 4 from ⟨wt, ws, q1⟩)]
        by_cases q2 : dK D s = 4
        · rw [if_pos q2, if_pos q2, if_neg (fun z => z.2.2.2.1 q2)]
          exact ⟨h, rfl, Fr.refl _, g⟩
        · rw [if_neg q2, if_neg q2]
          by_cases q3 : dtm D s = 0
          · have hst : s ≠ t := fun z => q2 (z ▸ q1)
            rw [if_pos ((tm_m1 w (by omega)).mpr q3), if_pos q3, if_pos ⟨wt, ws, q1, q2, q3⟩]
            have S1 : ShX (wfI h 906 (A (100 + s)) (nI t)) A (dn D) := S
            rw [gX9_7 S1 ht, Option.bind_some, fI_wfI_ne _ _ (by decide), gt.2.2.2.2.2.2, pX9_7 S1 ht, Option.bind_some]
            have S2 : ∀ v, ShX (wfI (wfI h 906 (A (100 + s)) (nI t)) 907 (A (100 + t)) v) A (dn D) := fun v => S
            rw [gX9_7 (S2 _) ht, Option.bind_some, fI_wfI, nI_1]
            refine ⟨_, rfl, (Fr.wI _ _ _ _ (Or.inl rfl)).trans (Fr.wI _ _ _ _ (Or.inr rfl)), ?_, fun u hu => ?_⟩
            · rw [fI_wfI_ne _ _ (by decide), fI_wfI_ne _ _ (by decide)]
              exact g.1
            · have gu := g.2 u hu
              have hu' : u < dn D := hu
              have e6 : fI (wfI (wfI h 906 (A (100 + s)) (nI t)) 907 (A (100 + t)) (nI (mem D t + 1))) 906 (A (100 + u)) = dtm (joinT D t s) u - 1 := by
                rw [fI_wfI_ne _ _ (by decide)]
                show u2 (fI h) 906 (A (100 + s)) (nI t) 906 (A (100 + u)) = upd (dtm D) s (nI (t + 1)) u - 1
                by_cases e : u = s
                · subst e
                  rw [u2_same]
                  unfold upd
                  rw [if_pos rfl, show (1 : Int32) = nI 1 from rfl, nI_sub (by omega)]
                  rfl
                · rw [u2_ne2 (fun z => e (by have := iA S (lv_s hu') (lv_s hs) z; omega))]
                  unfold upd
                  rw [if_neg e]
                  exact gu.2.2.2.2.2.1
              have e7 : fI (wfI (wfI h 906 (A (100 + s)) (nI t)) 907 (A (100 + t)) (nI (mem D t + 1))) 907 (A (100 + u)) = nI (mem (joinT D t s) u) := by
                rw [mem_j (by omega) hs q3 u (by omega)]
                show u2 (u2 (fI h) 906 (A (100 + s)) (nI t)) 907 (A (100 + t)) (nI (mem D t + 1)) 907 (A (100 + u)) = _
                by_cases e : u = t
                · subst e
                  rw [u2_same, if_pos rfl]
                · rw [u2_ne2 (fun z => e (by have := iA S (lv_s hu') (lv_s ht) z; omega)), u2_ne1 (by decide), if_neg e]
                  exact gu.2.2.2.2.2.2
              have k : ∀ f, f < 906 → fI (wfI (wfI h 906 (A (100 + s)) (nI t)) 907 (A (100 + t)) (nI (mem D t + 1))) f (A (100 + u)) = fI h f (A (100 + u)) := fun f hf => by rw [fI_wfI_ne _ _ (by omega), fI_wfI_ne _ _ (by omega)]
              refine ⟨?_, ?_, ?_, ?_, gu.2.2.2.2.1, e6, e7⟩
              · rw [k _ (by omega)]; exact gu.1
              · rw [k _ (by omega)]; exact gu.2.1
              · rw [k _ (by omega)]; exact gu.2.2.1
              · rw [k _ (by omega)]; exact gu.2.2.2.1
          · rw [if_neg (fun z => q3 ((tm_m1 w (by omega)).mp z)), if_neg q3, if_neg (fun z => q3 z.2.2.2.2)]
            exact ⟨h, rfl, Fr.refl _, g⟩
      · rw [if_neg q1, if_neg (show ¬ ((0 ≤ nI t ∧ nI t < nI (dn D)) ∧ (0 ≤ nI s ∧ nI s < nI (dn D)) ∧ dK D t = 4) from fun z => q1 z.2.2), if_neg (fun z => q1 z.2.2.1)]
        exact ⟨h, rfl, Fr.refl _, g⟩
    · have es := atX0 S g qb
      simp only [gX11_1 S, vX7 S, et, es, Option.bind_some]
      rw [if_neg (show ¬ some (A (100 + t)) = none from fun z => by cases z), if_pos trivial, if_neg (fun z => qb z.2.1), if_neg (fun z => qb z.2.1)]
      exact ⟨h, rfl, Fr.refl _, g⟩
  · have et := atX0 S g qa
    rw [if_neg (fun z => qa z.1), if_neg (fun z => qa z.1)]
    rcases stC h12 b with ⟨s, hs, rfl⟩ | qb
    · simp only [gX11_1 S, vX7 S, et, atX S g hn hs, Option.bind_some, if_pos]
      exact ⟨h, rfl, Fr.refl _, g⟩
    · simp only [gX11_1 S, vX7 S, et, atX0 S g qb, Option.bind_some, if_pos]
      exact ⟨h, rfl, Fr.refl _, g⟩
theorem joinM {h : IH} {m : Nat} {ar : Nat → Nat} (S : ShM h m ar) {D : Dt} {N : Nat} (hN : 2000 ≤ N) (g : MgS h m ar D) (w : WgS D) (a b : Int32) : ∃ h', s_X12_join N h m a b = some (joinV D a b, h') ∧ FM m ar no1 no1 (e1 8) no1 h h' ∧ MgS h' m ar (joinD D a b) := by
  have h12 := w.1
  unfold s_X12_join joinV joinD
  simp only [mV12 S, isStationM S g h12, Option.bind_some, ite01]
  rcases stC h12 b with ⟨s, hs, rfl⟩ | qb
  · have ws := stIn h12 hs
    have gs := g.2.1 s hs
    rw [if_pos ws]
    rcases stC h12 a with ⟨t, ht, rfl⟩ | qa
    · have wt := stIn h12 ht
      have gt := g.2.1 t ht
      rw [if_pos wt, nI_clamp (n := t) (by omega), nI_clamp (n := s) (by omega)]
      simp only [mgR 2 S (by decide), Option.bind_some, maI 2 t S (by decide) (show t < 12 by omega), maI 2 s S (by decide) (show s < 12 by omega), mgR 8 S (by decide), maI 8 s S (by decide) (show s < 12 by omega), gt.1, gs.1, g.2.2 s (by omega), msI 8 s _ S (by decide) (show s < 12 by omega)]
      by_cases q1 : dK D t = 4
      · rw [if_pos q1, if_pos (show (0 ≤ nI t ∧ nI t < nI (dn D)) ∧ (0 ≤ nI s ∧ nI s < nI (dn D)) ∧ dK D t = 4 from ⟨wt, ws, q1⟩)]
        by_cases q2 : dK D s = 4
        · rw [if_pos q2, if_pos q2, if_neg (fun z => z.2.2.2.1 q2)]
          exact ⟨h, rfl, Fr.refl _, g⟩
        · rw [if_neg q2, if_neg q2]
          by_cases q3 : dtm D s = 0
          · rw [if_pos (show dtm D s ≤ 0 by rw [q3]; decide), if_pos q3, if_pos ⟨wt, ws, q1, q2, q3⟩]
            generalize hH : setI h (ar 8) (upd (rI h (ar 8)) s (nI t + 1)) = H
            have S1 : ShM H m ar := by rw [← hH]; exact S
            have r8 : ∀ k, k < 12 → rI H (ar 8) k = dtm (joinT D t s) k := by
              intro k hk
              rw [← hH, rI_setI]
              show upd (rI h (ar 8)) s (nI t + 1) k = upd (dtm D) s (nI (t + 1)) k
              unfold upd
              rw [g.2.2 k hk, nI_1]
            have n1 : fI H 1201 m = nI (dn D) := by rw [← hH]; exact g.1
            have L : ∀ r k z c, k + r = dn D → r < z → c = cnt (fun k => decide (dtm (joinT D t s) k = nI (t + 1))) k → s_X12_join_L67 N z m (nI t) (nI c) (nI k) H = some (nI (mem (joinT D t s) t)) := by
              intro r
              induction r with
              | zero =>
                intro k z c hk hz hc
                obtain ⟨z, rfl⟩ : ∃ y, z = y + 1 := ⟨z - 1, by omega⟩
                rw [s_X12_join_L67.eq_2, mgI 1 S1.1, Option.bind_some, n1, if_pos (nI_le (by omega) (by omega)), hc, show k = dn D by omega]
                rfl
              | succ r ih =>
                intro k z c hk hz hc
                obtain ⟨z, rfl⟩ : ∃ y, z = y + 1 := ⟨z - 1, by omega⟩
                rw [s_X12_join_L67.eq_2, mgI 1 S1.1, Option.bind_some, n1, if_neg (nI_ge (by omega) (by omega)), mgR 8 S1 (by decide), Option.bind_some, maI 8 k S1 (by decide) (show k < 12 by omega), Option.bind_some, r8 k (by omega), nI_1, nI_1]
                by_cases c1 : dtm (joinT D t s) k = nI (t + 1)
                · rw [if_pos c1, Option.bind_some, nI_1]
                  refine ih (k + 1) z (c + 1) (by omega) (by omega) ?_
                  unfold cnt
                  rw [hc, decide_eq_true c1]
                  rfl
                · rw [if_neg c1, Option.bind_some, show nI c + 0 = nI c from Int32.add_zero _]
                  refine ih (k + 1) z c (by omega) (by omega) ?_
                  unfold cnt
                  rw [hc, decide_eq_false c1]
                  rfl
            have e := L (dn D) 0 N 0 (by omega) (by omega) rfl
            rw [nI_0] at e
            rw [e, Option.bind_some, mem_j (by omega) hs q3 t (by omega), if_pos rfl]
            refine ⟨H, rfl, by rw [← hH]; exact Fr.sI _ _ _ ⟨8, rfl, rfl⟩, n1, fun u hu => ?_, r8⟩
            have gu := g.2.1 u hu
            have nr : ∀ k, mKd k ≠ 0 → k ≠ 8 → rI H (ar k) = rI h (ar k) := fun k h1 h2 => by rw [← hH]; exact rI_setI_ne _ _ (fun z => h2 (S.2.2 k 8 h1 (by decide) z))
            rw [nr 2 (by decide) (by decide), nr 3 (by decide) (by decide), nr 4 (by decide) (by decide), nr 5 (by decide) (by decide), nr 6 (by decide) (by decide), nr 7 (by decide) (by decide)]
            exact gu
          · have q4 : ¬ dtm D s ≤ 0 := fun z => by
              rcases w.2.2.2 s (by omega) with h | ⟨u, h1, h2, _⟩
              · exact q3 h
              · rw [h2] at z
                exact nI_ge (a := 0) (b := u + 1) (by omega) (by omega) z
            rw [if_neg q4, if_neg q3, if_neg (fun z => q3 z.2.2.2.2)]
            exact ⟨h, rfl, Fr.refl _, g⟩
      · rw [if_neg q1, if_neg (show ¬ ((0 ≤ nI t ∧ nI t < nI (dn D)) ∧ (0 ≤ nI s ∧ nI s < nI (dn D)) ∧ dK D t = 4) from fun z => q1 z.2.2), if_neg (fun z => q1 z.2.2.1)]
        exact ⟨h, rfl, Fr.refl _, g⟩
    · rw [if_neg qa, if_neg (fun z => qa z.1), if_neg (fun z => qa z.1)]
      exact ⟨h, rfl, Fr.refl _, g⟩
  · rw [if_neg qb, if_neg (fun z => qb z.2.1), if_neg (fun z => qb z.2.1)]
    exact ⟨h, rfl, Fr.refl _, g⟩
theorem joinW {D : Dt} (w : WgS D) (a b : Int32) : WgS (joinD D a b) := by
  have h12 := w.1
  unfold joinD
  by_cases q : (0 ≤ a ∧ a < nI (dn D)) ∧ (0 ≤ b ∧ b < nI (dn D)) ∧ dK D a.toNatClampNeg = 4 ∧ dK D b.toNatClampNeg ≠ 4 ∧ dtm D b.toNatClampNeg = 0
  · rw [if_pos q]
    obtain ⟨q1, q2, q3, q4, q5⟩ := q
    rcases stC h12 a with ⟨t, ht, rfl⟩ | z
    · rcases stC h12 b with ⟨s, hs, rfl⟩ | z
      · rw [nI_clamp (n := t) (by omega)] at q3 ⊢
        rw [nI_clamp (n := s) (by omega)] at q4 q5 ⊢
        refine ⟨w.1, w.2.1, w.2.2.1, fun u hu => ?_⟩
        show upd (dtm D) s (nI (t + 1)) u = 0 ∨ ∃ t', t' < dn D ∧ upd (dtm D) s (nI (t + 1)) u = nI (t' + 1) ∧ u < dn D ∧ dK D t' = 4 ∧ dK D u ≠ 4
        unfold upd
        by_cases e : u = s
        · subst e
          rw [if_pos rfl]
          exact Or.inr ⟨t, ht, rfl, hs, q3, q4⟩
        · rw [if_neg e]
          exact w.2.2.2 u hu
      · exact absurd q2 z
    · exact absurd q1 z
  · rw [if_neg q]
    exact w
