/-! ===== the law's loop ===== -/
section
variable {x m n k N L : Nat} {hx hm : IH} {A ar : Nat → Nat} {D : Dt}
theorem br2 {α : Type} {fx fm : Nat → Option (α × IH)} {v : α} {hx' hm' : IH} {K : IH → IH → Prop} (S : ShX hx A n) (T : ShM hm m ar) (ex : fx (A 0) = some (v, hx')) (em : fm m = some (v, hm')) (q : K hx' hm') : bP (cV hx 11 (some (A 0)) fx) fun v1 => bP (cV hm 12 (some m) fm) fun v3 => v1.1 = v3.1 ∧ K v1.2 v3.2 := bP_ok (v := (v, hx')) (by rw [vX11 S]; exact ex) (bP_ok (v := (v, hm')) (by rw [mV12 T]; exact em) ⟨rfl, q⟩)
theorem brJ {fx fm : Nat → Option (Int64 × IH)} {v : Int64} {hx' hm' : IH} {K : IH → IH → Prop} (S : ShX hx A n) (T : ShM hm m ar) (ex : fx (A 0) = some (v, hx')) (em : fm m = some (v, hm')) (q : K hx' hm') : bP (cV hx 11 (some (A 0)) fx) fun v1 => bP (cV hm 12 (some m) fm) fun v3 => lg_cmp v1.1 v3.1 = 0 ∧ K v1.2 v3.2 := bP_ok (by rw [vX11 S]; exact ex) (bP_ok (by rw [mV12 T]; exact em) ⟨(lc_eq v v).mpr rfl, q⟩)
theorem br1 {α : Type} {fx fm : Nat → Option α} {v : α} {K : Prop} (S : ShX hx A n) (T : ShM hm m ar) (ex : fx (A 0) = some v) (em : fm m = some v) (q : K) : bP (cV hx 11 (some (A 0)) fx) fun v1 => bP (cV hm 12 (some m) fm) fun v3 => v1 = v3 ∧ K := bP_ok (by rw [vX11 S]; exact ex) (bP_ok (by rw [mV12 T]; exact em) ⟨rfl, q⟩)
theorem feed_u (D : Dt) (a b c d e : Int32) : ∃ t f, feedD D a b c d e = uT D t f := by
  unfold feedD
  split
  · exact ⟨_, _, rfl⟩
  · exact ⟨dT D, dB D, rfl⟩
theorem end_u (D : Dt) (a : Int32) : ∃ t f, endD D a = uT D t f := by
  unfold endD
  split
  · exact ⟨_, _, rfl⟩
  · exact ⟨dT D, dB D, rfl⟩
theorem join_u (D : Dt) (a b : Int32) : ∃ f, joinD D a b = uTm D f := by
  unfold joinD
  split
  · exact ⟨_, rfl⟩
  · exact ⟨dtm D, rfl⟩
theorem pen_u (D : Dt) (a : Int32) : ∃ t, penD D a = uPen D t := by
  unfold penD
  split
  · exact ⟨_, rfl⟩
  · exact ⟨dpen D, rfl⟩
theorem pub_u (D : Dt) : ∃ t u v, pubD D = uE D t u v := by
  unfold pubD
  split
  · exact ⟨_, _, _, rfl⟩
  · exact ⟨dE D, dem D, det D, rfl⟩
theorem lawP (hN : 1000000 ≤ N) (hL : L ≤ 3072) (xs : Nat → Int32) : ∀ (n k : Nat) (hx hm : IH), k ≤ 513 → 513 - k < n → Rel x m k hx hm → s_law N L xs x m n (nI (6 * k)) hx hm := by
  intro n
  induction n with
  | zero => intro k hx hm _ h; omega
  | succ n ih =>
    intro k hx hm hk hn R
    rw [s_law.eq_2]
    by_cases c1 : nI L - 6 < nI (6 * k)
    · rw [if_pos c1]
      trivial
    · rw [if_neg c1]
      have hkL : 6 * k + 6 ≤ L := by
        have e1 : (nI L - 6).toInt = (L : Int) - 6 := pk_sub_toInt (a := L) (b := 6) (by omega) (by omega)
        have e2 : (nI (6 * k)).toInt = ((6 * k : Nat) : Int) := nI_toInt (by omega)
        have c2 := Int.not_lt.mp (fun z => c1 (Int32.lt_iff_toInt_lt.mpr z))
        rw [e1, e2] at c2
        omega
      have K : ∀ hx' hm', Rel x m (k + 1) hx' hm' → s_law N L xs x m n (nI (6 * k) + 6) hx' hm' := fun hx' hm' r => by
        have e : nI (6 * k) + 6 = nI (6 * (k + 1)) := nI_add (6 * k) 6
        rw [e]
        exact ih (k + 1) hx' hm' (by omega) (by omega) r
      have R0 := R
      obtain ⟨A, ar, D, e0, S, T, g, gm, wd, hd, cx, cm⟩ := R
      subst e0
      have g0 := g
      have gm0 := gm
      have wd0 := wd
      obtain ⟨gT, gS, gL', gW, gR', gP, gE, gA⟩ := g
      obtain ⟨mT, mS, mL, mW, mR, mP, mE, mA⟩ := gm
      obtain ⟨wT, wS, wL, wW, wR, wP, wE⟩ := wd
      have h2 : 2000 ≤ N := by omega
      have hd6 : dop D < 1000000 := by omega
      generalize (xs (nI (6 * k)).toNatClampNeg &&& 31) = sel
      generalize (nI (6 * k) + 6) = i6 at K ⊢
      generalize xs (nI (6 * k) + 1).toNatClampNeg = x1
      generalize xs (nI (6 * k) + 2).toNatClampNeg = x2
      generalize xs (nI (6 * k) + 3).toNatClampNeg = x3
      generalize xs (nI (6 * k) + 4).toNatClampNeg = x4
      generalize xs (nI (6 * k) + 5).toNatClampNeg = x5
      by_cases q0 : sel = 0
      · rw [if_pos q0]
        obtain ⟨h', e', f', y'⟩ := feedX (N := N) S h2 gT wT x1 x2 x3 x4 x5
        obtain ⟨h'', e'', f'', y''⟩ := feedMM (N := N) T h2 mT wT x1 x2 x3 x4 x5
        have w' := feedW wT x1 x2 x3 x4 x5
        obtain ⟨t, f, eu⟩ := feed_u D x1 x2 x3 x4 x5
        rw [eu] at y' y'' w'
        exact br2 (K := fun a b => s_law N L xs (A 0) m n i6 a b) S T e' e'' (K _ _ (relT rfl S T g0 gm0 wd0 hd cx cm f' f'' y' y'' w'))
      rw [if_neg q0]
      by_cases q1 : sel = 1
      · rw [if_pos q1]
        obtain ⟨h', e', f', y'⟩ := endX S gT x1
        obtain ⟨h'', e'', f'', y''⟩ := endM T mT x1
        have w' := endW wT x1
        obtain ⟨t, f, eu⟩ := end_u D x1
        rw [eu] at y' y'' w'
        exact br2 (K := fun a b => s_law N L xs (A 0) m n i6 a b) S T e' e'' (K _ _ (relT rfl S T g0 gm0 wd0 hd cx cm (FX.mo f' (fun _ z => z) (fun _ z => z) (fun _ z => z.elim) (fun _ z => z)) (FM.mo f'' (fun _ z => z) (fun _ z => z) (fun _ z => z.elim) (fun _ z => z)) y' y'' w'))
      rw [if_neg q1]
      by_cases q2 : sel = 2
      · rw [if_pos q2]
        refine ⟨(k0 S), ?_⟩
        obtain ⟨h'', e'', f'', y''⟩ := stationM (N := N) T h2 mT mS wT wS x1 x2 x3 x4
        refine stationX (N := N) S h2 rfl g0 wT wS wL wE x1 x2 x3 x4 (fun h' f' ng g' => ?_) (fun A' h' hg eA S' z' g' => ?_)
        · rcases y'' with y'' | ⟨_, fF, yT, yS⟩
          · exact absurd y''.1 ng
          · have f1 : FX A (e1 1001) no1 (e1 2) no1 hx h' := FX.mo f' (fun _ z => z) (fun _ z => z) (fun _ z => z.elim) (fun _ z => z)
            have f2 : FM m ar (e1 1229) no1 (e1 28) no1 hm h'' := FM.mo fF (fun _ z => z) (fun _ z => z) (fun _ z => z.elim) (fun _ z => z)
            exact bP_ok (by rw [mV12 T]; exact e'') ⟨rfl, K _ _ (relT (t := 0) (b := dB D) rfl S T g0 gm0 wd0 hd cx cm f1 f2 g'.1 yT ⟨Nat.zero_le _, wT.2⟩)⟩
        · rcases y'' with ⟨_, zm, yT, yS⟩ | y''
          · refine bP_ok (by rw [mV12 T]; exact e'') ⟨rfl, K _ _ (relStn T gm0 wd0 hd hg eA S' z' g' f'' zm yT yS)⟩
          · exact absurd hg y''.1
      rw [if_neg q2]
      by_cases q3 : sel = 3
      · rw [if_pos q3]
        obtain ⟨h', e', f', y'⟩ := joinX S gS wS rfl x1 x2
        obtain ⟨h'', e'', f'', y''⟩ := joinM (N := N) T h2 mS wS x1 x2
        have w' := joinW wS x1 x2
        obtain ⟨f, eu⟩ := join_u D x1 x2
        rw [eu] at y' y'' w'
        exact br2 (K := fun a b => s_law N L xs (A 0) m n i6 a b) S T e' e'' (K _ _ (relJ rfl S T g0 gm0 wd0 hd cx cm f' f'' y' y'' w'))
      rw [if_neg q3]
      by_cases q4 : sel = 4
      · rw [if_pos q4]
        obtain ⟨A', h', H2, e', S', nm, f', sv, y'⟩ := logX (N := N) S h2 rfl gT gS gL' wT wS wL x1 x2
        obtain ⟨h'', e'', f'', y''⟩ := logM (N := N) T h2 mT mS mL wT wS wL x1 x2
        refine br2 (K := fun a b => s_law N L xs (A 0) m n i6 a b) S T e' e'' (K _ _ ?_)
        rcases y' with ⟨hc, zx, yT, yL, yW⟩ | ⟨nc, eA, z4, yT, yL, yW⟩
        · rcases y'' with ⟨_, zm, vT, vL, vW⟩ | y''
          · exact relLogS rfl S T g0 gm0 wd0 hd hc S' nm f' sv zx yT yL yW f'' zm vT vL vW
          · exact absurd hc y''.1
        · rcases y'' with y'' | ⟨_, zm, vT, vL, vW, fF⟩
          · exact absurd y''.1 nc
          · subst eA
            exact relLogF rfl S' S T g0 gm0 wd0 hd cx cm f' sv z4 yT yL yW fF vT vL vW
      rw [if_neg q4]
      by_cases q5 : sel = 5
      · rw [if_pos q5]
        exact br1 S T (wrongX S gW wW x1) (wrongM T mW wW x1) (K _ _ (relSame R0))
      rw [if_neg q5]
      by_cases q6 : sel = 6
      · rw [if_pos q6]
        obtain ⟨A', h', H2, e', S', nm, f', sv, g'⟩ := ruleX (N := N) S h2 g0 wT wE wS.1
        obtain ⟨h'', e'', f'', yT, yR⟩ := ruleM (N := N) T h2 mT mR wT
        exact br2 (K := fun a b => s_law N L xs (A 0) m n i6 a b) S T e' e'' (K _ _ (relRule rfl S T gm0 wd0 hd cx cm S' nm f' sv g' f'' yT yR))
      rw [if_neg q6]
      by_cases q7 : sel = 7
      · rw [if_pos q7]
        obtain ⟨h', e', f', y', z1, z2⟩ := windowX S gP x1
        obtain ⟨h'', e'', f'', y'', u1, u2⟩ := windowM T mP x1
        refine br2 (K := fun a b => s_law N L xs (A 0) m n i6 a b) S T e' e'' (K _ _ ?_)
        have w' := winW wP x1
        by_cases c : 0 ≤ x1 ∧ x1 < 3601
        · have eu : winD D x1 = uWin D x1 := if_pos c
          rw [eu] at y' y'' w'
          exact relWin rfl S T g0 gm0 wd0 hd f' f'' y' y'' w' (z1 c) (u1 c)
        · rw [z2 c, u2 c]
          exact relSame R0
      rw [if_neg q7]
      by_cases q8 : sel = 8
      · rw [if_pos q8]
        obtain ⟨h', e', f', y'⟩ := penaltyX S gP x1
        obtain ⟨h'', e'', f'', y''⟩ := penaltyM T mP x1
        have w' := penW wP x1
        obtain ⟨t, eu⟩ := pen_u D x1
        rw [eu] at y' y'' w'
        exact br2 (K := fun a b => s_law N L xs (A 0) m n i6 a b) S T e' e'' (K _ _ (relPen rfl S T g0 gm0 wd0 hd cx cm f' f'' y' y'' w'))
      rw [if_neg q8]
      by_cases q9 : sel = 9
      · rw [if_pos q9]
        obtain ⟨h', e', o'⟩ := linesX_ S rfl gS gL' gA wL hd6 cx x1 x2
        obtain ⟨h'', e'', o''⟩ := linesM (N := N) T hN mS mL mP mA wS wL wP cm x1 x2
        exact br2 (K := fun a b => s_law N L xs (A 0) m n i6 a b) S T e' e'' (K _ _ (relAsk rfl S T g0 gm0 wd0 hd o' o''))
      rw [if_neg q9]
      by_cases q10 : sel = 10
      · rw [if_pos q10]
        obtain ⟨h', e', o'⟩ := entryX S rfl gS gL' gA wL hd6 cx x1 x2 x3
        obtain ⟨h'', e'', o''⟩ := entryM (N := N) T hN mS mL mP mA wS wL wP cm x1 x2 x3
        exact br2 (K := fun a b => s_law N L xs (A 0) m n i6 a b) S T e' e'' (K _ _ (relAsk rfl S T g0 gm0 wd0 hd o' o''))
      rw [if_neg q10]
      by_cases q11 : sel = 11
      · rw [if_pos q11]
        obtain ⟨h', e', o'⟩ := momentX S rfl gS gL' gA wL hd6 cx x1 x2 x3 x4
        obtain ⟨h'', e'', o''⟩ := momentM (N := N) T hN mS mL mP mA wS wL wP cm x1 x2 x3 x4
        exact brJ (K := fun a b => s_law N L xs (A 0) m n i6 a b) S T e' e'' (K _ _ (relAsk rfl S T g0 gm0 wd0 hd o' o''))
      rw [if_neg q11]
      by_cases q12 : sel = 12
      · rw [if_pos q12]
        obtain ⟨h', e', o'⟩ := characterX (N := N) S h2 rfl gS gL' gA wL hd6 cx x1 x2 x3 x4
        obtain ⟨h'', e'', o''⟩ := characterM (N := N) T hN mS mL mP mA wS wL wP cm x1 x2 x3 x4
        exact br2 (K := fun a b => s_law N L xs (A 0) m n i6 a b) S T e' e'' (K _ _ (relAsk rfl S T g0 gm0 wd0 hd o' o''))
      rw [if_neg q12]
      by_cases q13 : sel = 13
      · rw [if_pos q13]
        obtain ⟨h', e', o'⟩ := numberX S rfl gS gL' gA wL hd6 cx x1 x2 x3 x4
        obtain ⟨h'', e'', o''⟩ := numberM (N := N) T hN mS mL mP mA wS wL wP cm x1 x2 x3 x4
        exact br2 (K := fun a b => s_law N L xs (A 0) m n i6 a b) S T e' e'' (K _ _ (relAsk rfl S T g0 gm0 wd0 hd o' o''))
      rw [if_neg q13]
      by_cases q14 : sel = 14
      · rw [if_pos q14]
        obtain ⟨h', e', o'⟩ := offsetXX (N := N) S h2 rfl gS gL' gP gA wS wL wP hd6 cx x1
        obtain ⟨h'', e'', o''⟩ := offsetMM (N := N) T hN mS mL mP mA wS wL wP cm x1
        exact brJ (K := fun a b => s_law N L xs (A 0) m n i6 a b) S T e' e'' (K _ _ (relAsk rfl S T g0 gm0 wd0 hd o' o''))
      rw [if_neg q14]
      by_cases q15 : sel = 15
      · rw [if_pos q15]
        obtain ⟨h', e', o'⟩ := pairXX (N := N) S h2 rfl gS gL' gP gA wS wL wP hd6 cx x1 x2 x3
        obtain ⟨h'', e'', o''⟩ := pairMM (N := N) T hN mS mL mP mA wS wL wP cm x1 x2 x3
        exact br2 (K := fun a b => s_law N L xs (A 0) m n i6 a b) S T e' e'' (K _ _ (relAsk rfl S T g0 gm0 wd0 hd o' o''))
      rw [if_neg q15]
      by_cases q16 : sel = 16
      · rw [if_pos q16]
        obtain ⟨h', e', o'⟩ := (whyXX (N := N) S h2 rfl gS gL' gP gA wS wL wP hd6 cx x1 x2 x3).1
        obtain ⟨h'', e'', o''⟩ := whyMM (N := N) T hN mS mL mP mA wS wL wP cm x1 x2 x3
        exact br2 (K := fun a b => s_law N L xs (A 0) m n i6 a b) S T e' e'' (K _ _ (relAsk rfl S T g0 gm0 wd0 hd o' o''))
      rw [if_neg q16]
      by_cases q17 : sel = 17
      · rw [if_pos q17]
        obtain ⟨h', e', o'⟩ := (whyXX (N := N) S h2 rfl gS gL' gP gA wS wL wP hd6 cx x1 x2 x3).2
        obtain ⟨h'', e'', o''⟩ := meantMM (N := N) T hN mS mL mP mA wS wL wP cm x1 x2 x3
        exact br2 (K := fun a b => s_law N L xs (A 0) m n i6 a b) S T e' e'' (K _ _ (relAsk rfl S T g0 gm0 wd0 hd o' o''))
      rw [if_neg q17]
      by_cases q18 : sel = 18
      · rw [if_pos q18]
        obtain ⟨h', e', o'⟩ := pointsXX (N := N) S h2 rfl gS gL' gR' gA wS wL wR hd6 cx x1 x2 x3
        obtain ⟨h'', e'', o''⟩ := pointsMM (N := N) T hN mS mL mR mP mA wS wL wR wP cm x1 x2 x3
        exact br2 (K := fun a b => s_law N L xs (A 0) m n i6 a b) S T e' e'' (K _ _ (relAsk rfl S T g0 gm0 wd0 hd o' o''))
      rw [if_neg q18]
      by_cases q19 : sel = 19
      · rw [if_pos q19]
        obtain ⟨h', e', o'⟩ := totalXX (N := N) S h2 rfl gS gL' gR' gP gA wS wL wR wP hd6 cx x1
        obtain ⟨h'', e'', o''⟩ := totalMM (N := N) T hN mS mL mR mP mA wS wL wR wP cm x1
        exact br2 (K := fun a b => s_law N L xs (A 0) m n i6 a b) S T e' e'' (K _ _ (relAsk rfl S T g0 gm0 wd0 hd o' o''))
      rw [if_neg q19]
      by_cases q20 : sel = 20
      · rw [if_pos q20]
        obtain ⟨h', e', o'⟩ := rateX (N := N) S h2 rfl gS gL' gP gA wS wL wP hd6 cx x1
        obtain ⟨h'', e'', o''⟩ := rateM (N := N) T hN mS mL mP mA wS wL wP cm x1
        exact brJ (K := fun a b => s_law N L xs (A 0) m n i6 a b) S T e' e'' (K _ _ (relAsk rfl S T g0 gm0 wd0 hd o' o''))
      rw [if_neg q20]
      by_cases q21 : sel = 21
      · rw [if_pos q21]
        obtain ⟨h', e', o'⟩ := placeX (N := N) S h2 rfl gS gL' gR' gP gA wS wL wR wP hd6 cx x1
        obtain ⟨h'', e'', o''⟩ := placeM (N := N) T hN mS mL mR mP mA wS wL wR wP cm x1
        exact br2 (K := fun a b => s_law N L xs (A 0) m n i6 a b) S T e' e'' (K _ _ (relAsk rfl S T g0 gm0 wd0 hd o' o''))
      rw [if_neg q21]
      by_cases q22 : sel = 22
      · rw [if_pos q22]
        obtain ⟨h', e', f', y', c'⟩ := publishX (N := N) S h2 rfl gS gL' gR' gP gE wS wL wR wP wE cx
        obtain ⟨h'', e'', f'', y'', c''⟩ := publishM (N := N) T hN mS mL mR mP mE wS wL wR wP wE cm
        have w' := pubW wE
        obtain ⟨t, u, v, eu⟩ := pub_u D
        rw [eu] at y' y'' w'
        exact br2 (K := fun a b => s_law N L xs (A 0) m n i6 a b) S T e' e'' (K _ _ (relPub rfl S T g0 gm0 wd0 hd f' f'' y' y'' w' c' c''))
      rw [if_neg q22]
      by_cases q23 : sel = 23
      · rw [if_pos q23]
        obtain ⟨h', e', o'⟩ := knownX S rfl gS gE gA wE hd6 cx x1 x2
        obtain ⟨h'', e'', o''⟩ := knownM (N := N) T hN mS mL mP mE mA wS wL wP wE cm x1 x2
        exact br2 (K := fun a b => s_law N L xs (A 0) m n i6 a b) S T e' e'' (K _ _ (relAsk rfl S T g0 gm0 wd0 hd o' o''))
      rw [if_neg q23]
      by_cases q24 : sel = 24
      · rw [if_pos q24]
        exact br1 S T (findingX S gA) (findingM T mA) (K _ _ (relSame R0))
      rw [if_neg q24]
      by_cases q25 : sel = 25
      · rw [if_pos q25]
        exact br1 S T (countX S gS gT gW gA gE x1) (countM T mS mT mW mA mE x1) (K _ _ (relSame R0))
      rw [if_neg q25]
      exact K _ _ (relSame R0)
end
