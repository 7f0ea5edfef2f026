/-! ===== editions ===== -/
noncomputable def pubE (D : Dt) : Dt := uE D (dE D + 1) (fun i => if i = dE D then dn D else dem D i) (fun i s => if i = dE D then (toX D s).getD 0 else det D i s)
noncomputable def pubD (D : Dt) : Dt := if dE D < 20 then pubE D else D
def pubV (D : Dt) : Int32 := if dE D < 20 then nI (dE D + 1) else -1
def pbF (f : Nat) : Prop := rfF f ∨ f = 306 ∨ f = 1108
def pbR (E i : Nat) : Prop := rfR i ∨ i = 26 ∨ (i = 70 + E ∧ E < 20)
theorem lv70 {n E : Nat} (hE : E < 20) : lvX n (70 + E) := lv_lit (by omega) (by have := (eRow E hE).1; omega)
theorem pbR_lv {n E : Nat} : lvR n (pbR E) := fun i h => by
  rcases h with h | h | h
  · exact rfR_lv i h
  · subst h; exact lv_lit (by decide) (by decide)
  · rw [h.1]; exact lv70 h.2
section
variable {A : Nat → Nat} {n N : Nat} {D : Dt}
theorem publishX {h : IH} (S : ShX h A n) (hN : 2000 ≤ N) (hn : n = dn D) (gs : XgS h A D) (qL : XgL h A D) (qR : XgR h A D) (gP : XgP h A D) (gE : XgE h A D) (wS : WgS D) (w : WgL D) (wR : WgR D) (wP : WgP D) (wE : WgE D) (ch : ChX h A D) : ∃ h', s_X11_publish N h (A 0) = some (pubV D, h') ∧ FX A pbF (e1 908) (pbR (dE D)) xkQ h h' ∧ XgE h' A (pubD D) ∧ ChX h' A D := by
  have w20 := wE.1
  unfold s_X11_publish pubV pubD
  rw [gX11_8 S, Option.bind_some, gE.1]
  by_cases c : dE D < 20
  · obtain ⟨h1, ee1, f1, ck, wy⟩ := refreshX (N := N) S hN hn gs qL gP wS w wP ch
    subst hn
    have wn := S.1
    have S1 := f1.shX S
    have eR := eRow (dE D) c
    have g1 : XgE h1 A D := gE.fr S f1 rfR_lv w20 (by unfold rfF; omega) (by unfold rfR puR; omega) (fun i hi => by unfold rfR puR; omega)
    have gs1 := rfGS f1 gs
    have qL1 := rfGL f1 qL
    have qR1 := rfGR S f1 qR
    have gP1 := rfGP f1 gP
    have hF : ∀ i, (e1 (70 + dE D)) i → lvX (dn D) i := fun i z => by cases z; exact lv70 c
    have L : ∀ (r s z : Nat) (H : IH), s + r = dn D → r < z → FX A (e1 306) no1 (e1 (70 + dE D)) (e1 12) h1 H → (∀ u, u < s → rI H (A (70 + dE D)) u = (toX D u).getD 0) → ∃ h', s_X11_publish_L20 N z (A 0) (nI s) H = some h' ∧ FX A (e1 306) no1 (e1 (70 + dE D)) (e1 12) h1 h' ∧ ∀ u, u < dn D → rI h' (A (70 + dE D)) u = (toX D u).getD 0 := by
      intro r
      induction r with
      | zero =>
        intro s z H hs hz fr q
        obtain ⟨z, rfl⟩ : ∃ y, z = y + 1 := ⟨z - 1, by omega⟩
        have SH := fr.shX S1
        have gsH : XgS H A D := gs1.fr fr (fun f z => by cases z; omega) (fun z => z)
        rw [s_X11_publish_L20.eq_2, gX11_1 SH, Option.bind_some, gX7_1 SH, Option.bind_some, gsH.1, if_pos (nI_le (by omega) (by omega))]
        exact ⟨H, rfl, fr, fun u hu => q u (by omega)⟩
      | succ r ih =>
        intro s z H hs hz fr q
        obtain ⟨z, rfl⟩ : ∃ y, z = y + 1 := ⟨z - 1, by omega⟩
        have SH := fr.shX S1
        have gsH : XgS H A D := gs1.fr fr (fun f z => by cases z; omega) (fun z => z)
        have gLH : XgL H A D := qL1.fr fr (fun f z => by cases z; omega) (fun f z => z.elim)
        have gRH : XgR H A D := qR1.fr S1 fr hF (fun z => by cases z) (fun z => by have z : 9 = 70 + dE D := z; omega)
        have gPH : XgP H A D := gP1.fr fr (fun z => by cases z) (fun z => by cases z)
        have ckH : CkX H A D := ck.fr fr (fun z => by cases z) (fun z => by cases z) (fun z => by cases z) (fun z => z)
        have wyH : WyX H A D := wy.fr fr (fun z => by cases z) (fun z => by cases z)
        have e8 : fI H 1108 (A 0) = nI (dE D) := by rw [fr.fI (fun z => by cases z)]; exact g1.1
        have hs' : s < dn D := by omega
        obtain ⟨H2, e2, f2⟩ := totalX (N := N) SH hN rfl gsH gLH gRH gPH wS w wR ckH wyH hs'
        have S2 := f2.shX SH
        rw [s_X11_publish_L20.eq_2, gX11_1 SH, Option.bind_some, gX7_1 SH, Option.bind_some, gsH.1, if_neg (nI_ge (by omega) (by omega)), gX11_6 SH, Option.bind_some, gX11_8 SH, Option.bind_some, e8, rX25 SH c, Option.bind_some, gX11_5 SH, Option.bind_some, vX8 SH, e2, Option.bind_some]
        show ∃ h', ((s_X11_orZero H2 (vJ (toX D s))).bind fun v13 => (sI H2 (some (A (70 + dE D))) (nI s) v13).bind fun h14 => s_X11_publish_L20 N z (A 0) (nI s + 1) h14) = some h' ∧ _
        rw [orZX, Option.bind_some, sXI S2 (70 + dE D) _ (by omega) eR.1 (by omega) (show s < LX (70 + dE D) by omega), Option.bind_some, nI_1]
        have f3 : FX A (e1 306) no1 (e1 (70 + dE D)) (e1 12) H (setI H2 (A (70 + dE D)) (upd (rI H2 (A (70 + dE D))) s ((toX D s).getD 0))) := (FX.mo f2 (fun _ z => z) (fun _ z => z) (fun _ z => z.elim) (fun _ z => z)).trans (Fr.sI _ _ _ ⟨70 + dE D, rfl, rfl⟩)
        refine ih (s + 1) z _ (by omega) (by omega) (fr.trans f3) (fun u hu => ?_)
        rw [rI_setI]
        by_cases d : u = s
        · rw [d, upd_s]
        · rw [upd_n _ _ d, f2.rI (fun z => by obtain ⟨_, y, _⟩ := z; exact y)]
          exact q u (by omega)
    obtain ⟨H, e2, f2, q2⟩ := L (dn D) 0 N h1 (by omega) (by omega) (Fr.refl _) (fun u hu => absurd hu (by omega))
    rw [nI_0] at e2
    have SH := f2.shX S1
    have e8 : fI H 1108 (A 0) = nI (dE D) := by rw [f2.fI (fun z => by cases z)]; exact g1.1
    have gsH : XgS H A D := gs1.fr f2 (fun f z => by cases z; omega) (fun z => z)
    have S3 : ShX (setI H (A 26) (upd (rI H (A 26)) (dE D) (nI (dn D)))) A (dn D) := SH
    have e8' : fI (setI H (A 26) (upd (rI H (A 26)) (dE D) (nI (dn D)))) 1108 (A 0) = nI (dE D) := e8
    have S4 : ShX (wfI (setI H (A 26) (upd (rI H (A 26)) (dE D) (nI (dn D)))) 1108 (A 0) (nI (dE D + 1))) A (dn D) := SH
    have e8'' : fI (wfI (setI H (A 26) (upd (rI H (A 26)) (dE D) (nI (dn D)))) 1108 (A 0) (nI (dE D + 1))) 1108 (A 0) = nI (dE D + 1) := fI_wfI _ _ _ _
    rw [if_pos (show nI (dE D) < (20 : Int32) from nI_lt (b := 20) c (by omega)), gX11_4 S, Option.bind_some, vX0 S, ee1, Option.bind_some, e2, Option.bind_some, gX11_7 SH, Option.bind_some, gX11_8 SH, Option.bind_some, e8, gX11_1 SH, Option.bind_some, gX7_1 SH, Option.bind_some, gsH.1, sXI SH 26 _ (by decide) (by decide) (by decide) (show dE D < LX 26 from c), Option.bind_some, gX11_8 S3, Option.bind_some, e8', nI_1, pX11_8 S3, Option.bind_some, gX11_8 S4, Option.bind_some, e8'', if_pos c, if_pos c]
    have f3 : FX A (fun f => f = 1108) no1 (fun i => i = 26) no1 H (wfI (setI H (A 26) (upd (rI H (A 26)) (dE D) (nI (dn D)))) 1108 (A 0) (nI (dE D + 1))) := (Fr.sI _ _ _ ⟨26, rfl, rfl⟩).trans (Fr.wI _ _ _ _ rfl)
    have fAll : FX A pbF (e1 908) (pbR (dE D)) xkQ h (wfI (setI H (A 26) (upd (rI H (A 26)) (dE D) (nI (dn D)))) 1108 (A 0) (nI (dE D + 1))) := ((FX.mo f1 (fun _ z => Or.inl z) (fun _ z => z) (fun _ z => Or.inl z) (fun _ z => Or.inl z)).trans (FX.mo f2 (fun _ z => Or.inr (Or.inl z)) (fun _ z => z.elim) (fun _ z => Or.inr (Or.inr ⟨z, c⟩)) (fun _ z => Or.inr z))).trans (FX.mo f3 (fun _ z => Or.inr (Or.inr z)) (fun _ z => z.elim) (fun _ z => Or.inr (Or.inl z)) (fun _ z => z.elim))
    refine ⟨_, rfl, fAll, ⟨?_, fun i hi => ?_⟩, fun _ => ⟨?_, ?_⟩⟩
    · exact fI_wfI _ _ _ _
    · have hi : i < dE D + 1 := hi
      have ne26 : ∀ j, j < 20 → A (70 + j) ≠ A 26 := fun j hj => nA S (lv70 hj) (lv_lit (by decide) (by decide)) (by omega)
      have r26 : ∀ j, rI (wfI (setI H (A 26) (upd (rI H (A 26)) (dE D) (nI (dn D)))) 1108 (A 0) (nI (dE D + 1))) (A 26) j = upd (rI H (A 26)) (dE D) (nI (dn D)) j := fun j => by rw [rI_wfI, rI_setI]
      have r70 : ∀ j, j < 20 → rI (wfI (setI H (A 26) (upd (rI H (A 26)) (dE D) (nI (dn D)))) 1108 (A 0) (nI (dE D + 1))) (A (70 + j)) = rI H (A (70 + j)) := fun j hj => by rw [rI_wfI, rI_setI_ne _ _ (ne26 j hj)]
      have h26 : rI H (A 26) = rI h1 (A 26) := f2.rI (RA_no S1 hF (lv_lit (by decide) (by decide)) (fun z => by have z : 26 = 70 + dE D := z; omega))
      by_cases d : i = dE D
      · subst d
        refine ⟨?_, fun s hs => ?_⟩
        · rw [r26, upd_s]
          show nI (dn D) = nI (if dE D = dE D then dn D else dem D (dE D))
          rw [if_pos rfl]
        · have hs : s < (if dE D = dE D then dn D else dem D (dE D)) := hs
          rw [if_pos rfl] at hs
          rw [r70 _ c, q2 s hs]
          show (toX D s).getD 0 = (if dE D = dE D then (toX D s).getD 0 else det D (dE D) s)
          rw [if_pos rfl]
      · have hi' : i < dE D := by omega
        have g := g1.2 i hi'
        refine ⟨?_, fun s hs => ?_⟩
        · rw [r26, upd_n _ _ d, h26, g.1]
          show nI (dem D i) = nI (if i = dE D then dn D else dem D i)
          rw [if_neg d]
        · have hs : s < (if i = dE D then dn D else dem D i) := hs
          rw [if_neg d] at hs
          have h70 : rI H (A (70 + i)) = rI h1 (A (70 + i)) := f2.rI (RA_no S1 hF (lv70 (by omega)) (fun z => by have z : 70 + i = 70 + dE D := z; omega))
          rw [r70 _ (by omega), h70, g.2 s hs]
          show det D i s = (if i = dE D then (toX D s).getD 0 else det D i s)
          rw [if_neg d]
    · exact (ck.fr f2 (fun z => by cases z) (fun z => by cases z) (fun z => by cases z) (fun z => z)).fr f3 (by omega) (by omega) (by omega) (fun z => z)
    · exact (wy.fr f2 (fun z => by cases z) (fun z => by cases z)).fr f3 (by omega) (by omega)
  · rw [if_neg (show ¬ nI (dE D) < (20 : Int32) from fun z => by
      have := iLt.mp z
      rw [nI_toInt (by omega), show (20 : Int32).toInt = 20 from rfl] at this
      omega), if_neg c, if_neg c]
    exact ⟨h, rfl, Fr.refl _, gE, ch⟩
theorem edC (hE : dE D ≤ 20) (a : Int32) : (∃ k, k < dE D ∧ a = nI (k + 1)) ∨ ¬ (1 ≤ a ∧ a ≤ nI (dE D)) := by
  by_cases c : 1 ≤ a ∧ a ≤ nI (dE D)
  · have c1 := iLe.mp c.1
    have c2 := iLe.mp c.2
    rw [nI_toInt (by omega)] at c2
    rw [show (1 : Int32).toInt = 1 from rfl] at c1
    have p0 : 0 ≤ a := iLe.mpr (by rw [show (0 : Int32).toInt = 0 from rfl]; omega)
    have e := clampI p0
    have e2 : a.toNatClampNeg = a.toInt.toNat := rfl
    refine Or.inl ⟨a.toNatClampNeg - 1, by omega, ?_⟩
    rw [show a.toNatClampNeg - 1 + 1 = a.toNatClampNeg by omega]
    exact e
  · exact Or.inr c
theorem edIn (hE : dE D ≤ 20) {k : Nat} (hk : k < dE D) : (1 : Int32) ≤ nI (k + 1) ∧ nI (k + 1) ≤ nI (dE D) := ⟨nI_le (a := 1) (by omega) (by omega), nI_le (by omega) (by omega)⟩
def knO (D : Dt) (a b : Int32) : Option Int32 := if 1 ≤ a ∧ a ≤ nI (dE D) then (if b.toNatClampNeg < dem D (a.toNatClampNeg - 1) then some (det D (a.toNatClampNeg - 1) b.toNatClampNeg) else none) else none
def knF (D : Dt) (a b : Int32) : Int32 := if 0 ≤ b ∧ b < nI (dn D) then (if knO D a b = none then 2 else 0) else 4
def knV (D : Dt) (a b : Int32) : Int32 := if 0 ≤ b ∧ b < nI (dn D) then (knO D a b).getD 0 else 0
theorem knownX {h : IH} (S : ShX h A n) (hn : n = dn D) (gs : XgS h A D) (gE : XgE h A D) (gA : XgA h A D) (wE : WgE D) (hd : dop D < 1000000) (ch : ChX h A D) (a b : Int32) : ∃ h', s_X11_known h (A 0) a b = some (knV D a b, h') ∧ OkX h h' A D b (knF D a b) := by
  obtain ⟨H, e, fr, k⟩ := askedStX S hn gs gA b
  subst hn
  have wn := S.1
  have w20 := wE.1
  have SH := fr.shX S
  have gEH : XgE H A D := gE.fr S fr (fun _ z => z.elim) w20 (by unfold akF; omega) (fun z => z) (fun _ _ z => z)
  unfold s_X11_known knV knF
  rw [vX11 S, e, Option.bind_some]
  show ∃ h', (if stA A D b = none then (cV H 11 (some (A 0)) fun a4 => s_X11_answered H a4 0).bind fun v3 => some (v3.1.toInt32, v3.2) else if a < 1 then (cV H 11 (some (A 0)) fun a7 => s_X11_refused H a7 2).bind fun v6 => some (v6.1.toInt32, v6.2) else (gI H 11 8 (some (A 0))).bind fun v8 => if v8 < a then (cV H 11 (some (A 0)) fun a11 => s_X11_refused H a11 2).bind fun v10 => some (v10.1.toInt32, v10.2) else (gR H 11 7 (some (A 0))).bind fun v12 => (aI H v12 (a - 1)).bind fun v13 => if b < v13 then (gR H 11 6 (some (A 0))).bind fun v15 => (aR H 6 v15 (a - 1)).bind fun v16 => (aI H v16 b).bind fun v17 => (cV H 11 (some (A 0)) fun a19 => s_X11_answered H a19 v17.toInt64).bind fun v18 => some (v18.1.toInt32, v18.2) else (cV H 11 (some (A 0)) fun a21 => s_X11_refused H a21 2).bind fun v20 => some (v20.1.toInt32, v20.2)) = _ ∧ _
  rcases stC wn b with ⟨s, hs, rfl⟩ | q
  · have es : stA A D (nI s) = some (A (100 + s)) := by unfold stA; rw [if_pos (stIn wn hs), nI_clamp (by omega)]
    have k0 : Asked H A D (nI s) 0 := by unfold rsS at k; rw [if_pos (stIn wn hs)] at k; exact k
    obtain ⟨hr, er, fr', xr⟩ := refuX SH k0 hd (g := 2) (by decide)
    have okr : OkX h hr A D (nI s) 2 := ⟨FrK.toK (fr.trans fr'), xr, ch.k (fr.trans fr')⟩
    rw [es, if_neg (show ¬ some (A (100 + s)) = none from fun z => by cases z), if_pos (stIn wn hs), if_pos (stIn wn hs)]
    unfold knO
    rcases edC w20 a with ⟨j, hj, rfl⟩ | qa
    · have wd := wE.2 j hj
      have em : nI (j + 1) - 1 = nI j := by rw [Int32.sub_eq_iff_eq_add, nI_1]
      have g := gEH.2 j hj
      have c1 : ¬ nI (j + 1) < 1 := fun z => by
        have := iLt.mp z
        rw [nI_toInt (by omega), show (1 : Int32).toInt = 1 from rfl] at this
        omega
      have c2 : ¬ nI (dE D) < nI (j + 1) := fun z => by
        have := iLt.mp z
        rw [nI_toInt (by omega), nI_toInt (by omega)] at this
        omega
      rw [if_neg c1, gX11_8 SH, Option.bind_some, gEH.1, if_neg c2, gX11_7 SH, Option.bind_some, em, aXI SH 26 (by decide) (by decide) (by decide) (show j < LX 26 from (show j < 20 by omega)), Option.bind_some, g.1, if_pos (edIn w20 hj), nI_clamp (by omega), nI_clamp (by omega), show j + 1 - 1 = j by omega]
      by_cases d : s < dem D j
      · have eR := eRow j (by omega)
        obtain ⟨h', e', f', x⟩ := answX SH k0 hd (det D j s).toInt64
        rw [if_pos rfl] at e'
        rw [if_pos (nI_lt d (by omega)), gX11_6 SH, Option.bind_some, rX25 SH (show j < 20 by omega), Option.bind_some, aXI SH (70 + j) (by omega) eR.1 (by omega) (show s < LX (70 + j) by omega), Option.bind_some, g.2 s d, vX11 SH, e', Option.bind_some, bk32, if_pos d, if_neg (fun z => by cases z)]
        exact ⟨h', rfl, FrK.toK (fr.trans f'), x, ch.k (fr.trans f')⟩
      · rw [if_neg (show ¬ nI s < nI (dem D j) from fun z => by
          have := iLt.mp z
          rw [nI_toInt (by omega), nI_toInt (by omega)] at this
          omega), vX11 SH, er, Option.bind_some, if_neg d, if_pos rfl]
        exact ⟨hr, rfl, okr⟩
    · rw [if_neg qa, if_pos rfl]
      by_cases c1 : a < 1
      · rw [if_pos c1, vX11 SH, er, Option.bind_some]
        exact ⟨hr, rfl, okr⟩
      · have c2 : nI (dE D) < a := Decidable.byContradiction (fun z => qa ⟨Decidable.byContradiction (fun y => c1 ((ltge _ _).mpr y)), Decidable.byContradiction (fun y => z ((ltge _ _).mpr y))⟩)
        rw [if_neg c1, gX11_8 SH, Option.bind_some, gEH.1, if_pos c2, vX11 SH, er, Option.bind_some]
        exact ⟨hr, rfl, okr⟩
  · have es : stA A D b = none := by unfold stA; rw [if_neg q]
    have k4 : Asked H A D b 4 := by unfold rsS at k; rw [if_neg q] at k; exact k
    obtain ⟨h', e', f', x⟩ := answX SH k4 hd 0
    rw [if_neg (show ¬ (4 : Int32) = 0 by decide)] at e'
    rw [es, if_pos rfl, vX11 SH, e', Option.bind_some, if_neg q, if_neg q]
    exact ⟨h', rfl, FrK.toK (fr.trans f'), x, ch.k (fr.trans f')⟩
end
section
variable {m : Nat} {ar : Nat → Nat} {N : Nat} {D : Dt}
theorem knownM {h : IH} (S : ShM h m ar) (hN : 1000000 ≤ N) (gs : MgS h m ar D) (qL : MgL h m ar D) (gP : MgP h m ar D) (gE : MgE h m ar D) (gA : MgA h m ar D) (wS : WgS D) (w : WgL D) (wP : WgP D) (wE : WgE D) (ch : ChM h m ar D) (a b : Int32) : ∃ h', s_X12_known N h m a b = some (knV D a b, h') ∧ OkM h h' m ar D b (knF D a b) := by
  have wn := wS.1
  have w20 := wE.1
  obtain ⟨H, e, fr, ck, k⟩ := beginM (N := N) S hN gs qL gP gA wS w wP ch b
  have SH := fr.shM S
  have gsH := mkGS S fr gs
  have gEH := mkGE S fr gE
  have e32 : fI H (1200 + 32) m = nI (dE D) := gEH.1
  unfold s_X12_known knV knF
  rw [mV12 S, e, Option.bind_some, mV12 SH, isStationM SH gsH wn b, Option.bind_some]
  rcases stC wn b with ⟨s, hs, rfl⟩ | q
  · obtain ⟨hr, er, f', g', c'⟩ := foundM SH k (g := 2) (by decide) ck
    have okr : OkM h hr m ar D (nI s) 2 := ⟨fr.trans f', g', c'⟩
    rw [if_pos (stIn wn hs), if_neg (show ¬ (1 : Int32) = 0 by decide), if_pos (stIn wn hs), if_pos (stIn wn hs)]
    unfold knO
    rcases edC w20 a with ⟨j, hj, rfl⟩ | qa
    · have wd := wE.2 j hj
      have g := gEH.2.2 j hj
      have L : ∀ (r i z : Nat), i + r = dE D → r < z → s_X12_known_L24 N z m (nI (j + 1)) (nI s) (if j < i then nI j else -1) (nI i) H = some (nI j) := by
        intro r
        induction r with
        | zero =>
          intro i z hi hz
          obtain ⟨z, rfl⟩ : ∃ y, z = y + 1 := ⟨z - 1, by omega⟩
          rw [s_X12_known_L24.eq_2, mgI 32 SH.1, Option.bind_some, e32, if_pos (nI_le (by omega) (by omega)), if_pos (by omega)]
        | succ r ih =>
          intro i z hi hz
          obtain ⟨z, rfl⟩ : ∃ y, z = y + 1 := ⟨z - 1, by omega⟩
          have gi := (gEH.2.2 i (by omega)).1
          have nx := ih (i + 1) z (by omega) (by omega)
          rw [s_X12_known_L24.eq_2, mgI 32 SH.1, Option.bind_some, e32, if_neg (nI_ge (by omega) (by omega)), mgR 33 SH (by decide), Option.bind_some, maI 33 i SH (by decide) (show i < 20 by omega), Option.bind_some, gi, nI_1]
          by_cases d : i = j
          · subst d
            rw [if_pos (by omega)] at nx
            rw [if_pos rfl, Option.bind_some]
            exact nx
          · rw [if_neg (fun z => d (by have := (nI_eq (by omega) (by omega)).mp z; omega)), Option.bind_some]
            by_cases d2 : j < i
            · rw [if_pos (by omega)] at nx
              rw [if_pos d2]
              exact nx
            · rw [if_neg (by omega)] at nx
              rw [if_neg d2]
              exact nx
      have e0 := L (dE D) 0 N (by omega) (by omega)
      rw [if_neg (by omega), nI_0] at e0
      rw [e0, Option.bind_some, if_neg (show ¬ nI j < 0 from fun z => (lt0 _).mp z (nI_pos' (by omega))), mgR 34 SH (by decide), Option.bind_some, maI 34 j SH (by decide) (show j < 20 by omega), Option.bind_some, g.2.1, if_pos (edIn w20 hj), nI_clamp (by omega), nI_clamp (by omega), show j + 1 - 1 = j by omega]
      by_cases d : s < dem D j
      · rw [if_pos (nI_lt d (by omega)), mgR 35 SH (by decide), Option.bind_some, show (12 : Int32) = nI 12 from rfl, nI_mul, nI_add, maI 35 _ SH (by decide) (show 12 * j + s < 240 by omega), Option.bind_some, g.2.2 s d, Option.bind_some, if_pos d, if_neg (fun z => by cases z)]
        exact ⟨H, rfl, fr, k.ok, ck⟩
      · rw [if_neg (show ¬ nI s < nI (dem D j) from fun z => by
          have := iLt.mp z
          rw [nI_toInt (by omega), nI_toInt (by omega)] at this
          omega), mV12 SH, er, Option.bind_some, Option.bind_some, if_neg d, if_pos rfl]
        exact ⟨hr, rfl, okr⟩
    · have L : ∀ (r i z : Nat), i + r = dE D → r < z → s_X12_known_L24 N z m a (nI s) (-1) (nI i) H = some (-1) := by
        intro r
        induction r with
        | zero =>
          intro i z hi hz
          obtain ⟨z, rfl⟩ : ∃ y, z = y + 1 := ⟨z - 1, by omega⟩
          rw [s_X12_known_L24.eq_2, mgI 32 SH.1, Option.bind_some, e32, if_pos (nI_le (by omega) (by omega))]
        | succ r ih =>
          intro i z hi hz
          obtain ⟨z, rfl⟩ : ∃ y, z = y + 1 := ⟨z - 1, by omega⟩
          have gi := (gEH.2.2 i (by omega)).1
          rw [s_X12_known_L24.eq_2, mgI 32 SH.1, Option.bind_some, e32, if_neg (nI_ge (by omega) (by omega)), mgR 33 SH (by decide), Option.bind_some, maI 33 i SH (by decide) (show i < 20 by omega), Option.bind_some, gi, nI_1, if_neg (fun z => qa (by rw [← z]; exact edIn w20 (by omega))), Option.bind_some]
          exact ih (i + 1) z (by omega) (by omega)
      have e0 := L (dE D) 0 N (by omega) (by omega)
      rw [nI_0] at e0
      rw [e0, Option.bind_some, if_pos (show (-1 : Int32) < 0 by decide), mV12 SH, er, Option.bind_some, Option.bind_some, if_neg qa, if_pos rfl]
      exact ⟨hr, rfl, okr⟩
  · obtain ⟨h', e', f', g', c'⟩ := foundM SH k (g := 4) (by decide) ck
    rw [if_neg q, if_pos rfl, mV12 SH, e', Option.bind_some, if_neg q, if_neg q]
    exact ⟨h', rfl, fr.trans f', g', c'⟩
def pmF (f : Nat) : Prop := chF f ∨ ptF f ∨ f = 1200 ∨ f = 1232
def pmR (i : Nat) : Prop := mkR i ∨ (33 ≤ i ∧ i ≤ 35)
theorem pmR_row : mRow pmR := fun i z => by
  rcases z with z | z
  · exact mkR_row i z
  · rcases (show i = 33 ∨ i = 34 ∨ i = 35 by omega) with y | y | y <;> subst y <;> decide
theorem publishM {h : IH} (S : ShM h m ar) (hN : 1000000 ≤ N) (gs : MgS h m ar D) (qL : MgL h m ar D) (qR : MgR h m ar D) (gP : MgP h m ar D) (gE : MgE h m ar D) (wS : WgS D) (w : WgL D) (wR : WgR D) (wP : WgP D) (wE : WgE D) (ch : ChM h m ar D) : ∃ h', s_X12_publish N h m = some (pubV D, h') ∧ FM m ar pmF (e1 1268) pmR chQ h h' ∧ MgE h' m ar (pubD D) ∧ ChM h' m ar D := by
  have wn := wS.1
  have w20 := wE.1
  have e32 : fI h (1200 + 32) m = nI (dE D) := gE.1
  unfold s_X12_publish pubV pubD
  rw [mgI 32 S.1, Option.bind_some, e32]
  by_cases c : dE D < 20
  · obtain ⟨h1, ee1, f1, ck⟩ := checkM (N := N) S hN gs qL gP wS w wP ch
    have k1 := FrCK.toK f1
    have S1 := f1.shM S
    have gs1 := mkGS S k1 gs
    have qL1 := mkGL S k1 qL
    have qR1 := mkGR S k1 qR
    have gP1 := mkGP k1 gP
    have gE1 := mkGE S k1 gE
    have a0 : fI h1 (1200 + 0) m = nI (dE D) := gE1.2.1
    have S2 : ShM (wfI h1 (1200 + 0) m (nI (dE D + 1))) m ar := S1
    have b32 : fI (wfI h1 (1200 + 0) m (nI (dE D + 1))) (1200 + 32) m = nI (dE D) := by rw [fI_wfI_ne _ _ (by decide)]; exact gE1.1
    have b0 : fI (wfI h1 (1200 + 0) m (nI (dE D + 1))) (1200 + 0) m = nI (dE D + 1) := fI_wfI _ _ _ _
    have b1 : fI (wfI h1 (1200 + 0) m (nI (dE D + 1))) (1200 + 1) m = nI (dn D) := by rw [fI_wfI_ne _ _ (by decide)]; exact gs1.1
    rw [if_neg (show ¬ nI (dE D) = (20 : Int32) from fun z => by have := (nI_eq (b := 20) (by omega) (by omega)).mp z; omega), mV12 S, ee1, Option.bind_some, mgI 0 S1.1, Option.bind_some, a0, mpI 0 _ S1.1, Option.bind_some, nI_1, mgR 33 S2 (by decide), Option.bind_some, mgI 32 S2.1, Option.bind_some, b32, mgI 0 S2.1, Option.bind_some, b0, msI 33 _ _ S2 (by decide) (show dE D < 20 from c), Option.bind_some]
    have S3 : ShM (setI (wfI h1 (1200 + 0) m (nI (dE D + 1))) (ar 33) (upd (rI (wfI h1 (1200 + 0) m (nI (dE D + 1))) (ar 33)) (dE D) (nI (dE D + 1)))) m ar := S1
    rw [mgR 34 S3 (by decide), Option.bind_some, mgI 32 S3.1, Option.bind_some, fI_setI, b32, mgI 1 S3.1, Option.bind_some, fI_setI, b1, msI 34 _ _ S3 (by decide) (show dE D < 20 from c), Option.bind_some]
    have ne34 : ar 34 ≠ ar 33 := fun z => by have := S.2.2 34 33 (by decide) (by decide) z; omega
    have fr0 : FM m ar (fun f => f = 1200) no1 (fun i => i = 33 ∨ i = 34) no1 h1 (setI (setI (wfI h1 (1200 + 0) m (nI (dE D + 1))) (ar 33) (upd (rI (wfI h1 (1200 + 0) m (nI (dE D + 1))) (ar 33)) (dE D) (nI (dE D + 1)))) (ar 34) (upd (rI (setI (wfI h1 (1200 + 0) m (nI (dE D + 1))) (ar 33) (upd (rI (wfI h1 (1200 + 0) m (nI (dE D + 1))) (ar 33)) (dE D) (nI (dE D + 1)))) (ar 34)) (dE D) (nI (dn D)))) := ((Fr.wI _ _ _ _ ⟨rfl, rfl⟩).trans (Fr.sI _ _ _ ⟨33, Or.inl rfl, rfl⟩)).trans (Fr.sI _ _ _ ⟨34, Or.inr rfl, rfl⟩)
    have v33 : rI (setI (setI (wfI h1 (1200 + 0) m (nI (dE D + 1))) (ar 33) (upd (rI (wfI h1 (1200 + 0) m (nI (dE D + 1))) (ar 33)) (dE D) (nI (dE D + 1)))) (ar 34) (upd (rI (setI (wfI h1 (1200 + 0) m (nI (dE D + 1))) (ar 33) (upd (rI (wfI h1 (1200 + 0) m (nI (dE D + 1))) (ar 33)) (dE D) (nI (dE D + 1)))) (ar 34)) (dE D) (nI (dn D)))) (ar 33) = upd (rI h1 (ar 33)) (dE D) (nI (dE D + 1)) := by
      rw [rI_setI_ne _ _ (fun z => ne34 z.symm), rI_setI, rI_wfI]
    have v34 : rI (setI (setI (wfI h1 (1200 + 0) m (nI (dE D + 1))) (ar 33) (upd (rI (wfI h1 (1200 + 0) m (nI (dE D + 1))) (ar 33)) (dE D) (nI (dE D + 1)))) (ar 34) (upd (rI (setI (wfI h1 (1200 + 0) m (nI (dE D + 1))) (ar 33) (upd (rI (wfI h1 (1200 + 0) m (nI (dE D + 1))) (ar 33)) (dE D) (nI (dE D + 1)))) (ar 34)) (dE D) (nI (dn D)))) (ar 34) = upd (rI h1 (ar 34)) (dE D) (nI (dn D)) := by
      rw [rI_setI, rI_setI_ne _ _ ne34, rI_wfI]
    have v32 : fI (setI (setI (wfI h1 (1200 + 0) m (nI (dE D + 1))) (ar 33) (upd (rI (wfI h1 (1200 + 0) m (nI (dE D + 1))) (ar 33)) (dE D) (nI (dE D + 1)))) (ar 34) (upd (rI (setI (wfI h1 (1200 + 0) m (nI (dE D + 1))) (ar 33) (upd (rI (wfI h1 (1200 + 0) m (nI (dE D + 1))) (ar 33)) (dE D) (nI (dE D + 1)))) (ar 34)) (dE D) (nI (dn D)))) (1200 + 32) m = nI (dE D) := b32
    have v0 : fI (setI (setI (wfI h1 (1200 + 0) m (nI (dE D + 1))) (ar 33) (upd (rI (wfI h1 (1200 + 0) m (nI (dE D + 1))) (ar 33)) (dE D) (nI (dE D + 1)))) (ar 34) (upd (rI (setI (wfI h1 (1200 + 0) m (nI (dE D + 1))) (ar 33) (upd (rI (wfI h1 (1200 + 0) m (nI (dE D + 1))) (ar 33)) (dE D) (nI (dE D + 1)))) (ar 34)) (dE D) (nI (dn D)))) (1200 + 0) m = nI (dE D + 1) := b0
    generalize setI (setI (wfI h1 (1200 + 0) m (nI (dE D + 1))) (ar 33) (upd (rI (wfI h1 (1200 + 0) m (nI (dE D + 1))) (ar 33)) (dE D) (nI (dE D + 1)))) (ar 34) (upd (rI (setI (wfI h1 (1200 + 0) m (nI (dE D + 1))) (ar 33) (upd (rI (wfI h1 (1200 + 0) m (nI (dE D + 1))) (ar 33)) (dE D) (nI (dE D + 1)))) (ar 34)) (dE D) (nI (dn D))) = h2 at fr0 v33 v34 v32 v0 ⊢
    have S4 := fr0.shM S1
    have row2 : mRow (fun i => i = 33 ∨ i = 34) := fun i z => by rcases z with z | z <;> subst z <;> decide
    have gs2 : MgS h2 m ar D := gs1.fr S1 fr0 row2 (by omega) (fun k z => by omega)
    have qL2 : MgL h2 m ar D := qL1.fr S1 fr0 row2 no1_row (fun k z => by omega) (fun k z => z.elim)
    have qR2 : MgR h2 m ar D := qR1.fr S1 fr0 row2 (by omega) (by omega) (by omega)
    have gP2 : MgP h2 m ar D := gP1.fr fr0 (by omega) (by omega)
    have ck2 : CkM h2 ar D := ck.fr S1 fr0 row2 no1_row (by omega) (by omega) (fun z => z)
    have rowL : mRow (fun i => i = 69 ∨ i = 35) := fun i z => by rcases z with z | z <;> subst z <;> decide
    have L : ∀ (r s z : Nat) (H : IH), s + r = dn D → r < z → FM m ar ptF no1 (fun i => i = 69 ∨ i = 35) no1 h2 H → (∀ u, u < s → rI H (ar 35) (12 * dE D + u) = (toX D u).getD 0) → (∀ i, i < 12 * dE D → rI H (ar 35) i = rI h2 (ar 35) i) → ∃ h', s_X12_publish_L53 N z m (nI s) H = some h' ∧ FM m ar ptF no1 (fun i => i = 69 ∨ i = 35) no1 h2 h' ∧ (∀ u, u < dn D → rI h' (ar 35) (12 * dE D + u) = (toX D u).getD 0) ∧ ∀ i, i < 12 * dE D → rI h' (ar 35) i = rI h2 (ar 35) i := by
      intro r
      induction r with
      | zero =>
        intro s z H hs hz fr q1 q2
        obtain ⟨z, rfl⟩ : ∃ y, z = y + 1 := ⟨z - 1, by omega⟩
        have SH := fr.shM S4
        have e1 : fI H (1200 + 1) m = nI (dn D) := by rw [mfI fr (by unfold ptF; omega)]; exact gs2.1
        rw [s_X12_publish_L53.eq_2, mgI 1 SH.1, Option.bind_some, e1, if_pos (nI_le (by omega) (by omega))]
        exact ⟨H, rfl, fr, fun u hu => q1 u (by omega), q2⟩
      | succ r ih =>
        intro s z H hs hz fr q1 q2
        obtain ⟨z, rfl⟩ : ∃ y, z = y + 1 := ⟨z - 1, by omega⟩
        have SH := fr.shM S4
        have e1 : fI H (1200 + 1) m = nI (dn D) := by rw [mfI fr (by unfold ptF; omega)]; exact gs2.1
        have e32' : fI H (1200 + 32) m = nI (dE D) := by rw [mfI fr (by unfold ptF; omega)]; exact v32
        have gsH : MgS H m ar D := gs2.fr S4 fr rowL (by unfold ptF; omega) (fun k z => by omega)
        have qLH : MgL H m ar D := qL2.fr S4 fr rowL no1_row (fun k z => by omega) (fun k z => z.elim)
        have qRH : MgR H m ar D := qR2.fr S4 fr rowL (by unfold ptF; omega) (by omega) (by omega)
        have gPH : MgP H m ar D := gP2.fr fr (by unfold ptF; omega) (by unfold ptF; omega)
        have ckH : CkM H ar D := ck2.fr S4 fr rowL no1_row (by omega) (by omega) (fun z => z)
        have hs' : s < dn D := by omega
        obtain ⟨H2, e2, f2⟩ := totNM (N := N) SH (by omega) gsH qLH qRH gPH wS w wR wP ckH hs'
        have S5 := f2.shM SH
        rw [← toX_R wS w hs'] at e2
        rw [s_X12_publish_L53.eq_2, mgI 1 SH.1, Option.bind_some, e1, if_neg (nI_ge (by omega) (by omega)), mgR 35 SH (by decide), Option.bind_some, mgI 32 SH.1, Option.bind_some, e32', mV12 SH, e2, Option.bind_some]
        show ∃ h', ((sI H2 (some (ar 35)) (12 * nI (dE D) + nI s) ((toX D s).getD 0)).bind fun h19 => s_X12_publish_L53 N z m (nI s + 1) h19) = some h' ∧ _
        rw [show (12 : Int32) = nI 12 from rfl, nI_mul, nI_add, msI 35 _ _ S5 (by decide) (show 12 * dE D + s < 240 by omega), Option.bind_some, nI_1]
        have r35 : rI H2 (ar 35) = rI H (ar 35) := mrI SH f2 e69_row (by decide) (fun z => by cases z)
        refine ih (s + 1) z _ (by omega) (by omega) ((fr.trans (FM.mo f2 (fun _ z => z) (fun _ z => z) (fun _ z => Or.inl z) (fun _ z => z))).trans (Fr.sI _ _ _ ⟨35, Or.inr rfl, rfl⟩)) (fun u hu => ?_) (fun i hi => ?_)
        · rw [rI_setI]
          by_cases d : u = s
          · rw [d, upd_s]
          · rw [upd_n _ _ (by omega), r35]
            exact q1 u (by omega)
        · rw [rI_setI, upd_n _ _ (by omega), r35]
          exact q2 i hi
    obtain ⟨H, e2, f2, q1, q2⟩ := L (dn D) 0 N h2 (by omega) (by omega) (Fr.refl _) (fun u hu => absurd hu (by omega)) (fun i hi => rfl)
    rw [nI_0] at e2
    have SH := f2.shM S4
    have w32 : fI H (1200 + 32) m = nI (dE D) := by rw [mfI f2 (by unfold ptF; omega)]; exact v32
    have w0 : fI H (1200 + 0) m = nI (dE D + 1) := by rw [mfI f2 (by unfold ptF; omega)]; exact v0
    have S6 : ShM (wfI H (1200 + 32) m (nI (dE D + 1))) m ar := SH
    have x0 : fI (wfI H (1200 + 32) m (nI (dE D + 1))) (1200 + 0) m = nI (dE D + 1) := by rw [fI_wfI_ne _ _ (by decide)]; exact w0
    rw [e2, Option.bind_some, mgI 32 SH.1, Option.bind_some, w32, nI_1, mpI 32 _ SH.1, Option.bind_some, mgI 0 S6.1, Option.bind_some, x0, if_pos c, if_pos c]
    have f3 : FM m ar (fun f => f = 1232) no1 no1 no1 H (wfI H (1200 + 32) m (nI (dE D + 1))) := Fr.wI _ _ _ _ ⟨rfl, rfl⟩
    have fAll : FM m ar pmF (e1 1268) pmR chQ h (wfI H (1200 + 32) m (nI (dE D + 1))) := (((FM.mo f1 (fun _ z => Or.inl z) (fun _ z => z) (fun _ z => Or.inl (Or.inl z)) (fun _ z => z)).trans (FM.mo fr0 (fun _ z => Or.inr (Or.inr (Or.inl z))) (fun _ z => z.elim) (fun i z => Or.inr (by omega)) (fun _ z => z.elim))).trans (FM.mo f2 (fun _ z => Or.inr (Or.inl z)) (fun _ z => z.elim) (fun i z => z.elim (fun y => Or.inl (Or.inr y)) (fun y => Or.inr (by omega))) (fun _ z => z.elim))).trans (FM.mo f3 (fun _ z => Or.inr (Or.inr (Or.inr z))) (fun _ z => z.elim) (fun _ z => z.elim) (fun _ z => z.elim))
    have ckH : CkM H ar D := ck2.fr S4 f2 rowL no1_row (by omega) (by omega) (fun z => z)
    refine ⟨_, rfl, fAll, ⟨?_, ?_, fun i hi => ?_⟩, fun _ => ckH.fr SH f3 no1_row no1_row (fun z => z) (fun z => z) (fun z => z)⟩
    · exact fI_wfI _ _ _ _
    · exact x0
    · have hi : i < dE D + 1 := hi
      have y33 : rI H (ar 33) = upd (rI h1 (ar 33)) (dE D) (nI (dE D + 1)) := by rw [mrI S4 f2 rowL (by decide) (by omega)]; exact v33
      have y34 : rI H (ar 34) = upd (rI h1 (ar 34)) (dE D) (nI (dn D)) := by rw [mrI S4 f2 rowL (by decide) (by omega)]; exact v34
      have y35 : rI h2 (ar 35) = rI h1 (ar 35) := mrI S1 fr0 row2 (by decide) (by omega)
      rw [rI_wfI, y33, y34]
      by_cases d : i = dE D
      · subst d
        refine ⟨upd_s _ _ _, ?_, fun s hs => ?_⟩
        · rw [upd_s]
          show nI (dn D) = nI (if dE D = dE D then dn D else dem D (dE D))
          rw [if_pos rfl]
        · have hs : s < (if dE D = dE D then dn D else dem D (dE D)) := hs
          rw [if_pos rfl] at hs
          rw [q1 s hs]
          show (toX D s).getD 0 = (if dE D = dE D then (toX D s).getD 0 else det D (dE D) s)
          rw [if_pos rfl]
      · have hi' : i < dE D := by omega
        have g := gE1.2.2 i hi'
        have wd := wE.2 i hi'
        refine ⟨?_, ?_, fun s hs => ?_⟩
        · rw [upd_n _ _ d]; exact g.1
        · rw [upd_n _ _ d, g.2.1]
          show nI (dem D i) = nI (if i = dE D then dn D else dem D i)
          rw [if_neg d]
        · have hs : s < (if i = dE D then dn D else dem D i) := hs
          rw [if_neg d] at hs
          rw [q2 _ (by omega), y35, g.2.2 s hs]
          show det D i s = (if i = dE D then (toX D s).getD 0 else det D i s)
          rw [if_neg d]
  · rw [if_pos (show nI (dE D) = (20 : Int32) by rw [show dE D = 20 by omega]; rfl), if_neg c, if_neg c]
    exact ⟨h, rfl, Fr.refl _, gE, ch⟩
end
theorem pubW {D : Dt} (w : WgE D) : WgE (pubD D) := by
  unfold pubD
  by_cases c : dE D < 20
  · rw [if_pos c]
    refine ⟨by show dE D + 1 ≤ 20; omega, fun i hi => ?_⟩
    have hi : i < dE D + 1 := hi
    show (if i = dE D then dn D else dem D i) ≤ dn D
    by_cases d : i = dE D
    · rw [if_pos d]; exact Nat.le_refl _
    · rw [if_neg d]; exact w.2 i (by omega)
  · rw [if_neg c]; exact w
