/-! ===== total and place ===== -/
noncomputable def totV (D : Dt) (a : Int32) : Int32 := if 0 ≤ a ∧ a < nI (dn D) then (toX D a.toNatClampNeg).getD 0 else 0
noncomputable def totF (D : Dt) (a : Int32) : Int32 := if 0 ≤ a ∧ a < nI (dn D) then (if toX D a.toNatClampNeg = none then 5 else 0) else 4
def rkB (D : Dt) (s : Nat) : Bool := decide (dK D s ≠ 4) && decide (dK D s ≠ 3)
noncomputable def plB (D : Dt) (o : Int32) (k : Nat) : Bool := rkB D k && decide (¬ (toX D k).getD 0 ≤ o)
noncomputable def plN (D : Dt) (s k : Nat) : Nat := cnt (plB D ((toX D s).getD 0)) k
noncomputable def plaV (D : Dt) (a : Int32) : Int32 := if 0 ≤ a ∧ a < nI (dn D) then (if rkB D a.toNatClampNeg = true then nI (1 + plN D a.toNatClampNeg (dn D)) else 0) else 0
noncomputable def plaF (D : Dt) (a : Int32) : Int32 := if 0 ≤ a ∧ a < nI (dn D) then (if rkB D a.toNatClampNeg = true then 0 else 7) else 4
section
variable {A : Nat → Nat} {n N : Nat} {D : Dt}
theorem vGS {h h' : IH} (x : FrV A h h') (g : XgS h A D) : XgS h' A D := g.fr x (fun f z => by cases z; omega) (fun z => z)
theorem vGL {h h' : IH} (x : FrV A h h') (g : XgL h A D) : XgL h' A D := g.fr x (fun f z => by cases z; omega) (fun f z => z.elim)
theorem vGP {h h' : IH} (x : FrV A h h') (g : XgP h A D) : XgP h' A D := g.fr x (fun z => by cases z) (fun z => by cases z)
theorem vGR {h h' : IH} (S : ShX h A n) (x : FrV A h h') (g : XgR h A D) : XgR h' A D := g.fr S x (fun _ z => z.elim) (fun z => by cases z) (fun z => z)
theorem ckV {h h' : IH} (x : FrV A h h') (c : CkX h A D) : CkX h' A D := c.fr x (fun z => by cases z) (fun z => by cases z) (fun z => by cases z) (fun z => z)
theorem wyV {h h' : IH} (x : FrV A h h') (c : WyX h A D) : WyX h' A D := c.fr x (fun z => by cases z) (fun z => by cases z)
theorem kGP {h h' : IH} (x : FrK A h h') (g : XgP h A D) : XgP h' A D := g.fr x (by unfold akF; omega) (by unfold akF; omega)
theorem kGR {h h' : IH} (S : ShX h A n) (x : FrK A h h') (g : XgR h A D) : XgR h' A D := g.fr S x (fun _ z => z.elim) (by unfold akF; omega) (fun z => z)
theorem okXv {h h1 h2 h3 h' : IH} {a f : Int32} (f1 : FrRF A h h1) (f2 : FrK A h1 h2) (f3 : FrV A h2 h3) (f4 : FrK A h3 h') (x : XgA h' A (akD D a f)) (ck : CkX h1 A D) (wy : WyX h1 A D) : OkX h h' A D a f := ⟨((f1.toK.trans f2.toK).trans f3.toK).trans f4.toK, x, fun _ => ⟨ckK f4 (ckV f3 (ckK f2 ck)), wyK f4 (wyV f3 (wyK f2 wy))⟩⟩
theorem totalXX {h : IH} (S : ShX h A n) (hN : 2000 ≤ N) (hn : n = dn D) (gs : XgS h A D) (qL : XgL h A D) (qR : XgR h A D) (gP : XgP h A D) (gA : XgA h A D) (wS : WgS D) (w : WgL D) (wR : WgR D) (wP : WgP D) (hd : dop D < 1000000) (ch : ChX h A D) (a : Int32) : ∃ h', s_X11_total N h (A 0) a = some (totV D a, h') ∧ OkX h h' A D a (totF D a) := by
  obtain ⟨h1, e1, f1, ck, wy⟩ := refreshX (N := N) S hN hn gs qL gP wS w wP ch
  have S1 := f1.shX S
  obtain ⟨H, e, fr, k⟩ := askedStX S1 hn (rfGS f1 gs) (rfGA f1 gA) a
  subst hn
  have wn := S.1
  have SH := fr.shX S1
  unfold s_X11_total totV totF
  rw [gX11_4 S, Option.bind_some, vX0 S, e1, Option.bind_some, vX11 S1, e, Option.bind_some]
  show ∃ h', (((if stA A D a = none then some (0, H) else (gR H 11 5 (some (A 0))).bind fun v5 => (cV H 8 v5 fun a7 => s_X8_totalOf N H a7 a).bind fun v6 => some (v6.1, v6.2)) : Option (Int64 × IH)).bind fun q8 => (cV q8.2 11 (some (A 0)) fun a10 => s_X11_answeredSum q8.2 a10 q8.1).bind fun v9 => some (v9.1.toInt32, v9.2)) = _ ∧ _
  rcases stC wn a with ⟨s, hs, rfl⟩ | q
  · have es : stA A D (nI s) = some (A (100 + s)) := by unfold stA; rw [if_pos (stIn wn hs), nI_clamp (by omega)]
    have k0 : Asked H A D (nI s) 0 := by unfold rsS at k; rw [if_pos (stIn wn hs)] at k; exact k
    obtain ⟨H2, e2, f2⟩ := totalX (N := N) SH hN rfl (kGS fr (rfGS f1 gs)) (kGL fr (rfGL f1 qL)) (kGR S1 fr (rfGR S f1 qR)) (kGP fr (rfGP f1 gP)) wS w wR (ckK fr ck) (wyK fr wy) hs
    have S2 := f2.shX SH
    have k2 : Asked H2 A D (nI s) 0 := k0.fr f2 (fun f z => by cases z; omega)
    obtain ⟨h', e', f', x⟩ := answSX S2 k2 hd (toX D s)
    rw [es, if_neg (show ¬ some (A (100 + s)) = none from fun z => by cases z), gX11_5 SH, Option.bind_some, vX8 SH, e2, Option.bind_some, Option.bind_some, if_pos (stIn wn hs), if_pos (stIn wn hs), nI_clamp (by omega)]
    show ∃ h', ((cV H2 11 (some (A 0)) fun a10 => s_X11_answeredSum H2 a10 (vJ (toX D s))).bind fun v9 => some (v9.1.toInt32, v9.2)) = _ ∧ _
    rw [vX11 S2, e', Option.bind_some, bk32]
    exact ⟨h', rfl, okXv f1 fr f2 f' x ck wy⟩
  · have es : stA A D a = none := by unfold stA; rw [if_neg q]
    have k4 : Asked H A D a 4 := by unfold rsS at k; rw [if_neg q] at k; exact k
    obtain ⟨h', e', f', x⟩ := answX SH k4 hd (vJ (some 0))
    rw [if_neg (show ¬ (4 : Int32) = 0 by decide)] at e'
    rw [es, if_pos rfl, Option.bind_some, if_neg q, if_neg q]
    show ∃ h', ((cV H 11 (some (A 0)) fun a10 => s_X11_answeredSum H a10 (vJ (some 0))).bind fun v9 => some (v9.1.toInt32, v9.2)) = _ ∧ _
    rw [vX11 SH]
    unfold s_X11_answeredSum
    rw [if_neg (fun z => by cases (vJ_d (some 0)).mp z), vX11 SH, e', Option.bind_some, Option.bind_some, Option.bind_some]
    exact ⟨h', rfl, okXc f1 (fr.trans f') x ck wy⟩
theorem rankX {h : IH} (S : ShX h A n) (hn : n = dn D) (gs : XgS h A D) {s : Nat} (hs : s < dn D) : s_X9_isRanked h (A (100 + s)) = some (bI (rkB D s)) := by
  subst hn
  have e0 : fI h 900 (A (100 + s)) = dK D s := (gs.2 s hs).1
  unfold s_X9_isRanked rkB
  rw [gX9_0 S hs, Option.bind_some, e0]
  by_cases c : dK D s = 4
  · rw [if_pos c, Option.bind_some, if_pos (Or.inl rfl), decide_eq_false (fun z => z c)]
    rfl
  · rw [if_neg c, Option.bind_some, decide_eq_true c]
    by_cases d : dK D s = 3
    · rw [if_pos d, Option.bind_some, if_pos (Or.inl rfl), decide_eq_false (fun z => z d)]
      rfl
    · rw [if_neg d, Option.bind_some, if_pos (Or.inr rfl), decide_eq_true d]
      rfl
theorem placeLX {h : IH} (S : ShX h A n) (hN : 2000 ≤ N) (hn : n = dn D) (gs : XgS h A D) (qL : XgL h A D) (qR : XgR h A D) (gP : XgP h A D) (wS : WgS D) (w : WgL D) (wR : WgR D) (ck : CkX h A D) (wy : WyX h A D) (o : Int32) : ∀ (r k z : Nat) (H : IH), k + r = dn D → r < z → FrV A h H → ∃ h', s_X11_place_L57 N z (A 0) o (nI (1 + cnt (plB D o) k)) (nI k) H = some (nI (1 + cnt (plB D o) (dn D)), h') ∧ FrV A h h' := by
  subst hn
  have wn := S.1
  intro r
  induction r with
  | zero =>
    intro k z H hk hz fr
    obtain ⟨z, rfl⟩ : ∃ y, z = y + 1 := ⟨z - 1, by omega⟩
    have SH := fr.shX S
    rw [s_X11_place_L57.eq_2, gX11_1 SH, Option.bind_some, gX7_1 SH, Option.bind_some, (vGS fr gs).1, if_pos (nI_le (by omega) (by omega)), show k = dn D by omega]
    exact ⟨H, rfl, fr⟩
  | succ r ih =>
    intro k z H hk hz fr
    obtain ⟨z, rfl⟩ : ∃ y, z = y + 1 := ⟨z - 1, by omega⟩
    have SH := fr.shX S
    have hk' : k < dn D := by omega
    have eC : cnt (plB D o) (k + 1) = cnt (plB D o) k + (if plB D o k = true then 1 else 0) := rfl
    obtain ⟨H2, e2, f2⟩ := totalX (N := N) SH hN rfl (vGS fr gs) (vGL fr qL) (vGR S fr qR) (vGP fr gP) wS w wR (ckV fr ck) (wyV fr wy) hk'
    rw [s_X11_place_L57.eq_2, gX11_1 SH, Option.bind_some, gX7_1 SH, Option.bind_some, (vGS fr gs).1, if_neg (nI_ge (by omega) (by omega)), Option.bind_some, vX7 SH, atX SH (vGS fr gs) rfl hk', Option.bind_some, if_neg (show ¬ some (A (100 + k)) = none from fun z => by cases z), vX9 SH hk', rankX SH rfl (vGS fr gs) hk', Option.bind_some, nI_1 k]
    cases c : rkB D k with
    | false =>
      have ep : plB D o k = false := by unfold plB; rw [c]; rfl
      obtain ⟨h', e', f'⟩ := ih (k + 1) z H (by omega) (by omega) fr
      rw [eC, ep, if_neg (by decide), Nat.add_zero] at e'
      rw [if_pos (show bI false = 0 from rfl), Option.bind_some]
      exact ⟨h', e', f'⟩
    | true =>
      rw [if_neg (show ¬ bI true = 0 by decide), gX11_5 SH, Option.bind_some, vX8 SH, e2, Option.bind_some]
      obtain ⟨h', e', f'⟩ := ih (k + 1) z H2 (by omega) (by omega) (fr.trans f2)
      have eo : s_X11_orZero H2 (vJ (toX D k)) = some ((toX D k).getD 0) := orZX H2 _
      show ∃ h', (((s_X11_orZero H2 (vJ (toX D k))).bind fun v24 => if v24 ≤ o then some (nI (1 + cnt (plB D o) k), H2) else some (nI (1 + cnt (plB D o) k) + 1, H2)) : Option (Int32 × IH)).bind (fun q28 => s_X11_place_L57 N z (A 0) o q28.1 (nI (k + 1)) q28.2) = _ ∧ _
      rw [eo, Option.bind_some]
      by_cases d : (toX D k).getD 0 ≤ o
      · have ep : plB D o k = false := by unfold plB; rw [c, decide_eq_false (fun z => z d)]; rfl
        rw [eC, ep, if_neg (by decide), Nat.add_zero] at e'
        rw [if_pos d, Option.bind_some]
        exact ⟨h', e', f'⟩
      · have ep : plB D o k = true := by unfold plB; rw [c, decide_eq_true d]; rfl
        rw [eC, ep, if_pos rfl] at e'
        rw [if_neg d, Option.bind_some, nI_1]
        exact ⟨h', e', f'⟩
theorem placeX {h : IH} (S : ShX h A n) (hN : 2000 ≤ N) (hn : n = dn D) (gs : XgS h A D) (qL : XgL h A D) (qR : XgR h A D) (gP : XgP h A D) (gA : XgA h A D) (wS : WgS D) (w : WgL D) (wR : WgR D) (wP : WgP D) (hd : dop D < 1000000) (ch : ChX h A D) (a : Int32) : ∃ h', s_X11_place N h (A 0) a = some (plaV D a, h') ∧ OkX h h' A D a (plaF D a) := by
  obtain ⟨h1, e1, f1, ck, wy⟩ := refreshX (N := N) S hN hn gs qL gP wS w wP ch
  have S1 := f1.shX S
  obtain ⟨H, e, fr, k⟩ := askedStX S1 hn (rfGS f1 gs) (rfGA f1 gA) a
  subst hn
  have wn := S.1
  have SH := fr.shX S1
  have gsH := kGS fr (rfGS f1 gs)
  have qLH := kGL fr (rfGL f1 qL)
  have qRH := kGR S1 fr (rfGR S f1 qR)
  have gPH := kGP fr (rfGP f1 gP)
  have ckH := ckK fr ck
  have wyH := wyK fr wy
  unfold s_X11_place plaV plaF
  rw [gX11_4 S, Option.bind_some, vX0 S, e1, Option.bind_some, vX11 S1, e, Option.bind_some]
  show ∃ h', (if stA A D a = none then (cV H 11 (some (A 0)) fun a6 => s_X11_answered H a6 0).bind fun v5 => some (v5.1.toInt32, v5.2) else (cV H 9 (stA A D a) fun a34 => s_X9_isRanked H a34).bind fun v7 => if v7 = 0 then (cV H 11 (some (A 0)) fun a10 => s_X11_refused H a10 7).bind fun v9 => some (v9.1.toInt32, v9.2) else (gR H 11 5 (some (A 0))).bind fun v11 => (cV H 8 v11 fun a33 => s_X8_totalOf N H a33 a).bind fun v12 => (s_X11_orZero v12.2 v12.1).bind fun v13 => (s_X11_place_L57 N N (A 0) v13 1 0 v12.2).bind fun q30 => (cV q30.2 11 (some (A 0)) fun a32 => s_X11_answered q30.2 a32 q30.1.toInt64).bind fun v31 => some (v31.1.toInt32, v31.2)) = _ ∧ _
  rcases stC wn a with ⟨s, hs, rfl⟩ | q
  · have es : stA A D (nI s) = some (A (100 + s)) := by unfold stA; rw [if_pos (stIn wn hs), nI_clamp (by omega)]
    have k0 : Asked H A D (nI s) 0 := by unfold rsS at k; rw [if_pos (stIn wn hs)] at k; exact k
    rw [es, if_neg (show ¬ some (A (100 + s)) = none from fun z => by cases z), vX9 SH hs, rankX SH rfl gsH hs, Option.bind_some, if_pos (stIn wn hs), if_pos (stIn wn hs), nI_clamp (by omega)]
    cases c : rkB D s with
    | false =>
      obtain ⟨h', e', f', x⟩ := refuX SH k0 hd (g := 7) (by decide)
      rw [if_pos (show bI false = 0 from rfl), vX11 SH, e', Option.bind_some, if_neg (show ¬ false = true by decide), if_neg (show ¬ false = true by decide)]
      exact ⟨h', rfl, okXc f1 (fr.trans f') x ck wy⟩
    | true =>
      obtain ⟨H2, e2, f2⟩ := totalX (N := N) SH hN rfl gsH qLH qRH gPH wS w wR ckH wyH hs
      have S2 := f2.shX SH
      have eo : s_X11_orZero H2 (vJ (toX D s)) = some ((toX D s).getD 0) := orZX H2 _
      obtain ⟨H3, e3, f3⟩ := placeLX (N := N) SH hN rfl gsH qLH qRH gPH wS w wR ckH wyH ((toX D s).getD 0) (dn D) 0 N H2 (by omega) (by omega) f2
      rw [nI_0] at e3
      have e3 : s_X11_place_L57 N N (A 0) ((toX D s).getD 0) 1 0 H2 = some (nI (1 + plN D s (dn D)), H3) := e3
      have S3 := f3.shX SH
      have k3 : Asked H3 A D (nI s) 0 := k0.fr f3 (fun f z => by cases z; omega)
      obtain ⟨h', e', f', x⟩ := answX S3 k3 hd (nI (1 + plN D s (dn D))).toInt64
      rw [if_pos rfl] at e'
      rw [if_neg (show ¬ bI true = 0 by decide), if_pos rfl, if_pos rfl, gX11_5 SH, Option.bind_some, vX8 SH, e2, Option.bind_some]
      show ∃ h', ((s_X11_orZero H2 (vJ (toX D s))).bind fun v13 => (s_X11_place_L57 N N (A 0) v13 1 0 H2).bind fun q30 => (cV q30.2 11 (some (A 0)) fun a32 => s_X11_answered q30.2 a32 q30.1.toInt64).bind fun v31 => some (v31.1.toInt32, v31.2)) = _ ∧ _
      rw [eo, Option.bind_some, e3, Option.bind_some]
      show ∃ h', ((cV H3 11 (some (A 0)) fun a32 => s_X11_answered H3 a32 (nI (1 + plN D s (dn D))).toInt64).bind fun v31 => some (v31.1.toInt32, v31.2)) = _ ∧ _
      rw [vX11 S3, e', Option.bind_some, bk32]
      exact ⟨h', rfl, okXv f1 fr f3 f' x ck wy⟩
  · have es : stA A D a = none := by unfold stA; rw [if_neg q]
    have k4 : Asked H A D a 4 := by unfold rsS at k; rw [if_neg q] at k; exact k
    obtain ⟨h', e', f', x⟩ := answX SH k4 hd 0
    rw [if_neg (show ¬ (4 : Int32) = 0 by decide)] at e'
    rw [es, if_pos rfl, vX11 SH, e', Option.bind_some, if_neg q, if_neg q]
    exact ⟨h', rfl, okXc f1 (fr.trans f') x ck wy⟩
end
section
variable {m : Nat} {ar : Nat → Nat} {N : Nat} {D : Dt}
theorem ckCS {h h' : IH} (S : ShM h m ar) (x : FrCS m ar h h') (c : CkM h ar D) : CkM h' ar D := c.fr S x e69_row no1_row (fun z => by cases z) (fun z => by cases z) (fun z => z)
theorem totalMM {h : IH} (S : ShM h m ar) (hN : 1000000 ≤ N) (gs : MgS h m ar D) (qL : MgL h m ar D) (qR : MgR h m ar D) (gP : MgP h m ar D) (gA : MgA h m ar D) (wS : WgS D) (w : WgL D) (wR : WgR D) (wP : WgP D) (ch : ChM h m ar D) (a : Int32) : ∃ h', s_X12_total N h m a = some (totV D a, h') ∧ OkM h h' m ar D a (totF D a) := by
  have wn := wS.1
  obtain ⟨H, e, fr, ck, k⟩ := beginM (N := N) S hN gs qL gP gA wS w wP ch a
  have SH := fr.shM S
  have gsH := mkGS S fr gs
  have gLH := mkGL S fr qL
  unfold s_X12_total totV totF
  rw [mV12 S, e, Option.bind_some, mV12 SH, isStationM SH gsH wn a, Option.bind_some]
  rcases stC wn a with ⟨s, hs, rfl⟩ | q
  · obtain ⟨x, H2, e2, f2, a1, a2⟩ := totalM (N := N) SH (by omega) gsH gLH (mkGR S fr qR) (mkGP fr gP) wS w wR wP ck hs
    have S2 := f2.shM SH
    have ck2 := ckCS SH f2 ck
    have k2 : AkM H2 m D (nI s) 0 := k.fr f2 (fun f z => by unfold ptF at z; omega)
    rw [if_pos (stIn wn hs), if_neg (show ¬ (1 : Int32) = 0 by decide), mV12 SH, e2, Option.bind_some, if_pos (stIn wn hs), if_pos (stIn wn hs), nI_clamp (by omega), toX_R wS w hs]
    show ∃ h', ((gI H2 12 52 (some m)).bind fun v7 => ((if v7 = 0 then some (x, H2) else (cV H2 12 (some m) fun a10 => s_X12_found H2 a10 5).bind fun v9 => some (v9.1, v9.2)) : Option (Int32 × IH)).bind fun q11 => some (q11.1, q11.2)) = _ ∧ _
    rw [mgI 52 S2.1, Option.bind_some]
    cases c : toR D s with
    | none =>
      obtain ⟨h', e', f', g', c'⟩ := foundM S2 k2 (g := 5) (by decide) ck2
      rw [if_neg (show ¬ fI H2 (1200 + 52) m = 0 from a1.mpr c), mV12 S2, e', Option.bind_some, Option.bind_some, if_pos rfl]
      exact ⟨h', rfl, (fr.trans f2.toK).trans f', g', c'⟩
    | some u =>
      rw [if_pos (show fI H2 (1200 + 52) m = 0 from Decidable.byContradiction (fun z => by have := a1.mp z; rw [c] at this; cases this)), Option.bind_some, a2 u c, if_neg (fun z => by cases z)]
      exact ⟨H2, rfl, fr.trans f2.toK, k2.ok, ck2⟩
  · obtain ⟨h', e', f', g', c'⟩ := foundM SH k (g := 4) (by decide) ck
    rw [if_neg q, if_pos rfl, mV12 SH, e', Option.bind_some, if_neg q, if_neg q]
    exact ⟨h', rfl, fr.trans f', g', c'⟩
theorem placedM {h : IH} (S : ShM h m ar) (gs : MgS h m ar D) (wn : dn D ≤ 12) {s : Nat} (hs : s < dn D) : s_X12_isPlaced h m (nI s) = some (bI (rkB D s)) := by
  have r2 : rI h (ar 2) s = dK D s := (gs.2.1 s hs).1
  unfold s_X12_isPlaced rkB
  rw [mgR 2 S (by decide), Option.bind_some, maI 2 s S (by decide) (show s < 12 by omega), Option.bind_some, r2]
  by_cases c : dK D s = 4
  · rw [if_pos c, Option.bind_some, if_pos (Or.inl rfl), decide_eq_false (fun z => z c)]
    rfl
  · rw [if_neg c, Option.bind_some, maI 2 s S (by decide) (show s < 12 by omega), Option.bind_some, r2, decide_eq_true c]
    by_cases d : dK D s = 3
    · rw [if_pos d, Option.bind_some, if_pos (Or.inl rfl), decide_eq_false (fun z => z d)]
      rfl
    · rw [if_neg d, Option.bind_some, if_pos (Or.inr rfl), decide_eq_true d]
      rfl
theorem csG {h H : IH} (S : ShM h m ar) (fr : FrCS m ar h H) (gs : MgS h m ar D) (qL : MgL h m ar D) (qR : MgR h m ar D) (gP : MgP h m ar D) (ck : CkM h ar D) : MgS H m ar D ∧ MgL H m ar D ∧ MgR H m ar D ∧ MgP H m ar D ∧ CkM H ar D := ⟨mkGS S fr.toK gs, mkGL S fr.toK qL, mkGR S fr.toK qR, mkGP fr.toK gP, ckCS S fr ck⟩
theorem placeLM {h : IH} (S : ShM h m ar) (hN : 2000 ≤ N) (gs : MgS h m ar D) (qL : MgL h m ar D) (qR : MgR h m ar D) (gP : MgP h m ar D) (wS : WgS D) (w : WgL D) (wR : WgR D) (wP : WgP D) (ck : CkM h ar D) (o : Int32) : ∀ (r k z : Nat) (H : IH), k + r = dn D → r < z → FrCS m ar h H → ∃ h', s_X12_place_L45 N z m o (nI (1 + cnt (plB D o) k)) (nI k) H = some (nI (1 + cnt (plB D o) (dn D)), h') ∧ FrCS m ar h h' := by
  have wn := wS.1
  intro r
  induction r with
  | zero =>
    intro k z H hk hz fr
    obtain ⟨z, rfl⟩ : ∃ y, z = y + 1 := ⟨z - 1, by omega⟩
    have SH := fr.shM S
    obtain ⟨gsH, gLH, gRH, gPH, ckH⟩ := csG S fr gs qL qR gP ck
    have e1 : fI H (1200 + 1) m = nI (dn D) := gsH.1
    rw [s_X12_place_L45.eq_2, mgI 1 SH.1, Option.bind_some, e1, if_pos (nI_le (by omega) (by omega)), show k = dn D by omega]
    exact ⟨H, rfl, fr⟩
  | succ r ih =>
    intro k z H hk hz fr
    obtain ⟨z, rfl⟩ : ∃ y, z = y + 1 := ⟨z - 1, by omega⟩
    have SH := fr.shM S
    have hk' : k < dn D := by omega
    obtain ⟨gsH, gLH, gRH, gPH, ckH⟩ := csG S fr gs qL qR gP ck
    have e1 : fI H (1200 + 1) m = nI (dn D) := gsH.1
    have eC : cnt (plB D o) (k + 1) = cnt (plB D o) k + (if plB D o k = true then 1 else 0) := rfl
    rw [s_X12_place_L45.eq_2, mgI 1 SH.1, Option.bind_some, e1, if_neg (nI_ge (by omega) (by omega)), mV12 SH, placedM SH gsH wn hk', Option.bind_some, nI_1 k]
    cases c : rkB D k with
    | false =>
      have ep : plB D o k = false := by unfold plB; rw [c]; rfl
      obtain ⟨h', e', f'⟩ := ih (k + 1) z H (by omega) (by omega) fr
      rw [eC, ep, if_neg (by decide), Nat.add_zero] at e'
      rw [if_pos (show bI false = 0 from rfl), Option.bind_some, Int32.add_zero]
      exact ⟨h', e', f'⟩
    | true =>
      obtain ⟨H2, e2, f2⟩ := totNM (N := N) SH hN gsH gLH gRH gPH wS w wR wP ckH hk'
      rw [← toX_R wS w hk'] at e2
      obtain ⟨h', e', f'⟩ := ih (k + 1) z H2 (by omega) (by omega) (fr.trans f2)
      rw [if_neg (show ¬ bI true = 0 by decide), mV12 SH, e2, Option.bind_some]
      show ∃ h', ((if (toX D k).getD 0 ≤ o then some (0, H2) else some (1, H2)) : Option (Int32 × IH)).bind (fun q18 => s_X12_place_L45 N z m o (nI (1 + cnt (plB D o) k) + q18.1) (nI (k + 1)) q18.2) = _ ∧ _
      by_cases d : (toX D k).getD 0 ≤ o
      · have ep : plB D o k = false := by unfold plB; rw [c, decide_eq_false (fun z => z d)]; rfl
        rw [eC, ep, if_neg (by decide), Nat.add_zero] at e'
        rw [if_pos d, Option.bind_some, Int32.add_zero]
        exact ⟨h', e', f'⟩
      · have ep : plB D o k = true := by unfold plB; rw [c, decide_eq_true d]; rfl
        rw [eC, ep, if_pos rfl] at e'
        rw [if_neg d, Option.bind_some, nI_1]
        exact ⟨h', e', f'⟩
theorem placeM {h : IH} (S : ShM h m ar) (hN : 1000000 ≤ N) (gs : MgS h m ar D) (qL : MgL h m ar D) (qR : MgR h m ar D) (gP : MgP h m ar D) (gA : MgA h m ar D) (wS : WgS D) (w : WgL D) (wR : WgR D) (wP : WgP D) (ch : ChM h m ar D) (a : Int32) : ∃ h', s_X12_place N h m a = some (plaV D a, h') ∧ OkM h h' m ar D a (plaF D a) := by
  have wn := wS.1
  obtain ⟨H, e, fr, ck, k⟩ := beginM (N := N) S hN gs qL gP gA wS w wP ch a
  have SH := fr.shM S
  have gsH := mkGS S fr gs
  have gLH := mkGL S fr qL
  have gRH := mkGR S fr qR
  have gPH := mkGP fr gP
  unfold s_X12_place plaV plaF
  rw [mV12 S, e, Option.bind_some, mV12 SH, isStationM SH gsH wn a, Option.bind_some]
  rcases stC wn a with ⟨s, hs, rfl⟩ | q
  · rw [if_pos (stIn wn hs), if_neg (show ¬ (1 : Int32) = 0 by decide), mV12 SH, placedM SH gsH wn hs, Option.bind_some, if_pos (stIn wn hs), if_pos (stIn wn hs), nI_clamp (by omega)]
    cases c : rkB D s with
    | false =>
      obtain ⟨h', e', f', g', c'⟩ := foundM SH k (g := 7) (by decide) ck
      rw [if_pos (show bI false = 0 from rfl), mV12 SH, e', Option.bind_some, if_neg (show ¬ false = true by decide), if_neg (show ¬ false = true by decide)]
      exact ⟨h', rfl, fr.trans f', g', c'⟩
    | true =>
      obtain ⟨H2, e2, f2⟩ := totNM (N := N) SH (by omega) gsH gLH gRH gPH wS w wR wP ck hs
      rw [← toX_R wS w hs] at e2
      obtain ⟨H3, e3, f3⟩ := placeLM (N := N) SH (by omega) gsH gLH gRH gPH wS w wR wP ck ((toX D s).getD 0) (dn D) 0 N H2 (by omega) (by omega) f2
      rw [nI_0] at e3
      have e3 : s_X12_place_L45 N N m ((toX D s).getD 0) 1 0 H2 = some (nI (1 + plN D s (dn D)), H3) := e3
      have k3 : AkM H3 m D (nI s) 0 := k.fr f3 (fun f z => by unfold ptF at z; omega)
      rw [if_neg (show ¬ bI true = 0 by decide), if_pos rfl, if_pos rfl, mV12 SH, e2, Option.bind_some]
      show ∃ h', ((s_X12_place_L45 N N m ((toX D s).getD 0) 1 0 H2).bind fun q20 => some (q20.1, q20.2)) = _ ∧ _
      rw [e3, Option.bind_some]
      exact ⟨H3, rfl, fr.trans f3.toK, k3.ok, ckCS SH f3 ck⟩
  · obtain ⟨h', e', f', g', c'⟩ := foundM SH k (g := 4) (by decide) ck
    rw [if_neg q, if_pos rfl, mV12 SH, e', Option.bind_some, if_neg q, if_neg q]
    exact ⟨h', rfl, fr.trans f', g', c'⟩
end
