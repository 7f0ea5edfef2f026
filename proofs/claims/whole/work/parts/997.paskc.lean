/-! ===== asks about what was checked ===== -/
noncomputable def offV (D : Dt) (a : Int32) : Int64 := if rsH D a = 0 then Int64.ofInt (offX D a.toNatClampNeg) else 0
noncomputable def parV (D : Dt) (a b i : Int32) : Int32 := if rsC D a b i = 0 then (match parF D (eOf a b i) with
  | none => -1
  | some d => nI (100 * (d / 48) + d % 16)) else 0
noncomputable def whyV (D : Dt) (a b i : Int32) : Int32 := if rsC D a b i = 0 then nI (whyF D (eOf a b i)) else 0
noncomputable def meaV (D : Dt) (a b i : Int32) : Int32 := if rsC D a b i = 0 then oI (meX D (eOf a b i)) else 0
noncomputable def ptO (D : Dt) (e : Nat) : Option Int32 := match tgO D e with
  | none => some 0
  | some _ => ptV D e
noncomputable def poiV (D : Dt) (a b i : Int32) : Int32 := if rsC D a b i = 0 then (ptO D (eOf a b i)).getD 0 else 0
noncomputable def poiF (D : Dt) (a b i : Int32) : Int32 := if rsC D a b i = 0 then (if ptO D (eOf a b i) = none then 5 else 0) else rsC D a b i
theorem nI_modn {a b : Nat} (ha : a < 2147483648) (hb : b < 2147483648) (h0 : 0 < b) : nI a - nI a / nI b * nI b = nI (a % b) := by
  rw [nI_div ha hb h0, nI_mul]
  have e : nI a = nI (a % b) + nI (a / b * b) := by
    rw [nI_add]
    congr 1
    have := Nat.mod_add_div a b
    rw [Nat.mul_comm] at this
    omega
  rw [e, Int32.add_sub_cancel]
theorem meX_3 {D : Dt} {e : Nat} : oI (meX D e) = if whyF D e = 3 then oI (meaF D e) else -1 := by
  unfold meX
  by_cases c : tgO D e = none ∧ whB D e = true
  · have p0 : parF D e = none := parF_no (Or.inl c.1)
    rw [if_pos c]
    cases m : meaF D e with
    | none =>
      rw [whyF_4 p0 c.2 c.1 m]
      by_cases d : stN D e < 3
      · rw [if_pos d, if_neg (by decide)]; rfl
      · rw [if_neg d, if_neg (by decide)]; rfl
    | some t => rw [whyF_3 p0 c.2 c.1 m, if_pos rfl]
  · have w3 : ¬ whyF D e = 3 := fun z => by
      cases p : parF D e with
      | some d =>
        rw [whyF_p (by rw [p]; exact fun y => by cases y)] at z
        split at z <;> omega
      | none =>
        cases q : whB D e with
        | false => rw [whyF_2 p q] at z; omega
        | true =>
          cases t : tgO D e with
          | none => exact c ⟨t, q⟩
          | some t' =>
            rw [whyF_5 p q t] at z
            split at z <;> omega
    rw [if_neg c, if_neg w3]
    rfl
section
variable {m : Nat} {ar : Nat → Nat} {N : Nat} {D : Dt}
theorem offM_X {D : Dt} {s : Nat} {v : Int64} (h : v.toInt = offX D s) : v = Int64.ofInt (offX D s) := by
  rw [← h, Int64.ofInt_toInt]
theorem offsetMM {h : IH} (S : ShM h m ar) (hN : 1000000 ≤ N) (gs : MgS h m ar D) (qL : MgL h m ar D) (gP : MgP h m ar D) (gA : MgA h m ar D) (wS : WgS D) (w : WgL D) (wP : WgP D) (ch : ChM h m ar D) (a : Int32) : ∃ h', s_X12_offset N h m a = some (offV D a, h') ∧ OkM h h' m ar D a (rsH D a) := by
  have wn := wS.1
  obtain ⟨H, e, fr, ck, k⟩ := beginM (N := N) S hN gs qL gP gA wS w wP ch a
  have SH := fr.shM S
  have gsH := mkGS S fr gs
  have gLH := mkGL S fr qL
  unfold s_X12_offset offV
  rw [mV12 S, e, Option.bind_some, mV12 SH, isStationM SH gsH wn a, Option.bind_some]
  rcases stC wn a with ⟨s, hs, rfl⟩ | q
  · have er : rsH D (nI s) = if hlB D s = true then 0 else 7 := by unfold rsH; rw [if_pos (stIn wn hs), nI_clamp (by omega)]
    rw [if_pos (stIn wn hs), if_neg (show ¬ (1 : Int32) = 0 by decide), mV12 SH, hasLogM SH gsH gLH wS w hs, Option.bind_some, er, nI_clamp (by omega)]
    cases c : hlB D s with
    | false =>
      obtain ⟨h', e', f', g', c'⟩ := foundM SH k (g := 7) (by decide) ck
      rw [if_pos (show bI false = 0 from rfl), if_neg (show ¬ false = true by decide), if_neg (show ¬ (7 : Int32) = 0 by decide), mV12 SH, e', Option.bind_some, Option.bind_some]
      exact ⟨h', rfl, fr.trans f', g', c'⟩
    | true =>
      rw [if_neg (show ¬ bI true = 0 by decide), if_pos rfl, if_pos rfl, mgR 20 SH (by decide), Option.bind_some, maJ 20 s SH (by decide) (show s < 12 by omega), Option.bind_some, Option.bind_some]
      refine ⟨H, ?_, fr, k.ok, ck⟩
      rw [offM_X (ck.2.1 s hs).1]
  · have er : rsH D a = 4 := by unfold rsH; rw [if_neg q]
    obtain ⟨h', e', f', g', c'⟩ := foundM SH k (g := 4) (by decide) ck
    rw [if_neg q, if_pos rfl, mV12 SH, e', Option.bind_some, er, if_neg (show ¬ (4 : Int32) = 0 by decide)]
    exact ⟨h', rfl, fr.trans f', g', c'⟩
theorem pairMM {h : IH} (S : ShM h m ar) (hN : 1000000 ≤ N) (gs : MgS h m ar D) (qL : MgL h m ar D) (gP : MgP h m ar D) (gA : MgA h m ar D) (wS : WgS D) (w : WgL D) (wP : WgP D) (ch : ChM h m ar D) (a b i : Int32) : ∃ h', s_X12_pair N h m a b i = some (parV D a b i, h') ∧ OkM h h' m ar D a (rsC D a b i) := by
  have wn := wS.1
  obtain ⟨H, e, fr, ck, k⟩ := beginM (N := N) S hN gs qL gP gA wS w wP ch a
  have SH := fr.shM S
  have gsH := mkGS S fr gs
  have gLH := mkGL S fr qL
  unfold s_X12_pair parV
  rw [mV12 S, e, Option.bind_some, mV12 SH, rsCM SH gsH gLH wn w a b i, Option.bind_some]
  by_cases c : rsC D a b i = 0
  · obtain ⟨s, l, j, hs, hl, hj, h16, ea, eb, ei, ee, ct, _⟩ := rsC_0 wn w c
    have he : 16 * (3 * s + l) + j < 576 := by omega
    unfold s_X12_entryAt
    rw [c, if_pos le00, if_pos rfl, ee]
    subst ea eb ei
    rw [mgR 19 SH (by decide), Option.bind_some, ix48, Option.bind_some, maI 19 _ SH (by decide) (show 16 * (3 * s + l) + j < 576 from he), Option.bind_some, ck.2.2 _ he]
    cases p : parF D (16 * (3 * s + l) + j) with
    | none =>
      rw [if_neg (show ¬ 0 ≤ oI none by decide), Option.bind_some]
      exact ⟨H, rfl, fr, k.ok, ck⟩
    | some d =>
      have hd := parF_lt wn p
      have ev : (100 : Int32) * (nI d / 48) + (nI d - nI d / 16 * 16) = nI (100 * (d / 48) + d % 16) := by
        rw [show (16 : Int32) = nI 16 from rfl, nI_modn (by omega) (by omega) (by omega), show (48 : Int32) = nI 48 from rfl, nI_div (by omega) (by omega) (by omega), show (100 : Int32) = nI 100 from rfl, nI_mul, nI_add]
      rw [show oI (some d) = nI d from rfl, if_pos (nI_pos' (by omega)), Option.bind_some, ev]
      exact ⟨H, rfl, fr, k.ok, ck⟩
  · obtain ⟨h', e', f', g', c'⟩ := foundM SH k c ck
    rw [if_neg (rsC_p D a b i c), mV12 SH, e', Option.bind_some, if_neg c]
    exact ⟨h', rfl, fr.trans f', g', c'⟩
theorem whyMM {h : IH} (S : ShM h m ar) (hN : 1000000 ≤ N) (gs : MgS h m ar D) (qL : MgL h m ar D) (gP : MgP h m ar D) (gA : MgA h m ar D) (wS : WgS D) (w : WgL D) (wP : WgP D) (ch : ChM h m ar D) (a b i : Int32) : ∃ h', s_X12_why N h m a b i = some (whyV D a b i, h') ∧ OkM h h' m ar D a (rsC D a b i) := by
  have wn := wS.1
  obtain ⟨H, e, fr, ck, k⟩ := beginM (N := N) S hN gs qL gP gA wS w wP ch a
  have SH := fr.shM S
  have gsH := mkGS S fr gs
  have gLH := mkGL S fr qL
  have gPH := mkGP fr gP
  unfold s_X12_why whyV
  rw [mV12 S, e, Option.bind_some, mV12 SH, rsCM SH gsH gLH wn w a b i, Option.bind_some]
  by_cases c : rsC D a b i = 0
  · obtain ⟨s, l, j, hs, hl, hj, h16, ea, eb, ei, ee, ct, _⟩ := rsC_0 wn w c
    have he : 16 * (3 * s + l) + j < 576 := by omega
    unfold s_X12_entryAt
    rw [c, if_pos le00, if_pos rfl, ee]
    subst ea eb ei
    rw [ix48, Option.bind_some, mV12 SH, whyM SH (by omega) gsH gLH gPH wS w wP ck he ct, Option.bind_some, Option.bind_some]
    exact ⟨H, rfl, fr, k.ok, ck⟩
  · obtain ⟨h', e', f', g', c'⟩ := foundM SH k c ck
    rw [if_neg (rsC_p D a b i c), mV12 SH, e', Option.bind_some, Option.bind_some, if_neg c]
    exact ⟨h', rfl, fr.trans f', g', c'⟩
theorem meantMM {h : IH} (S : ShM h m ar) (hN : 1000000 ≤ N) (gs : MgS h m ar D) (qL : MgL h m ar D) (gP : MgP h m ar D) (gA : MgA h m ar D) (wS : WgS D) (w : WgL D) (wP : WgP D) (ch : ChM h m ar D) (a b i : Int32) : ∃ h', s_X12_meant N h m a b i = some (meaV D a b i, h') ∧ OkM h h' m ar D a (rsC D a b i) := by
  have wn := wS.1
  obtain ⟨H, e, fr, ck, k⟩ := beginM (N := N) S hN gs qL gP gA wS w wP ch a
  have SH := fr.shM S
  have gsH := mkGS S fr gs
  have gLH := mkGL S fr qL
  have gPH := mkGP fr gP
  unfold s_X12_meant meaV
  rw [mV12 S, e, Option.bind_some, mV12 SH, rsCM SH gsH gLH wn w a b i, Option.bind_some]
  by_cases c : rsC D a b i = 0
  · obtain ⟨s, l, j, hs, hl, hj, h16, ea, eb, ei, ee, ct, _⟩ := rsC_0 wn w c
    have he : 16 * (3 * s + l) + j < 576 := by omega
    have w6 := whyF_le D (16 * (3 * s + l) + j)
    have i3 : nI (whyF D (16 * (3 * s + l) + j)) = 3 ↔ whyF D (16 * (3 * s + l) + j) = 3 := nI_eq (b := 3) (by omega) (by omega)
    unfold s_X12_entryAt
    rw [c, if_pos le00, if_pos rfl, ee]
    subst ea eb ei
    rw [ix48, Option.bind_some, mV12 SH, whyM SH (by omega) gsH gLH gPH wS w wP ck he ct, Option.bind_some, meX_3]
    by_cases d : whyF D (16 * (3 * s + l) + j) = 3
    · rw [if_pos (i3.mpr d), if_pos d, mV12 SH, meantM SH (by omega) gsH gLH gPH wS w wP ck he ct, Option.bind_some, Option.bind_some]
      exact ⟨H, rfl, fr, k.ok, ck⟩
    · rw [if_neg (fun z => d (i3.mp z)), if_neg d, Option.bind_some]
      exact ⟨H, rfl, fr, k.ok, ck⟩
  · obtain ⟨h', e', f', g', c'⟩ := foundM SH k c ck
    rw [if_neg (rsC_p D a b i c), mV12 SH, e', Option.bind_some, if_neg c]
    exact ⟨h', rfl, fr.trans f', g', c'⟩
theorem pointsMM {h : IH} (S : ShM h m ar) (hN : 1000000 ≤ N) (gs : MgS h m ar D) (qL : MgL h m ar D) (qR : MgR h m ar D) (gP : MgP h m ar D) (gA : MgA h m ar D) (wS : WgS D) (w : WgL D) (wR : WgR D) (wP : WgP D) (ch : ChM h m ar D) (a b i : Int32) : ∃ h', s_X12_points N h m a b i = some (poiV D a b i, h') ∧ OkM h h' m ar D a (poiF D a b i) := by
  have wn := wS.1
  obtain ⟨H, e, fr, ck, k⟩ := beginM (N := N) S hN gs qL gP gA wS w wP ch a
  have SH := fr.shM S
  have gsH := mkGS S fr gs
  have gLH := mkGL S fr qL
  unfold s_X12_points poiV poiF
  rw [mV12 S, e, Option.bind_some, mV12 SH, rsCM SH gsH gLH wn w a b i, Option.bind_some]
  by_cases c : rsC D a b i = 0
  · obtain ⟨s, l, j, hs, hl, hj, h16, ea, eb, ei, ee, ct, _⟩ := rsC_0 wn w c
    have he : 16 * (3 * s + l) + j < 576 := by omega
    unfold s_X12_entryAt
    rw [c, if_pos le00, if_pos rfl, if_pos rfl, ee]
    subst ea eb ei
    rw [ix48, mpZ 52 SH.1 (Or.inl rfl), Option.bind_some, Option.bind_some]
    have f1 : FrPT m ar H (wfI H 1252 m 0) := Fr.wI _ _ _ _ ⟨by unfold ptF; omega, rfl⟩
    have z1 : fI (wfI H 1252 m 0) 1252 m = 0 := fI_wfI _ _ _ _
    show ∃ h', ((cV (wfI H 1252 m 0) 12 (some m) fun a12 => s_X12_pointsOf N (wfI H 1252 m 0) a12 (nI (16 * (3 * s + l) + j))).bind fun v6 => (gI v6.2 12 52 (some m)).bind fun v7 => ((if v7 = 0 then some (v6.1, v6.2) else (cV v6.2 12 (some m) fun a10 => s_X12_found v6.2 a10 5).bind fun v9 => some (v9.1, v9.2)) : Option (Int32 × IH)).bind fun q11 => some (q11.1, q11.2)) = _ ∧ _
    generalize wfI H 1252 m 0 = H1 at f1 z1 ⊢
    have S1 := f1.shM SH
    have fr1 := fr.trans f1.toK
    have gs1 := mkGS S fr1 gs
    have gR1 := mkGR S fr1 qR
    have ck1 : CkM H1 ar D := ck.fr SH f1 no1_row no1_row (fun z => z) (fun z => z) (fun z => z)
    have k1 : AkM H1 m D (nI s) 0 := k.fr f1 (fun f z => by unfold ptF at z; omega)
    rw [mV12 S1]
    unfold ptO
    cases t1 : tgO D (16 * (3 * s + l) + j) with
    | none =>
      have ep : s_X12_pointsOf N H1 m (nI (16 * (3 * s + l) + j)) = some (0, H1) := by
        unfold s_X12_pointsOf
        rw [mgR 18 S1 (by decide), Option.bind_some, maI 18 _ S1 (by decide) (show 16 * (3 * s + l) + j < 576 from he), Option.bind_some, ck1.1 _ he, t1, if_neg (show ¬ 0 ≤ oI none by decide)]
      have z1' : fI H1 (1200 + 52) m = 0 := z1
      rw [ep, Option.bind_some]
      show ∃ h', ((gI H1 12 52 (some m)).bind fun v7 => ((if v7 = 0 then some (0, H1) else (cV H1 12 (some m) fun a10 => s_X12_found H1 a10 5).bind fun v9 => some (v9.1, v9.2)) : Option (Int32 × IH)).bind fun q11 => some (q11.1, q11.2)) = _ ∧ _
      rw [mgI 52 S1.1, Option.bind_some, z1', if_pos rfl, Option.bind_some]
      exact ⟨H1, rfl, fr1, k1.ok, ck1⟩
    | some t =>
      obtain ⟨x, H2, e2, f2, fl2, wk⟩ := pointsM (N := N) S1 (by omega) gs1 gR1 wS w wR ck1.1 he t1 (Or.inl z1)
      obtain ⟨wk1, wk2⟩ := wk.2 rfl
      have S2 := f2.shM S1
      have ck2 : CkM H2 ar D := ck1.fr S1 f2 no1_row no1_row (fun z => z) (fun z => z) (fun z => z)
      have k2 : AkM H2 m D (nI s) 0 := k1.fr f2 (fun f z => by unfold ptF at z; omega)
      rw [e2, Option.bind_some]
      show ∃ h', ((gI H2 12 52 (some m)).bind fun v7 => ((if v7 = 0 then some (x, H2) else (cV H2 12 (some m) fun a10 => s_X12_found H2 a10 5).bind fun v9 => some (v9.1, v9.2)) : Option (Int32 × IH)).bind fun q11 => some (q11.1, q11.2)) = some (Option.getD (ptV D (16 * (3 * s + l) + j)) 0, h') ∧ OkM h h' m ar D (nI s) (if ptV D (16 * (3 * s + l) + j) = none then 5 else 0)
      rw [mgI 52 S2.1, Option.bind_some]
      cases p : ptV D (16 * (3 * s + l) + j) with
      | none =>
        obtain ⟨h', e', f', g', c'⟩ := foundM S2 k2 (g := 5) (by decide) ck2
        have nz : ¬ fI H2 (1200 + 52) m = 0 := wk1.mpr (Or.inr p)
        rw [if_neg nz, mV12 S2, e', Option.bind_some, Option.bind_some, if_pos rfl]
        exact ⟨h', rfl, (fr1.trans f2.toK).trans f', g', c'⟩
      | some u =>
        have z2 : fI H2 (1200 + 52) m = 0 := Decidable.byContradiction (fun y => by
          rcases wk1.mp y with y1 | y1
          · exact y1 z1
          · rw [p] at y1; cases y1)
        rw [if_pos z2, Option.bind_some, wk2 u p, if_neg (fun y => by cases y)]
        exact ⟨H2, rfl, fr1.trans f2.toK, k2.ok, ck2⟩
  · obtain ⟨h', e', f', g', c'⟩ := foundM SH k c ck
    rw [if_neg (rsC_p D a b i c), mV12 SH, e', Option.bind_some, if_neg c, if_neg c]
    exact ⟨h', rfl, fr.trans f', g', c'⟩
end
section
variable {A : Nat → Nat} {n N : Nat} {D : Dt}
theorem rfGS {h h' : IH} (x : FrRF A h h') (g : XgS h A D) : XgS h' A D := g.fr x (fun f z => by unfold rfF at z; omega) (fun z => by cases z)
theorem rfGL {h h' : IH} (x : FrRF A h h') (g : XgL h A D) : XgL h' A D := g.fr x (fun f z => by unfold rfF at z; omega) (fun f z => by cases z; omega)
theorem rfGA {h h' : IH} (x : FrRF A h h') (g : XgA h A D) : XgA h' A D := g.fr x (fun f z => by unfold rfF at z; omega)
theorem rfGP {h h' : IH} (x : FrRF A h h') (g : XgP h A D) : XgP h' A D := g.fr x (by unfold rfF; omega) (by unfold rfF; omega)
theorem rfGR {h h' : IH} (S : ShX h A n) (x : FrRF A h h') (g : XgR h A D) : XgR h' A D := g.fr S x rfR_lv (by unfold rfF; omega) (by unfold rfR puR; omega)
theorem ckK {h h' : IH} (x : FrK A h h') (c : CkX h A D) : CkX h' A D := c.fr x (by unfold akF; omega) (by unfold akF; omega) (by unfold akF; omega) (fun z => z)
theorem wyK {h h' : IH} (x : FrK A h h') (c : WyX h A D) : WyX h' A D := c.fr x (by unfold akF; omega) (by unfold akF; omega)
theorem okXc {h h1 h' : IH} {a f : Int32} (f1 : FrRF A h h1) (f2 : FrK A h1 h') (x : XgA h' A (akD D a f)) (ck : CkX h1 A D) (wy : WyX h1 A D) : OkX h h' A D a f := ⟨f1.toK.trans f2.toK, x, fun _ => ⟨ckK f2 ck, wyK f2 wy⟩⟩
theorem kGL {h h' : IH} (x : FrK A h h') (g : XgL h A D) : XgL h' A D := g.fr x (fun f z => by unfold akF at z; omega) (fun f z => z.elim)
theorem kGS {h h' : IH} (x : FrK A h h') (g : XgS h A D) : XgS h' A D := g.fr x (fun f z => by unfold akF at z; omega) (fun z => z)
theorem offsetXX {h : IH} (S : ShX h A n) (hN : 2000 ≤ N) (hn : n = dn D) (gs : XgS h A D) (qL : XgL h A D) (gP : XgP h A D) (gA : XgA h A D) (wS : WgS D) (w : WgL D) (wP : WgP D) (hd : dop D < 1000000) (ch : ChX h A D) (a : Int32) : ∃ h', s_X11_offset N h (A 0) a = some (offV D a, h') ∧ OkX h h' A D a (rsH D a) := by
  obtain ⟨h1, e1, f1, ck, wy⟩ := refreshX (N := N) S hN hn gs qL gP wS w wP ch
  have S1 := f1.shX S
  obtain ⟨H, e, fr, k⟩ := askedHaX (N := N) S1 hN hn (rfGS f1 gs) (rfGL f1 qL) (rfGA f1 gA) a
  subst hn
  have wn := S.1
  have SH := fr.shX S1
  have fin : ∀ v : Int64, ∃ h', s_X11_answered H (A 0) v = some (if rsH D a = 0 then v else 0, h') ∧ OkX h h' A D a (rsH D a) := fun v => by
    obtain ⟨h', e', f', x⟩ := answX SH k hd v
    exact ⟨h', e', okXc f1 (fr.trans f') x ck wy⟩
  unfold s_X11_offset offV
  rw [gX11_4 S, Option.bind_some, vX0 S, e1, Option.bind_some, vX11 S1, e, Option.bind_some]
  by_cases c : rsH D a = 0
  · obtain ⟨s, hs, rfl⟩ : ∃ s, s < dn D ∧ a = nI s := by
      rcases stC wn a with z | q
      · exact z
      · unfold rsH at c
        rw [if_neg q] at c
        cases c
    have eo : fL H 908 (A (100 + s)) = Int64.ofInt (offX D s) := offM_X ((ckK fr ck).2.1 s hs).1
    obtain ⟨h', e', ok⟩ := fin (Int64.ofInt (offX D s))
    rw [if_pos c] at e'
    rw [if_pos c, if_pos c, nI_clamp (by omega)]
    show ∃ h', (((if some (A (100 + s)) = none then some 0 else (gL H 9 8 (some (A (100 + s)))).bind fun v5 => some v5) : Option (Int64)).bind fun q6 => (cV H 11 (some (A 0)) fun a8 => s_X11_answered H a8 q6).bind fun v7 => some (v7.1, v7.2)) = _ ∧ _
    rw [if_neg (fun z => by cases z), gX9_8 SH hs, Option.bind_some, eo, Option.bind_some, vX11 SH, e', Option.bind_some]
    exact ⟨h', rfl, ok⟩
  · obtain ⟨h', e', ok⟩ := fin 0
    rw [if_neg c] at e'
    rw [if_neg c, if_neg c]
    show ∃ h', (((if (none : Option Nat) = none then some 0 else (gL H 9 8 none).bind fun v5 => some v5) : Option (Int64)).bind fun q6 => (cV H 11 (some (A 0)) fun a8 => s_X11_answered H a8 q6).bind fun v7 => some (v7.1, v7.2)) = _ ∧ _
    rw [if_pos rfl, Option.bind_some, vX11 SH, e', Option.bind_some]
    exact ⟨h', rfl, ok⟩
theorem pairXX {h : IH} (S : ShX h A n) (hN : 2000 ≤ N) (hn : n = dn D) (gs : XgS h A D) (qL : XgL h A D) (gP : XgP h A D) (gA : XgA h A D) (wS : WgS D) (w : WgL D) (wP : WgP D) (hd : dop D < 1000000) (ch : ChX h A D) (a b i : Int32) : ∃ h', s_X11_pair N h (A 0) a b i = some (parV D a b i, h') ∧ OkX h h' A D a (rsC D a b i) := by
  obtain ⟨h1, e1, f1, ck, wy⟩ := refreshX (N := N) S hN hn gs qL gP wS w wP ch
  have S1 := f1.shX S
  obtain ⟨H, e, fr, k⟩ := askedCoX S1 hn (rfGS f1 gs) (rfGL f1 qL) (rfGA f1 gA) w a b i
  subst hn
  have wn := S.1
  have SH := fr.shX S1
  have ckH := ckK fr ck
  have fin : ∀ v : Int64, ∃ h', s_X11_answered H (A 0) v = some (if rsC D a b i = 0 then v else 0, h') ∧ OkX h h' A D a (rsC D a b i) := fun v => by
    obtain ⟨h', e', f', x⟩ := answX SH k hd v
    exact ⟨h', e', okXc f1 (fr.trans f') x ck wy⟩
  unfold s_X11_pair parV
  rw [gX11_4 S, Option.bind_some, vX0 S, e1, Option.bind_some, vX11 S1, e, Option.bind_some]
  by_cases c : rsC D a b i = 0
  · obtain ⟨s, l, j, hs, hl, hj, h16, ea, eb, ei, ee, ct, _⟩ := rsC_0 wn w c
    have he : (16 * (3 * s + l) + j) / 16 < 3 * dn D := by omega
    have kE := kEn SH he
    have pp := pairedX SH rfl ckH.2.2 he ct
    have ma := ckH.2.2 _ he ct
    rw [c] at fin
    rw [c, if_pos rfl, if_pos rfl, ee]
    show ∃ h', (if some (A (1000 + (16 * (3 * s + l) + j))) = none then _ else (cV H 2 (some (A (1000 + (16 * (3 * s + l) + j)))) fun a14 => s_X2_isPaired H a14).bind fun v7 => ((if v7 = 0 then some (-1) else (gI H 2 7 (some (A (1000 + (16 * (3 * s + l) + j))))).bind fun v9 => (gI H 2 8 (some (A (1000 + (16 * (3 * s + l) + j))))).bind fun v10 => some (((100 * v9) + v10).toInt64)) : Option (Int64)).bind fun q11 => (cV H 11 (some (A 0)) fun a13 => s_X11_answered H a13 q11).bind fun v12 => some (v12.1.toInt32, v12.2)) = _ ∧ _
    rw [if_neg (fun z => by cases z), cV_ok (c := 2) _ kE, pp, Option.bind_some]
    cases p : parF D (16 * (3 * s + l) + j) with
    | none =>
      obtain ⟨h', e', ok⟩ := fin (-1)
      rw [if_pos rfl] at e'
      rw [decide_eq_false (fun z => z rfl), if_pos (show bI false = 0 from rfl), Option.bind_some, vX11 SH, e', Option.bind_some]
      exact ⟨h', rfl, ok⟩
    | some d =>
      rw [p] at ma
      have e7 : fI H (100 * 2 + 7) (A (1000 + (16 * (3 * s + l) + j))) = nI (d / 48) := ma.1
      have e8 : fI H (100 * 2 + 8) (A (1000 + (16 * (3 * s + l) + j))) = nI (d % 16) := ma.2 d rfl
      obtain ⟨h', e', ok⟩ := fin (nI (100 * (d / 48) + d % 16)).toInt64
      rw [if_pos rfl] at e'
      rw [decide_eq_true (fun z => by cases z), if_neg (show ¬ bI true = 0 by decide), gI_ok (c := 2) 7 kE, Option.bind_some, gI_ok (c := 2) 8 kE, Option.bind_some, e7, e8, show (100 : Int32) = nI 100 from rfl, nI_mul, nI_add, Option.bind_some, vX11 SH, e', Option.bind_some, bk32]
      exact ⟨h', rfl, ok⟩
  · obtain ⟨h', e', ok⟩ := fin 0
    rw [if_neg c] at e'
    rw [if_neg c, if_neg c]
    show ∃ h', (if (none : Option Nat) = none then (cV H 11 (some (A 0)) fun a6 => s_X11_answered H a6 0).bind fun v5 => some (v5.1.toInt32, v5.2) else _) = _ ∧ _
    rw [if_pos rfl, vX11 SH, e', Option.bind_some]
    exact ⟨h', rfl, ok⟩
theorem whyXX {h : IH} (S : ShX h A n) (hN : 2000 ≤ N) (hn : n = dn D) (gs : XgS h A D) (qL : XgL h A D) (gP : XgP h A D) (gA : XgA h A D) (wS : WgS D) (w : WgL D) (wP : WgP D) (hd : dop D < 1000000) (ch : ChX h A D) (a b i : Int32) : (∃ h', s_X11_why N h (A 0) a b i = some (whyV D a b i, h') ∧ OkX h h' A D a (rsC D a b i)) ∧ (∃ h', s_X11_meant N h (A 0) a b i = some (meaV D a b i, h') ∧ OkX h h' A D a (rsC D a b i)) := by
  obtain ⟨h1, e1, f1, ck, wy⟩ := refreshX (N := N) S hN hn gs qL gP wS w wP ch
  have S1 := f1.shX S
  obtain ⟨H, e, fr, k⟩ := askedCoX S1 hn (rfGS f1 gs) (rfGL f1 qL) (rfGA f1 gA) w a b i
  subst hn
  have wn := S.1
  have SH := fr.shX S1
  have wyH := wyK fr wy
  have fin : ∀ v : Int64, ∃ h', s_X11_answered H (A 0) v = some (if rsC D a b i = 0 then v else 0, h') ∧ OkX h h' A D a (rsC D a b i) := fun v => by
    obtain ⟨h', e', f', x⟩ := answX SH k hd v
    exact ⟨h', e', okXc f1 (fr.trans f') x ck wy⟩
  unfold s_X11_why whyV s_X11_meant meaV
  rw [gX11_4 S, Option.bind_some, Option.bind_some, vX0 S, e1, Option.bind_some, Option.bind_some, vX11 S1, e, Option.bind_some, Option.bind_some]
  by_cases c : rsC D a b i = 0
  · obtain ⟨s, l, j, hs, hl, hj, h16, ea, eb, ei, ee, ct, _⟩ := rsC_0 wn w c
    have he : (16 * (3 * s + l) + j) / 16 < 3 * dn D := by omega
    have kE := kEn SH he
    have e9 : fI H (100 * 2 + 9) (A (1000 + (16 * (3 * s + l) + j))) = nI (whyF D (16 * (3 * s + l) + j)) := (wyH _ he ct).1
    have e10 : fI H (100 * 2 + 10) (A (1000 + (16 * (3 * s + l) + j))) = oI (meX D (16 * (3 * s + l) + j)) := (wyH _ he ct).2
    constructor
    · obtain ⟨h', e', ok⟩ := fin (nI (whyF D (16 * (3 * s + l) + j))).toInt64
      rw [if_pos c] at e'
      rw [if_pos c, if_pos c, ee]
      show ∃ h', (((if some (A (1000 + (16 * (3 * s + l) + j))) = none then some 0 else (gI H 2 9 (some (A (1000 + (16 * (3 * s + l) + j))))).bind fun v5 => some v5.toInt64) : Option (Int64)).bind fun q6 => (cV H 11 (some (A 0)) fun a8 => s_X11_answered H a8 q6).bind fun v7 => some (v7.1.toInt32, v7.2)) = _ ∧ _
      rw [if_neg (fun z => by cases z), gI_ok (c := 2) 9 kE, Option.bind_some, e9, Option.bind_some, vX11 SH, e', Option.bind_some, bk32]
      exact ⟨h', rfl, ok⟩
    · obtain ⟨h', e', ok⟩ := fin (oI (meX D (16 * (3 * s + l) + j))).toInt64
      rw [if_pos c] at e'
      rw [if_pos c, if_pos c, ee]
      show ∃ h', (((if some (A (1000 + (16 * (3 * s + l) + j))) = none then some 0 else (gI H 2 10 (some (A (1000 + (16 * (3 * s + l) + j))))).bind fun v5 => some v5.toInt64) : Option (Int64)).bind fun q6 => (cV H 11 (some (A 0)) fun a8 => s_X11_answered H a8 q6).bind fun v7 => some (v7.1.toInt32, v7.2)) = _ ∧ _
      rw [if_neg (fun z => by cases z), gI_ok (c := 2) 10 kE, Option.bind_some, e10, Option.bind_some, vX11 SH, e', Option.bind_some, bk32]
      exact ⟨h', rfl, ok⟩
  · obtain ⟨h', e', ok⟩ := fin 0
    rw [if_neg c] at e'
    constructor
    · rw [if_neg c, if_neg c]
      show ∃ h', (((if (none : Option Nat) = none then some 0 else (gI H 2 9 none).bind fun v5 => some v5.toInt64) : Option (Int64)).bind fun q6 => (cV H 11 (some (A 0)) fun a8 => s_X11_answered H a8 q6).bind fun v7 => some (v7.1.toInt32, v7.2)) = _ ∧ _
      rw [if_pos rfl, Option.bind_some, vX11 SH, e', Option.bind_some]
      exact ⟨h', rfl, ok⟩
    · rw [if_neg c, if_neg c]
      show ∃ h', (((if (none : Option Nat) = none then some 0 else (gI H 2 10 none).bind fun v5 => some v5.toInt64) : Option (Int64)).bind fun q6 => (cV H 11 (some (A 0)) fun a8 => s_X11_answered H a8 q6).bind fun v7 => some (v7.1.toInt32, v7.2)) = _ ∧ _
      rw [if_pos rfl, Option.bind_some, vX11 SH, e', Option.bind_some]
      exact ⟨h', rfl, ok⟩
theorem pointsXX {h : IH} (S : ShX h A n) (hN : 2000 ≤ N) (hn : n = dn D) (gs : XgS h A D) (qL : XgL h A D) (qR : XgR h A D) (gA : XgA h A D) (wS : WgS D) (w : WgL D) (wR : WgR D) (hd : dop D < 1000000) (ch : ChX h A D) (a b i : Int32) : ∃ h', s_X11_points N h (A 0) a b i = some (poiV D a b i, h') ∧ OkX h h' A D a (poiF D a b i) := by
  obtain ⟨H, e, fr, k⟩ := askedCoX S hn gs qL gA w a b i
  subst hn
  have wn := S.1
  have SH := fr.shX S
  have gLH := kGL fr qL
  have gsH := kGS fr gs
  have gRH : XgR H A D := qR.fr S fr (fun _ z => z.elim) (by unfold akF; omega) (fun z => z)
  unfold s_X11_points poiV poiF
  rw [vX11 S, e, Option.bind_some]
  show ∃ h', ((gR H 11 1 (some (A 0))).bind fun v2 => (cV H 7 v2 fun a22 => s_X7_at H a22 a).bind fun v3 => if (if rsC D a b i = 0 then some (A (1000 + eOf a b i)) else none) = none then (cV H 11 (some (A 0)) fun a6 => s_X11_answered H a6 0).bind fun v5 => some (v5.1.toInt32, v5.2) else if v3 = none then (cV H 11 (some (A 0)) fun a9 => s_X11_answered H a9 0).bind fun v8 => some (v8.1.toInt32, v8.2) else (gR H 11 3 (some (A 0))).bind fun v10 => (gR H 11 1 (some (A 0))).bind fun v11 => (gR H 11 1 (some (A 0))).bind fun v12 => (gL H 2 3 (if rsC D a b i = 0 then some (A (1000 + eOf a b i)) else none)).bind fun v13 => (cV H 7 v12 fun a21 => s_X7_numberOf N H a21 v13).bind fun v14 => (cV H 7 v11 fun a20 => s_X7_at H a20 v14).bind fun v15 => (cV H 3 v10 fun a19 => s_X3_valueFor N H a19 b v3 v15).bind fun v16 => (cV v16.2 11 (some (A 0)) fun a18 => s_X11_answeredSum v16.2 a18 v16.1).bind fun v17 => some (v17.1.toInt32, v17.2)) = _ ∧ _
  rw [gX11_1 SH, Option.bind_some, vX7 SH]
  by_cases c : rsC D a b i = 0
  · obtain ⟨s, l, j, hs, hl, hj, h16, ea, eb, ei, ee, ct, _⟩ := rsC_0 wn w c
    have he : (16 * (3 * s + l) + j) / 16 < 3 * dn D := by omega
    have kE := kEn SH he
    have ec : fL H (100 * 2 + 3) (A (1000 + (16 * (3 * s + l) + j))) = calV (dtb D (16 * (3 * s + l) + j)) (dtl D (16 * (3 * s + l) + j)) 0 0 := ((enX gLH he ct).2.2.2 (ct_in ct).2).1
    have et : withC D (dtl D (16 * (3 * s + l) + j)) (dtb D (16 * (3 * s + l) + j)) = tgO D (16 * (3 * s + l) + j) := by
      unfold tgO
      rw [if_pos ct]
    have k0 : Asked H A D a 0 := by rw [c] at k; exact k
    rw [c, if_pos rfl, if_pos rfl, if_pos rfl, ee]
    subst ea eb ei
    rw [atX SH gsH rfl hs, Option.bind_some, if_neg (fun z => by cases z), if_neg (fun z => by cases z), gX11_3 SH, Option.bind_some, Option.bind_some, Option.bind_some, gL_ok (c := 2) 3 kE, Option.bind_some, ec, vX7 SH, numberOfX SH hN gsH rfl, Option.bind_some, et, vX7 SH]
    unfold ptO
    cases t1 : tgO D (16 * (3 * s + l) + j) with
    | none =>
      obtain ⟨h', e', f', x⟩ := answSX SH k0 hd (some 0)
      rw [atX0 SH gsH (a := oI none) (fun z => absurd z.1 (show ¬ (0 : Int32) ≤ -1 by decide)), Option.bind_some, vX3 SH]
      have ev : s_X3_valueFor N H (A 8) (nI l) (some (A (100 + s))) none = some (0, H) := by
        unfold s_X3_valueFor
        rw [if_pos rfl]
      rw [ev, Option.bind_some]
      show ∃ h', ((cV H 11 (some (A 0)) fun a18 => s_X11_answeredSum H a18 (vJ (some 0))).bind fun v17 => some (v17.1.toInt32, v17.2)) = _ ∧ _
      rw [vX11 SH, e', Option.bind_some]
      exact ⟨h', rfl, FrK.toK (fr.trans f'), x, ch.k (fr.trans f')⟩
    | some t =>
      have ht := (tg_lt t1).1
      obtain ⟨H2, e2, f2⟩ := valX (N := N) SH hN gsH gRH wS wR rfl hs ht (nI l)
      have S2 := f2.shX SH
      have k2 : Asked H2 A D (nI s) 0 := k0.fr f2 (fun f z => by cases z; omega)
      have eP : ptV D (16 * (3 * s + l) + j) = rV D (nI l) s t := by
        unfold ptV tgN
        rw [t1, show (16 * (3 * s + l) + j) / 16 % 3 = l by omega, show (16 * (3 * s + l) + j) / 48 = s by omega]
        rfl
      obtain ⟨h', e', f', x⟩ := answSX S2 k2 hd (rV D (nI l) s t)
      rw [show oI (some t) = nI t from rfl, atX SH gsH rfl ht, Option.bind_some, vX3 SH, e2, Option.bind_some]
      show ∃ h', ((cV H2 11 (some (A 0)) fun a18 => s_X11_answeredSum H2 a18 (vJ (rV D (nI l) s t))).bind fun v17 => some (v17.1.toInt32, v17.2)) = some (Option.getD (ptV D (16 * (3 * s + l) + j)) 0, h') ∧ OkX h h' A D (nI s) (if ptV D (16 * (3 * s + l) + j) = none then 5 else 0)
      rw [vX11 S2, e', Option.bind_some, eP, bk32]
      exact ⟨h', rfl, (fr.toK.trans f2.toK).trans f'.toK, x, ((ch.k fr).v f2).k f'⟩
  · obtain ⟨h', e', f', x⟩ := answX SH k hd 0
    rw [if_neg c] at e'
    rw [if_neg c, if_neg c, if_neg c]
    have e3 : ∃ o, s_X7_at H (A 3) a = some o := by
      rcases stC wn a with ⟨s, hs, rfl⟩ | q
      · exact ⟨_, atX SH gsH rfl hs⟩
      · exact ⟨_, atX0 SH gsH q⟩
    obtain ⟨o, eo⟩ := e3
    rw [eo, Option.bind_some, if_pos rfl, vX11 SH, e', Option.bind_some]
    exact ⟨h', rfl, FrK.toK (fr.trans f'), x, ch.k (fr.trans f')⟩
end
