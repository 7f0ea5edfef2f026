/-! ===== totals ===== -/
def owF (k a : Int32) : Int32 := if k = 0 then a else if k = 1 then a * 2 / 3 else if k = 2 then a * 2 / 3 + 50 else 0
noncomputable def owN (D : Dt) (s : Nat) : Option Int32 := (csV D s (if dK D s = 2 then 2 else 1)).map (owF (dK D s))
noncomputable def toR (D : Dt) (s : Nat) : Option Int32 := if dK D s = 4 then foO (fun k => decide (dtm D k = nI (s + 1))) (owN D) (dn D) else owN D s
noncomputable def toX (D : Dt) (s : Nat) : Option Int32 := foO (fun k => decide (k = s ∨ dtm D k = nI (s + 1))) (owN D) (dn D)
theorem adO_0 (a : Option Int32) : adO a (some 0) = a := by
  cases a with
  | none => rfl
  | some x => show some (x + 0) = some x; rw [Int32.add_zero]
theorem foO_congr {p q : Nat → Bool} {v : Nat → Option Int32} : ∀ n, (∀ k, k < n → p k = q k ∨ v k = some 0) → foO p v n = foO q v n := by
  intro n
  induction n with
  | zero => intro _; rfl
  | succ n ih =>
    intro h
    have e := ih (fun k hk => h k (by omega))
    rcases h n (by omega) with h1 | h1
    · cases c : q n with
      | true => rw [foO_t (h1.trans c), foO_t c, e]
      | false => rw [foO_f (h1.trans c), foO_f c, e]
    · have e1 : ∀ p : Nat → Bool, foO p v (n + 1) = foO p v n := fun p => by
        cases c : p n with
        | true => rw [foO_t c, h1, adO_0]
        | false => rw [foO_f c]
      rw [e1 p, e1 q, e]
/-- a TEAM has nothing of its own -/
theorem team0 {D : Dt} (wS : WgS D) (w : WgL D) {s : Nat} (hs : s < dn D) (h4 : dK D s = 4) : owN D s = some 0 := by
  have wn := wS.1
  have nct : ∀ j, j < 48 → ctB D (48 * s + j) = false := fun j hj => by
    cases x : ctB D (48 * s + j) with
    | false => rfl
    | true =>
      have h1 := (ct_in x).1
      have h2 := (w.1 ((48 * s + j) / 16) (by omega))
      have h3 := h2.2.2.2 (by omega) (by rw [show (48 * s + j) / 16 / 3 = s by omega]; exact h4)
      have h5 := h2.2.1 h3
      omega
  have e0 : csO D s (if dK D s = 2 then 2 else 1) (0 + 48) = some 0 := foO_skip (k := 0) 48 (fun j _ h2 => gdC_f (fun z => by rw [nct j (by omega)] at z; cases z.1))
  have e0 : csO D s (if dK D s = 2 then 2 else 1) 48 = some 0 := e0
  unfold owN csV
  rw [e0, h4]
  rfl
theorem toX_R {D : Dt} (wS : WgS D) (w : WgL D) {s : Nat} (hs : s < dn D) : toX D s = toR D s := by
  have wn := wS.1
  unfold toX toR
  by_cases h4 : dK D s = 4
  · rw [if_pos h4]
    refine foO_congr (dn D) (fun k hk => ?_)
    by_cases d : k = s
    · rw [d]
      exact Or.inr (team0 wS w hs h4)
    · refine Or.inl ?_
      by_cases d2 : dtm D k = nI (s + 1)
      · rw [decide_eq_true (Or.inr d2), decide_eq_true d2]
      · rw [decide_eq_false (fun z => z.elim d d2), decide_eq_false d2]
  · rw [if_neg h4]
    have only : ∀ k, k < dn D → k ≠ s → decide (k = s ∨ dtm D k = nI (s + 1)) = false := fun k hk hne => decide_eq_false (fun z => by
      rcases z with z | z
      · exact hne z
      · rcases wS.2.2.2 k (by omega) with y | ⟨t, y1, y2, y3⟩
        · rw [y] at z
          exact absurd ((nI_eq (a := 0) (by omega) (by omega)).mp z) (by omega)
        · rw [y2] at z
          have := (nI_eq (by omega) (by omega)).mp z
          have : t = s := by omega
          rw [this] at y3
          exact h4 y3.2.1)
    have e1 := foO_skip (p := fun k => decide (k = s ∨ dtm D k = nI (s + 1))) (v := owN D) (k := 0) s (fun j _ h2 => only j (by omega) (by omega))
    rw [Nat.zero_add] at e1
    have e2 := foO_skip (p := fun k => decide (k = s ∨ dtm D k = nI (s + 1))) (v := owN D) (k := s + 1) (dn D - (s + 1)) (fun j h1 h2 => only j (by omega) (by omega))
    rw [show s + 1 + (dn D - (s + 1)) = dn D by omega] at e2
    rw [e2, foO_t (show decide (s = s ∨ dtm D s = nI (s + 1)) = true from decide_eq_true (Or.inl rfl)), e1]
    show adO (some 0) (owN D s) = owN D s
    cases owN D s with
    | none => rfl
    | some a => show some (0 + a) = some a; rw [Int32.zero_add]
theorem WkR.map {y0 y1 x : Int32} {v : Option Int32} (f : Int32 → Int32) (h : WkR y0 y1 true v x) : WkR y0 y1 true (v.map f) (f x) := by
  obtain ⟨a, b⟩ := h.2 rfl
  refine ⟨fun z => (by cases z), fun _ => ⟨?_, fun u hu => ?_⟩⟩
  · rw [a]
    cases v with
    | none => exact ⟨fun _ => Or.inr rfl, fun _ => Or.inr rfl⟩
    | some y => exact ⟨fun z => z.elim Or.inl (fun y => by cases y), fun z => z.elim Or.inl (fun y => by cases y)⟩
  · cases v with
    | none => cases hu
    | some y =>
      have hu : some (f y) = some u := hu
      cases hu
      rw [b y rfl]
section
variable {m : Nat} {ar : Nat → Nat} {N : Nat} {D : Dt}
theorem ownM {h : IH} (S : ShM h m ar) (hN : 2000 ≤ N) (gs : MgS h m ar D) (qL : MgL h m ar D) (qR : MgR h m ar D) (gP : MgP h m ar D) (wS : WgS D) (w : WgL D) (wR : WgR D) (wP : WgP D) (ck : CkM h ar D) {s : Nat} (hs : s < dn D) (f0 : fI h 1252 m = 0 ∨ fI h 1252 m = 1) : ∃ x h', s_X12_own N h m (nI s) = some (x, h') ∧ FrCS m ar h h' ∧ (fI h' 1252 m = 0 ∨ fI h' 1252 m = 1) ∧ WkR (fI h 1252 m) (fI h' 1252 m) true (owN D s) x := by
  have wn := wS.1
  have r2 : rI h (ar 2) s = dK D s := (gs.2.1 s hs).1
  unfold s_X12_own
  rw [mgR 2 S (by decide), Option.bind_some, maI 2 s S (by decide) (show s < 12 by omega), Option.bind_some, r2]
  have C := fun wt => checkedM (N := N) S hN gs qL qR gP wS w wR wP ck hs wt f0
  by_cases k0 : dK D s = 0
  · obtain ⟨x, h', e1, fr, fl, wk⟩ := C 1
    rw [if_pos k0, mV12 S, e1, Option.bind_some]
    refine ⟨x, h', rfl, fr, fl, ?_⟩
    have := wk.map (owF (dK D s))
    unfold owN
    rw [k0] at this ⊢
    exact this
  · by_cases k1 : dK D s = 1
    · obtain ⟨x, h', e1, fr, fl, wk⟩ := C 1
      rw [if_neg k0, if_pos k1, mV12 S, e1, Option.bind_some]
      refine ⟨x * 2 / 3, h', rfl, fr, fl, ?_⟩
      have := wk.map (owF (dK D s))
      unfold owN
      rw [k1] at this ⊢
      exact this
    · by_cases k2 : dK D s = 2
      · obtain ⟨x, h', e1, fr, fl, wk⟩ := C 2
        rw [if_neg k0, if_neg k1, if_pos k2, mV12 S, e1, Option.bind_some]
        refine ⟨x * 2 / 3 + 50, h', rfl, fr, fl, ?_⟩
        have := wk.map (owF (dK D s))
        unfold owN
        rw [k2] at this ⊢
        exact this
      · obtain ⟨x, h', e1, fr, fl, wk⟩ := C 1
        rw [if_neg k0, if_neg k1, if_neg k2, mV12 S, e1, Option.bind_some]
        refine ⟨0, h', rfl, fr, fl, ?_⟩
        have := wk.map (owF (dK D s))
        have ez : owF (dK D s) x = 0 := by
          unfold owF
          rw [if_neg k0, if_neg k1, if_neg k2]
        unfold owN
        rw [if_neg k2]
        rw [ez] at this
        exact this
theorem totalM {h : IH} (S : ShM h m ar) (hN : 2000 ≤ N) (gs : MgS h m ar D) (qL : MgL h m ar D) (qR : MgR h m ar D) (gP : MgP h m ar D) (wS : WgS D) (w : WgL D) (wR : WgR D) (wP : WgP D) (ck : CkM h ar D) {s : Nat} (hs : s < dn D) : ∃ x h', s_X12_totalOf N h m (nI s) = some (x, h') ∧ FrCS m ar h h' ∧ (fI h' 1252 m ≠ 0 ↔ toR D s = none) ∧ ∀ u, toR D s = some u → x = u := by
  have wn := wS.1
  have f1 : FrCS m ar h (wfI h 1252 m 0) := Fr.wI _ _ _ _ ⟨by unfold ptF; omega, rfl⟩
  have z1 : fI (wfI h 1252 m 0) 1252 m = 0 := fI_wfI _ _ _ _
  unfold s_X12_totalOf
  rw [mpZ 52 S.1 (Or.inl rfl), Option.bind_some]
  show ∃ x h', ((gR (wfI h 1252 m 0) 12 2 (some m)).bind fun v2 => (aI (wfI h 1252 m 0) v2 (nI s)).bind fun v3 => if v3 = 4 then (s_X12_totalOf_L25 N N m (nI s) 0 0 (wfI h 1252 m 0)).bind fun q13 => some (q13.1, q13.2) else (cV (wfI h 1252 m 0) 12 (some m) fun a15 => s_X12_own N (wfI h 1252 m 0) a15 (nI s)).bind fun v14 => some (v14.1, v14.2)) = some (x, h') ∧ _
  generalize wfI h 1252 m 0 = h1 at f1 z1 ⊢
  have grp : ∀ {H : IH}, FrCS m ar h H → ShM H m ar ∧ MgS H m ar D ∧ MgL H m ar D ∧ MgR H m ar D ∧ MgP H m ar D ∧ CkM H ar D := fun fr => ⟨fr.shM S, gs.fr S fr e69_row (by unfold ptF; omega) (fun k z => by cases z; omega), qL.fr S fr e69_row no1_row (fun k z => by cases z; omega) (fun k z => z.elim), qR.fr S fr e69_row (by unfold ptF; omega) (fun z => by cases z) (fun z => by cases z), gP.fr fr (by unfold ptF; omega) (by unfold ptF; omega), ck.fr S fr e69_row no1_row (fun z => by cases z) (fun z => by cases z) (fun z => z)⟩
  obtain ⟨S1, gs1, gL1, gR1, gP1, ck1⟩ := grp f1
  have r2 : rI h1 (ar 2) s = dK D s := (gs1.2.1 s hs).1
  rw [mgR 2 S1 (by decide), Option.bind_some, maI 2 s S1 (by decide) (show s < 12 by omega), Option.bind_some, r2]
  by_cases h4 : dK D s = 4
  · have L : ∀ (r k z : Nat) (H : IH) (x2 : Int32), k + r = dn D → r < z → FrCS m ar h H → (fI H 1252 m = 0 ∨ fI H 1252 m = 1) → (fI H 1252 m ≠ 0 ↔ foO (fun k => decide (dtm D k = nI (s + 1))) (owN D) k = none) → (∀ u, foO (fun k => decide (dtm D k = nI (s + 1))) (owN D) k = some u → x2 = u) → ∃ x h', s_X12_totalOf_L25 N z m (nI s) x2 (nI k) H = some (x, h') ∧ FrCS m ar h h' ∧ (fI h' 1252 m ≠ 0 ↔ foO (fun k => decide (dtm D k = nI (s + 1))) (owN D) (dn D) = none) ∧ ∀ u, foO (fun k => decide (dtm D k = nI (s + 1))) (owN D) (dn D) = some u → x = u := by
      intro r
      induction r with
      | zero =>
        intro k z H x2 hk hz fr fl q1 q2
        obtain ⟨z, rfl⟩ : ∃ y, z = y + 1 := ⟨z - 1, by omega⟩
        obtain ⟨SH, gsH, _⟩ := grp fr
        have e1 : fI H (1200 + 1) m = nI (dn D) := gsH.1
        have : k = dn D := by omega
        subst this
        rw [s_X12_totalOf_L25.eq_2, mgI 1 SH.1, Option.bind_some, e1, if_pos (nI_le (by omega) (by omega))]
        exact ⟨x2, H, rfl, fr, q1, q2⟩
      | succ r ih =>
        intro k z H x2 hk hz fr fl q1 q2
        obtain ⟨z, rfl⟩ : ∃ y, z = y + 1 := ⟨z - 1, by omega⟩
        obtain ⟨SH, gsH, gLH, gRH, gPH, ckH⟩ := grp fr
        have e1 : fI H (1200 + 1) m = nI (dn D) := gsH.1
        have r8 : rI H (ar 8) k = dtm D k := gsH.2.2 k (by omega)
        rw [s_X12_totalOf_L25.eq_2, mgI 1 SH.1, Option.bind_some, e1, if_neg (nI_ge (by omega) (by omega)), mgR 8 SH (by decide), Option.bind_some, maI 8 k SH (by decide) (show k < 12 by omega), Option.bind_some, r8, nI_1, nI_1]
        by_cases d : dtm D k = nI (s + 1)
        · have eF : foO (fun k => decide (dtm D k = nI (s + 1))) (owN D) (k + 1) = adO (foO (fun k => decide (dtm D k = nI (s + 1))) (owN D) k) (owN D k) := foO_t (decide_eq_true d)
          obtain ⟨x, H2, e2, f2, fl2, wk⟩ := ownM (N := N) SH hN gsH gLH gRH gPH wS w wR wP ckH (show k < dn D by omega) fl
          obtain ⟨wk1, wk2⟩ := wk.2 rfl
          rw [if_pos d, mV12 SH, e2, Option.bind_some, Option.bind_some]
          refine ih (k + 1) z H2 (x2 + x) (by omega) (by omega) (fr.trans f2) fl2 ?_ (fun u hu => ?_)
          · rw [wk1, q1, eF]
            constructor
            · rintro (h1 | h1)
              · rw [h1, adO_none]
              · rw [h1, adO_none']
            · intro h1
              cases hc : foO (fun k => decide (dtm D k = nI (s + 1))) (owN D) k with
              | none => exact Or.inl rfl
              | some a =>
                cases hp : owN D k with
                | none => exact Or.inr rfl
                | some b => rw [hc, hp] at h1; cases h1
          · rw [eF] at hu
            cases hc : foO (fun k => decide (dtm D k = nI (s + 1))) (owN D) k with
            | none => rw [hc, adO_none] at hu; cases hu
            | some a =>
              cases hp : owN D k with
              | none => rw [hp, adO_none'] at hu; cases hu
              | some b =>
                rw [hc, hp] at hu
                have hu : some (a + b) = some u := hu
                cases hu
                rw [q2 a hc, wk2 b hp]
        · have eF : foO (fun k => decide (dtm D k = nI (s + 1))) (owN D) (k + 1) = foO (fun k => decide (dtm D k = nI (s + 1))) (owN D) k := foO_f (decide_eq_false d)
          rw [if_neg d, Option.bind_some, Int32.add_zero]
          exact ih (k + 1) z H x2 (by omega) (by omega) fr fl (by rw [eF]; exact q1) (by rw [eF]; exact q2)
    obtain ⟨x, h', e', fr', a1, a2⟩ := L (dn D) 0 N h1 0 (by omega) (by omega) f1 (Or.inl z1) ⟨fun z => absurd z1 z, fun z => by cases z⟩ (fun u hu => by
      have hu : some (0 : Int32) = some u := hu
      cases hu
      rfl)
    rw [nI_0] at e'
    rw [if_pos h4, e', Option.bind_some]
    unfold toR
    rw [if_pos h4]
    exact ⟨x, h', rfl, fr', a1, a2⟩
  · obtain ⟨x, H2, e2, f2, fl2, wk⟩ := ownM (N := N) S1 hN gs1 gL1 gR1 gP1 wS w wR wP ck1 hs (Or.inl z1)
    obtain ⟨wk1, wk2⟩ := wk.2 rfl
    rw [if_neg h4, mV12 S1, e2, Option.bind_some]
    unfold toR
    rw [if_neg h4]
    exact ⟨x, H2, rfl, f1.trans f2, by rw [wk1]; exact ⟨fun z => z.elim (fun y => absurd z1 y) (fun y => y), Or.inr⟩, wk2⟩
theorem totNM {h : IH} (S : ShM h m ar) (hN : 2000 ≤ N) (gs : MgS h m ar D) (qL : MgL h m ar D) (qR : MgR h m ar D) (gP : MgP h m ar D) (wS : WgS D) (w : WgL D) (wR : WgR D) (wP : WgP D) (ck : CkM h ar D) {s : Nat} (hs : s < dn D) : ∃ h', s_X12_totalOrNone N h m (nI s) = some ((toR D s).getD 0, h') ∧ FrCS m ar h h' := by
  obtain ⟨x, h', e, fr, a1, a2⟩ := totalM (N := N) S hN gs qL qR gP wS w wR wP ck hs
  have S' := fr.shM S
  unfold s_X12_totalOrNone
  rw [mV12 S, e, Option.bind_some]
  show ∃ h'', ((gI h' 12 52 (some m)).bind fun v2 => ((if v2 = 0 then some x else some 0) : Option (Int32)).bind fun q4 => some (q4, h')) = _ ∧ _
  rw [mgI 52 S'.1, Option.bind_some]
  cases c : toR D s with
  | none =>
    rw [if_neg (a1.mpr c), Option.bind_some]
    exact ⟨h', rfl, fr⟩
  | some u =>
    rw [if_pos (show fI h' (1200 + 52) m = 0 from Decidable.byContradiction (fun z => by have := a1.mp z; rw [c] at this; cases this)), Option.bind_some, a2 u c]
    exact ⟨h', rfl, fr⟩
end
section
variable {A : Nat → Nat} {n N : Nat} {D : Dt}
theorem ownX {h : IH} (S : ShX h A n) (hN : 2000 ≤ N) (hn : n = dn D) (gs : XgS h A D) (qL : XgL h A D) (qR : XgR h A D) (gP : XgP h A D) (wS : WgS D) (w : WgL D) (wR : WgR D) (ck : CkX h A D) (wy : WyX h A D) {s : Nat} (hs : s < dn D) : ∃ h', s_X8_ownTotal N h (A 24) (some (A (100 + s))) = some (vJ (owN D s), h') ∧ FrV A h h' := by
  have e0 : fI h 900 (A (100 + s)) = dK D s := (gs.2 s hs).1
  obtain ⟨h', e', fr⟩ := checkedX (N := N) S hN hn gs qL qR gP wS w wR ck wy hs (if dK D s = 2 then 2 else 1)
  subst hn
  have S' := fr.shX S
  have gs' : XgS h' A D := gs.fr fr (fun f z => by cases z; omega) (fun z => z)
  have e0' : fI h' 900 (A (100 + s)) = dK D s := (gs'.2 s hs).1
  have q3 : ((if dK D s = 2 then some 2 else some 1) : Option (Int32)) = some (if dK D s = 2 then 2 else 1) := by split <;> rfl
  unfold s_X8_ownTotal
  rw [gX9_0 S hs, Option.bind_some, e0, q3, Option.bind_some, vX8 S, e', Option.bind_some]
  show ∃ h'', (if lg_cmp (vJ (csV D s (if dK D s = 2 then 2 else 1))) 1099511627776 = 0 then some (1099511627776, h') else (gI h' 9 0 (some (A (100 + s)))).bind fun v6 => if v6 = 0 then some (vJ (csV D s (if dK D s = 2 then 2 else 1)), h') else if v6 = 1 then (s_X8_twoThirds h' (vJ (csV D s (if dK D s = 2 then 2 else 1))).toInt32).bind fun v10 => some (v10.toInt64, h') else if v6 = 2 then (s_X8_twoThirds h' (vJ (csV D s (if dK D s = 2 then 2 else 1))).toInt32).bind fun v11 => some ((v11 + 50).toInt64, h') else some (0, h')) = some (vJ (owN D s), h'') ∧ FrV A h h''
  unfold owN
  cases c : csV D s (if dK D s = 2 then 2 else 1) with
  | none =>
    rw [if_pos ((vJ_d none).mpr rfl)]
    exact ⟨h', rfl, fr⟩
  | some a =>
    rw [if_neg (fun z => by cases (vJ_d (some a)).mp z), gX9_0 S' hs, Option.bind_some, e0', vJ_32]
    have em : Option.map (owF (dK D s)) (some a) = some (owF (dK D s) a) := rfl
    rw [em]
    unfold owF s_X8_twoThirds
    by_cases k0 : dK D s = 0
    · rw [if_pos k0, if_pos k0]
      exact ⟨h', rfl, fr⟩
    · by_cases k1 : dK D s = 1
      · rw [if_neg k0, if_neg k0, if_pos k1, if_pos k1]
        exact ⟨h', rfl, fr⟩
      · by_cases k2 : dK D s = 2
        · rw [if_neg k0, if_neg k0, if_neg k1, if_neg k1, if_pos k2, if_pos k2]
          exact ⟨h', rfl, fr⟩
        · rw [if_neg k0, if_neg k0, if_neg k1, if_neg k1, if_neg k2, if_neg k2]
          exact ⟨h', rfl, fr⟩
theorem totalX {h : IH} (S : ShX h A n) (hN : 2000 ≤ N) (hn : n = dn D) (gs : XgS h A D) (qL : XgL h A D) (qR : XgR h A D) (gP : XgP h A D) (wS : WgS D) (w : WgL D) (wR : WgR D) (ck : CkX h A D) (wy : WyX h A D) {s : Nat} (hs : s < dn D) : ∃ h', s_X8_totalOf N h (A 24) (nI s) = some (vJ (toX D s), h') ∧ FrV A h h' := by
  subst hn
  have wn := S.1
  have L : ∀ (r k z : Nat) (H : IH) (x2 : Int32), k + r = dn D → r < z → FrV A h H → foO (fun k => decide (k = s ∨ dtm D k = nI (s + 1))) (owN D) k = some x2 → ∃ h', ((s_X8_totalOf_L4 N z (A 24) (nI s) x2 (nI k) H).bind fun q17 => Sum.elim (fun (v : Int64 × IH) => some v) (fun (t18 : Int32 × IH) => some (t18.1.toInt64, t18.2)) q17) = some (vJ (toX D s), h') ∧ FrV A h h' := by
    intro r
    induction r with
    | zero =>
      intro k z H x2 hk hz fr q
      obtain ⟨z, rfl⟩ : ∃ y, z = y + 1 := ⟨z - 1, by omega⟩
      have SH := fr.shX S
      have gsH : XgS H A D := gs.fr fr (fun f z => by cases z; omega) (fun z => z)
      have : k = dn D := by omega
      subst this
      rw [s_X8_totalOf_L4.eq_2, gX8_0 SH, Option.bind_some, gX7_1 SH, Option.bind_some, gsH.1, if_pos (nI_le (by omega) (by omega)), Option.bind_some]
      unfold toX
      rw [q]
      exact ⟨H, rfl, fr⟩
    | succ r ih =>
      intro k z H x2 hk hz fr q
      obtain ⟨z, rfl⟩ : ∃ y, z = y + 1 := ⟨z - 1, by omega⟩
      have SH := fr.shX S
      have gsH : XgS H A D := gs.fr fr (fun f z => by cases z; omega) (fun z => z)
      have gLH : XgL H A D := qL.fr fr (fun f z => by cases z; omega) (fun f z => z.elim)
      have gRH : XgR H A D := qR.fr S fr (fun _ z => z.elim) (fun z => by cases z) (fun z => z)
      have gPH : XgP H A D := gP.fr fr (fun z => by cases z) (fun z => by cases z)
      have ckH : CkX H A D := ck.fr fr (fun z => by cases z) (fun z => by cases z) (fun z => by cases z) (fun z => z)
      have wyH : WyX H A D := wy.fr fr (fun z => by cases z) (fun z => by cases z)
      have hk' : k < dn D := by omega
      have e6 : fI H 906 (A (100 + k)) = dtm D k - 1 := (gsH.2 k hk').2.2.2.2.2.1
      obtain ⟨H2, e2, f2⟩ := ownX (N := N) SH hN rfl gsH gLH gRH gPH wS w wR ckH wyH hk'
      rw [s_X8_totalOf_L4.eq_2, gX8_0 SH, Option.bind_some, gX7_1 SH, Option.bind_some, gsH.1, if_neg (nI_ge (by omega) (by omega)), Option.bind_some, vX7 SH, atX SH gsH rfl hk', Option.bind_some, if_neg (show ¬ some (A (100 + k)) = none from fun z => by cases z), nI_1]
      have took : (k = s ∨ dtm D k = nI (s + 1)) → ∃ h', ((if lg_cmp (vJ (owN D k)) 1099511627776 = 0 then some (.inl (1099511627776, H2)) else s_X8_totalOf_L4 N z (A 24) (nI s) (x2 + (vJ (owN D k)).toInt32) (nI (k + 1)) H2).bind fun q17 => Sum.elim (fun (v : Int64 × IH) => some v) (fun (t18 : Int32 × IH) => some (t18.1.toInt64, t18.2)) q17) = some (vJ (toX D s), h') ∧ FrV A h h' := fun hd => by
        have eF : foO (fun k => decide (k = s ∨ dtm D k = nI (s + 1))) (owN D) (k + 1) = adO (foO (fun k => decide (k = s ∨ dtm D k = nI (s + 1))) (owN D) k) (owN D k) := foO_t (decide_eq_true hd)
        rw [q] at eF
        cases c : owN D k with
        | none =>
          rw [c, adO_none'] at eF
          have e48 := foO_none eF (dn D - (k + 1))
          rw [show k + 1 + (dn D - (k + 1)) = dn D by omega] at e48
          rw [if_pos ((vJ_d none).mpr rfl), Option.bind_some]
          unfold toX
          rw [e48]
          exact ⟨H2, rfl, fr.trans f2⟩
        | some a =>
          rw [c] at eF
          have eF : foO (fun k => decide (k = s ∨ dtm D k = nI (s + 1))) (owN D) (k + 1) = some (x2 + a) := eF
          rw [if_neg (fun z => by cases (vJ_d (some a)).mp z), vJ_32]
          exact ih (k + 1) z H2 (x2 + a) (by omega) (by omega) (fr.trans f2) eF
      by_cases d1 : k = s
      · rw [if_pos (by rw [d1]), vX8 SH, e2, Option.bind_some]
        exact took (Or.inl d1)
      · have t1 : dtm D k - 1 = nI s ↔ dtm D k = nI (s + 1) := by rw [Int32.sub_eq_iff_eq_add, nI_1]
        rw [if_neg (fun z => d1 ((nI_eq (by omega) (by omega)).mp z)), gX9_6 SH hk', Option.bind_some, e6]
        by_cases d2 : dtm D k = nI (s + 1)
        · rw [if_pos (t1.mpr d2), vX8 SH, e2, Option.bind_some]
          exact took (Or.inr d2)
        · rw [if_neg (fun z => d2 (t1.mp z))]
          exact ih (k + 1) z H x2 (by omega) (by omega) fr (by rw [← q]; exact foO_f (decide_eq_false (fun z => z.elim d1 d2)))
  obtain ⟨h', e', f'⟩ := L (dn D) 0 N h 0 (by omega) (by omega) (Fr.refl _) rfl
  rw [nI_0] at e'
  unfold s_X8_totalOf
  exact ⟨h', e', f'⟩
theorem orZX (h : IH) (o : Option Int32) : s_X11_orZero h (vJ o) = some (o.getD 0) := by
  unfold s_X11_orZero
  cases o with
  | none =>
    rw [if_pos ((vJ_d none).mpr rfl), Option.bind_some]
    rfl
  | some a =>
    rw [if_neg (fun z => by cases (vJ_d (some a)).mp z), Option.bind_some, vJ_32]
    rfl
end
