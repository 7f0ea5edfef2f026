/-! ===== asks: how they begin and end ===== -/
def stP (D : Dt) (a : Int32) : Prop := 0 ≤ a ∧ a < nI (dn D)
noncomputable def opN (D : Dt) (a : Int32) : Nat := if 0 ≤ a ∧ a < nI (dn D) then dop D + 1 else dop D
noncomputable def akD (D : Dt) (a f : Int32) : Dt := uA D f (das D + 1) (if f = 0 then dfa D else dfa D + 1) (opN D a)
def akF (f : Nat) : Prop := 1109 ≤ f ∧ f ≤ 1113
abbrev FrK (A : Nat → Nat) : IH → IH → Prop := FX A akF no1 no1 no1
def Asked (H : IH) (A : Nat → Nat) (D : Dt) (a f : Int32) : Prop := fI H 1109 (A 0) = f ∧ fI H 1110 (A 0) = nI (opN D a) ∧ fI H 1111 (A 0) = nI (dop D) ∧ fI H 1112 (A 0) = das D + 1 ∧ fI H 1113 (A 0) = dfa D
def stA (A : Nat → Nat) (D : Dt) (a : Int32) : Option Nat := if 0 ≤ a ∧ a < nI (dn D) then some (A (100 + a.toNatClampNeg)) else none
def rsS (D : Dt) (a : Int32) : Int32 := if 0 ≤ a ∧ a < nI (dn D) then 0 else 4
def eOf (a b i : Int32) : Nat := 16 * qOf a b + i.toNatClampNeg
def rsL (D : Dt) (a b : Int32) : Int32 := if 0 ≤ a ∧ a < nI (dn D) then (if 0 ≤ b ∧ b < 3 then (if dms D (qOf a b) = true then 1 else 0) else 6) else 4
def rsI (D : Dt) (a b i : Int32) : Int32 := if rsL D a b = 0 then (if 0 ≤ i ∧ i < nI (dsz D (qOf a b)) then 0 else 2) else rsL D a b
def rsC (D : Dt) (a b i : Int32) : Int32 := if rsI D a b i = 0 then (if dso D (eOf a b i) = 0 then 0 else 3) else rsI D a b i
def rsH (D : Dt) (a : Int32) : Int32 := if 0 ≤ a ∧ a < nI (dn D) then (if hlB D a.toNatClampNeg = true then 0 else 7) else 4
theorem rsL_0 {D : Dt} (wn : dn D ≤ 12) {a b : Int32} (h : rsL D a b = 0) : ∃ s k, s < dn D ∧ k < 3 ∧ a = nI s ∧ b = nI k ∧ qOf a b = 3 * s + k ∧ dms D (3 * s + k) = false := by
  unfold rsL at h
  rcases stC wn a with ⟨s, hs, rfl⟩ | q
  · rw [if_pos (stIn wn hs)] at h
    rcases bandC b with ⟨k, hk, rfl⟩ | q
    · rw [if_pos (bandIn hk)] at h
      have e : qOf (nI s) (nI k) = 3 * s + k := by
        unfold qOf
        rw [nI_clamp (by omega), nI_clamp (by omega)]
      rw [e] at h
      refine ⟨s, k, hs, hk, rfl, rfl, e, ?_⟩
      cases c : dms D (3 * s + k) with
      | false => rfl
      | true => rw [c, if_pos rfl] at h; cases h
    · rw [if_neg q] at h; cases h
  · rw [if_neg q] at h; cases h
theorem rsI_0 {D : Dt} (wn : dn D ≤ 12) (w : WgL D) {a b i : Int32} (h : rsI D a b i = 0) : ∃ s k j, s < dn D ∧ k < 3 ∧ j < dsz D (3 * s + k) ∧ j < 16 ∧ a = nI s ∧ b = nI k ∧ i = nI j ∧ qOf a b = 3 * s + k ∧ eOf a b i = 16 * (3 * s + k) + j ∧ rsL D a b = 0 := by
  unfold rsI at h
  by_cases c : rsL D a b = 0
  · obtain ⟨s, k, hs, hk, ea, eb, eq, _⟩ := rsL_0 wn c
    have w16 := (w.1 (3 * s + k) (by omega)).1
    rw [if_pos c, eq] at h
    by_cases d : 0 ≤ i ∧ i < nI (dsz D (3 * s + k))
    · have e1 := clampI d.1
      have e2 : i.toNatClampNeg < dsz D (3 * s + k) := by
        have := d.2
        rw [e1] at this
        have b31 : i.toNatClampNeg < 2 ^ 31 := Int32.toNatClampNeg_lt i
        exact Decidable.byContradiction (fun z => absurd (nI_le (show dsz D (3 * s + k) ≤ i.toNatClampNeg by omega) b31) (fun y => by
          have x1 := iLt.mp this
          have x2 := iLe.mp y
          omega))
      refine ⟨s, k, i.toNatClampNeg, hs, hk, e2, by omega, ea, eb, e1, eq, ?_, c⟩
      unfold eOf
      rw [eq]
    · rw [if_neg d] at h; cases h
  · rw [if_neg c] at h
    exact absurd h c
theorem rsC_0 {D : Dt} (wn : dn D ≤ 12) (w : WgL D) {a b i : Int32} (h : rsC D a b i = 0) : ∃ s k j, s < dn D ∧ k < 3 ∧ j < dsz D (3 * s + k) ∧ j < 16 ∧ a = nI s ∧ b = nI k ∧ i = nI j ∧ eOf a b i = 16 * (3 * s + k) + j ∧ ctB D (16 * (3 * s + k) + j) = true ∧ rsI D a b i = 0 := by
  unfold rsC at h
  by_cases c : rsI D a b i = 0
  · obtain ⟨s, k, j, hs, hk, hj, h16, ea, eb, ei, eq, ee, _⟩ := rsI_0 wn w c
    rw [if_pos c, ee] at h
    by_cases d : dso D (16 * (3 * s + k) + j) = 0
    · exact ⟨s, k, j, hs, hk, hj, h16, ea, eb, ei, ee, (ct_16 h16).mpr ⟨hj, d⟩, c⟩
    · rw [if_neg d] at h; cases h
  · rw [if_neg c] at h
    exact absurd h c
theorem logOfX0 {h : IH} {c : Nat} {b : Int32} (q : ¬ (0 ≤ b ∧ b < 3)) : s_X9_logOf h c b = some none := by
  unfold s_X9_logOf
  by_cases d : b < 0
  · rw [if_pos d, Option.bind_some]
  · rw [if_neg d, if_pos (Decidable.byContradiction (fun z => q ⟨Decidable.byContradiction (fun y => d ((lt0 b).mpr y)), (ltge b 3).mpr z⟩)), Option.bind_some]
section
variable {A : Nat → Nat} {n N : Nat} {D : Dt}
theorem askedStX {h : IH} (S : ShX h A n) (hn : n = dn D) (gs : XgS h A D) (gA : XgA h A D) (a : Int32) : ∃ H, s_X11_askedStation h (A 0) a = some (stA A D a, H) ∧ FrK A h H ∧ Asked H A D a (rsS D a) := by
  subst hn
  have wn := S.1
  obtain ⟨g9, g10, g11, g12, g13⟩ := gA
  have S1 : ShX (wfI h 1112 (A 0) (das D + 1)) A (dn D) := S
  have S2 : ShX (wfI (wfI h 1112 (A 0) (das D + 1)) 1109 (A 0) 0) A (dn D) := S
  have f2 : FrK A h (wfI (wfI h 1112 (A 0) (das D + 1)) 1109 (A 0) 0) := (Fr.wI _ _ _ _ (by unfold akF; omega)).trans (Fr.wI _ _ _ _ (by unfold akF; omega))
  have gs2 : XgS (wfI (wfI h 1112 (A 0) (das D + 1)) 1109 (A 0) 0) A D := gs.fr f2 (fun f z => by unfold akF at z; omega) (fun z => z)
  unfold s_X11_askedStation
  rw [gX11_12 S, Option.bind_some, g12, pX11_12 S, Option.bind_some, pX11_9 S1, Option.bind_some, gX11_1 S2, Option.bind_some, vX7 S2]
  rcases stC wn a with ⟨s, hs, rfl⟩ | q
  · have i10 : fI (wfI (wfI h 1112 (A 0) (das D + 1)) 1109 (A 0) 0) 1110 (A 0) = nI (dop D) := by rw [fI_wfI_ne _ _ (by decide), fI_wfI_ne _ _ (by decide)]; exact g10
    rw [atX S2 gs2 rfl hs, Option.bind_some, if_neg (show ¬ some (A (100 + s)) = none from fun z => by cases z), gX11_10 S2, Option.bind_some, i10, pX11_10 S2, Option.bind_some, Option.bind_some, nI_1]
    refine ⟨wfI (wfI (wfI h 1112 (A 0) (das D + 1)) 1109 (A 0) 0) 1110 (A 0) (nI (dop D + 1)), ?_, f2.trans (Fr.wI _ 1110 _ _ (by unfold akF; omega)), ?_, ?_, ?_, ?_, ?_⟩
    · unfold stA
      rw [if_pos (stIn wn hs), nI_clamp (by omega)]
    · unfold rsS
      rw [if_pos (stIn wn hs), fI_wfI_ne _ _ (by decide)]
      exact fI_wfI _ _ _ _
    · unfold opN
      rw [if_pos (stIn wn hs)]
      exact fI_wfI _ _ _ _
    · rw [fI_wfI_ne _ _ (by decide), fI_wfI_ne _ _ (by decide), fI_wfI_ne _ _ (by decide)]
      exact g11
    · rw [fI_wfI_ne _ _ (by decide), fI_wfI_ne _ _ (by decide)]
      exact fI_wfI _ _ _ _
    · rw [fI_wfI_ne _ _ (by decide), fI_wfI_ne _ _ (by decide), fI_wfI_ne _ _ (by decide)]
      exact g13
  · rw [atX0 S2 gs2 q, Option.bind_some, if_pos rfl, pX11_9 S2, Option.bind_some, Option.bind_some]
    refine ⟨wfI (wfI (wfI h 1112 (A 0) (das D + 1)) 1109 (A 0) 0) 1109 (A 0) 4, ?_, f2.trans (Fr.wI _ 1109 _ _ (by unfold akF; omega)), ?_, ?_, ?_, ?_, ?_⟩
    · unfold stA
      rw [if_neg q]
    · unfold rsS
      rw [if_neg q]
      exact fI_wfI _ _ _ _
    · unfold opN
      rw [if_neg q, fI_wfI_ne _ _ (by decide), fI_wfI_ne _ _ (by decide), fI_wfI_ne _ _ (by decide)]
      exact g10
    · rw [fI_wfI_ne _ _ (by decide), fI_wfI_ne _ _ (by decide), fI_wfI_ne _ _ (by decide)]
      exact g11
    · rw [fI_wfI_ne _ _ (by decide), fI_wfI_ne _ _ (by decide)]
      exact fI_wfI _ _ _ _
    · rw [fI_wfI_ne _ _ (by decide), fI_wfI_ne _ _ (by decide), fI_wfI_ne _ _ (by decide)]
      exact g13
/-- another finding -/
theorem Asked.wr {H : IH} {a f : Int32} (k : Asked H A D a f) (v : Int32) : Asked (wfI H 1109 (A 0) v) A D a v := by
  obtain ⟨_, b, c, d, e⟩ := k
  exact ⟨fI_wfI _ _ _ _, by rw [fI_wfI_ne _ _ (by decide)]; exact b, by rw [fI_wfI_ne _ _ (by decide)]; exact c, by rw [fI_wfI_ne _ _ (by decide)]; exact d, by rw [fI_wfI_ne _ _ (by decide)]; exact e⟩
theorem Asked.fr {h H : IH} {F G R Q : Nat → Prop} {a f : Int32} (x : FX A F G R Q h H) (k : Asked h A D a f) (f1 : ∀ f, F f → f < 1109 ∨ 1113 < f) : Asked H A D a f := by
  have c : ∀ f, 1109 ≤ f → f ≤ 1113 → ¬ F f := fun f h1 h2 z => by have := f1 f z; omega
  unfold Asked
  rw [x.fI (c 1109 (by omega) (by omega)), x.fI (c 1110 (by omega) (by omega)), x.fI (c 1111 (by omega) (by omega)), x.fI (c 1112 (by omega) (by omega)), x.fI (c 1113 (by omega) (by omega))]
  exact k
theorem FrK.w9 {h H : IH} (fr : FrK A h H) (v : Int32) : FrK A h (wfI H 1109 (A 0) v) := fr.trans (Fr.wI _ _ _ _ (by unfold akF; omega))
theorem answX {H : IH} (S : ShX H A n) {a f : Int32} (k : Asked H A D a f) (hd : dop D < 1000000) (v : Int64) : ∃ h', s_X11_answered H (A 0) v = some (if f = 0 then v else 0, h') ∧ FrK A H h' ∧ XgA h' A (akD D a f) := by
  obtain ⟨k9, k10, k11, k12, k13⟩ := k
  unfold s_X11_answered
  rw [gX11_11 S, Option.bind_some, gX11_10 S, Option.bind_some, k11, k10]
  -- the logs that were opened are closed
  have cl : ∃ H2, ((if nI (opN D a) ≤ nI (dop D) then some H else (some (nI (dop D))).bind fun v4 => (pI H 11 11 (some (A 0)) (v4 + 1)).bind fun h5 => some h5) : Option (IH)) = some H2 ∧ FrK A H H2 ∧ fI H2 1109 (A 0) = f ∧ fI H2 1110 (A 0) = nI (opN D a) ∧ fI H2 1111 (A 0) = nI (opN D a) ∧ fI H2 1112 (A 0) = das D + 1 ∧ fI H2 1113 (A 0) = dfa D := by
    by_cases c : 0 ≤ a ∧ a < nI (dn D)
    · have e : opN D a = dop D + 1 := by unfold opN; rw [if_pos c]
      rw [e, if_neg (nI_ge (by omega) (by omega)), Option.bind_some, pX11_11 S, Option.bind_some, nI_1]
      exact ⟨_, rfl, Fr.wI _ _ _ _ (by unfold akF; omega), by rw [fI_wfI_ne _ _ (by decide)]; exact k9, by rw [fI_wfI_ne _ _ (by decide), k10, e], fI_wfI _ _ _ _, by rw [fI_wfI_ne _ _ (by decide)]; exact k12, by rw [fI_wfI_ne _ _ (by decide)]; exact k13⟩
    · have e : opN D a = dop D := by unfold opN; rw [if_neg c]
      rw [e, if_pos (nI_le (by omega) (by omega))]
      exact ⟨H, rfl, Fr.refl _, k9, by rw [k10, e], k11, k12, k13⟩
  obtain ⟨H2, e2, f2, j9, j10, j11, j12, j13⟩ := cl
  have S2 := f2.shX S
  rw [e2, Option.bind_some, gX11_9 S2, Option.bind_some, j9]
  by_cases c : f = 0
  · rw [if_pos c, if_pos c]
    refine ⟨H2, rfl, f2, j9, j10, j11, j12, ?_⟩
    rw [j13]
    show dfa D = (if f = 0 then dfa D else dfa D + 1)
    rw [if_pos c]
  · rw [if_neg c, if_neg c, gX11_13 S2, Option.bind_some, j13, pX11_13 S2, Option.bind_some]
    refine ⟨_, rfl, f2.trans (Fr.wI _ _ _ _ (by unfold akF; omega)), ?_, ?_, ?_, ?_, ?_⟩
    · rw [fI_wfI_ne _ _ (by decide)]; exact j9
    · rw [fI_wfI_ne _ _ (by decide)]; exact j10
    · rw [fI_wfI_ne _ _ (by decide)]; exact j11
    · rw [fI_wfI_ne _ _ (by decide)]; exact j12
    · refine (fI_wfI _ _ _ _).trans ?_
      show dfa D + 1 = (if f = 0 then dfa D else dfa D + 1)
      rw [if_neg c]
theorem refuX {H : IH} (S : ShX H A n) {a f : Int32} (k : Asked H A D a f) (hd : dop D < 1000000) {g : Int32} (hg : g ≠ 0) : ∃ h', s_X11_refused H (A 0) g = some (0, h') ∧ FrK A H h' ∧ XgA h' A (akD D a g) := by
  have S1 : ShX (wfI H 1109 (A 0) g) A n := S
  obtain ⟨h', e, f1, x⟩ := answX S1 (k.wr g) hd 0
  rw [if_neg hg] at e
  unfold s_X11_refused
  rw [pX11_9 S, Option.bind_some, vX11 S1, e, Option.bind_some]
  exact ⟨h', rfl, (FrK.w9 (Fr.refl H) g).trans f1, x⟩
theorem answSX {H : IH} (S : ShX H A n) {a : Int32} (k : Asked H A D a 0) (hd : dop D < 1000000) (o : Option Int32) : ∃ h', s_X11_answeredSum H (A 0) (vJ o) = some ((o.getD 0).toInt64, h') ∧ FrK A H h' ∧ XgA h' A (akD D a (if o = none then 5 else 0)) := by
  unfold s_X11_answeredSum
  cases o with
  | none =>
    obtain ⟨h', e, f1, x⟩ := refuX S k hd (g := 5) (by decide)
    rw [if_pos ((vJ_d none).mpr rfl), vX11 S, e, Option.bind_some, Option.bind_some, if_pos rfl]
    exact ⟨h', rfl, f1, x⟩
  | some v =>
    obtain ⟨h', e, f1, x⟩ := answX S k hd (vJ (some v))
    rw [if_pos rfl] at e
    rw [if_neg (fun z => by cases (vJ_d (some v)).mp z), vX11 S, e, Option.bind_some, Option.bind_some, if_neg (fun z => by cases z)]
    exact ⟨h', rfl, f1, x⟩
theorem askedLoX {h : IH} (S : ShX h A n) (hn : n = dn D) (gs : XgS h A D) (qL : XgL h A D) (gA : XgA h A D) (a b : Int32) : ∃ H, s_X11_askedLog h (A 0) a b = some (if rsL D a b = 0 then some (A (200 + qOf a b)) else none, H) ∧ FrK A h H ∧ Asked H A D a (rsL D a b) := by
  obtain ⟨H, e, fr, k⟩ := askedStX S hn gs gA a
  subst hn
  have wn := S.1
  have SH := fr.shX S
  have gLH : XgL H A D := qL.fr fr (fun f z => by unfold akF at z; omega) (fun f z => z.elim)
  unfold s_X11_askedLog
  rw [vX11 S, e, Option.bind_some]
  show ∃ H', (if stA A D a = none then some (none, H) else (cV H 9 (stA A D a) fun a9 => s_X9_logOf H a9 b).bind fun v3 => if v3 = none then (pI H 11 9 (some (A 0)) 6).bind fun h5 => some (none, h5) else (gI H 4 2 v3).bind fun v6 => if v6 = 0 then some (v3, H) else (pI H 11 9 (some (A 0)) 1).bind fun h8 => some (none, h8)) = _ ∧ _
  rcases stC wn a with ⟨s, hs, rfl⟩ | q
  · have es : stA A D (nI s) = some (A (100 + s)) := by unfold stA; rw [if_pos (stIn wn hs), nI_clamp (by omega)]
    rw [es, if_neg (show ¬ some (A (100 + s)) = none from fun z => by cases z), vX9 SH hs]
    rcases bandC b with ⟨j, hj, rfl⟩ | qb
    · have lq : lvQ (dn D) (3 * s + j) := Or.inl (by omega)
      have eq : qOf (nI s) (nI j) = 3 * s + j := by unfold qOf; rw [nI_clamp (by omega), nI_clamp (by omega)]
      have er : rsL D (nI s) (nI j) = if dms D (3 * s + j) = true then 1 else 0 := by unfold rsL; rw [if_pos (stIn wn hs), if_pos (bandIn hj), eq]
      rw [logOfX SH hs hj, Option.bind_some, if_neg (show ¬ some (A (200 + (3 * s + j))) = none from fun z => by cases z), gX4_2 SH lq, Option.bind_some, (gLH _ (by omega)).1, er, eq]
      cases c : dms D (3 * s + j) with
      | false =>
        rw [if_pos (show bI false = 0 from rfl), if_neg (show ¬ false = true by decide), if_pos rfl]
        have k : Asked H A D (nI s) 0 := by unfold rsS at k; rw [if_pos (stIn wn hs)] at k; exact k
        exact ⟨H, rfl, fr, k⟩
      | true =>
        rw [if_neg (show ¬ bI true = 0 by decide), if_pos rfl, if_neg (show ¬ (1 : Int32) = 0 by decide), pX11_9 SH, Option.bind_some]
        exact ⟨_, rfl, fr.w9 1, k.wr 1⟩
    · have er : rsL D (nI s) b = 6 := by unfold rsL; rw [if_pos (stIn wn hs), if_neg qb]
      rw [logOfX0 qb, Option.bind_some, if_pos rfl, pX11_9 SH, Option.bind_some, er, if_neg (show ¬ (6 : Int32) = 0 by decide)]
      exact ⟨_, rfl, fr.w9 6, k.wr 6⟩
  · have es : stA A D a = none := by unfold stA; rw [if_neg q]
    have er : rsL D a b = 4 := by unfold rsL; rw [if_neg q]
    have k : Asked H A D a 4 := by unfold rsS at k; rw [if_neg q] at k; exact k
    rw [es, if_pos rfl, er, if_neg (show ¬ (4 : Int32) = 0 by decide)]
    exact ⟨H, rfl, fr, k⟩
theorem askedLiX {h : IH} (S : ShX h A n) (hn : n = dn D) (gs : XgS h A D) (qL : XgL h A D) (gA : XgA h A D) (w : WgL D) (a b i : Int32) : ∃ H, s_X11_askedLine h (A 0) a b i = some (if rsI D a b i = 0 then some (A (1000 + eOf a b i)) else none, H) ∧ FrK A h H ∧ Asked H A D a (rsI D a b i) := by
  obtain ⟨H, e, fr, k⟩ := askedLoX S hn gs qL gA a b
  subst hn
  have wn := S.1
  have SH := fr.shX S
  have gLH : XgL H A D := qL.fr fr (fun f z => by unfold akF at z; omega) (fun f z => z.elim)
  unfold s_X11_askedLine
  rw [vX11 S, e, Option.bind_some]
  by_cases c : rsL D a b = 0
  · obtain ⟨s, j, hs, hj, ea, eb, eq, hm⟩ := rsL_0 wn c
    have lq : lvQ (dn D) (3 * s + j) := Or.inl (by omega)
    have w16 := (w.1 (3 * s + j) (by omega)).1
    have er : rsI D a b i = if 0 ≤ i ∧ i < nI (dsz D (3 * s + j)) then 0 else 2 := by unfold rsI; rw [if_pos c, eq]
    rw [c] at k
    rw [if_pos c]
    show ∃ H', (if some (A (200 + qOf a b)) = none then some (none, H) else (cV H 4 (some (A (200 + qOf a b))) fun a7 => s_X4_at H a7 i).bind fun v3 => ((if v3 = none then (pI H 11 9 (some (A 0)) 2).bind fun h5 => some h5 else some H) : Option (IH)).bind fun q6 => some (v3, q6)) = _ ∧ _
    rw [if_neg (fun z => by cases z), eq, vX4 SH lq]
    by_cases d : 0 ≤ i ∧ i < nI (dsz D (3 * s + j))
    · have hz : rsI D a b i = 0 := by rw [er, if_pos d]
      obtain ⟨s', k', j', h1, h2, h3, h4, e1, e2, e3, e4, e5, _⟩ := rsI_0 wn w hz
      have eqq : 3 * s' + k' = 3 * s + j := by rw [← e4, eq]
      rw [eqq] at h3 e5
      unfold s_X4_at
      rw [if_neg (fun z => by rw [lt0] at z; exact z d.1), gX4_1 SH lq, Option.bind_some, (gLH _ (by omega)).2.1, if_neg (fun z => by have := d.2; rw [ltge] at this; exact this z), gX4_0 SH lq, Option.bind_some, e3, rX300 SH lq h4, Option.bind_some, Option.bind_some, Option.bind_some, if_neg (fun z => by cases z), Option.bind_some]
      rw [e3] at hz e5
      rw [hz, if_pos rfl, e5]
      exact ⟨H, rfl, fr, k⟩
    · have hz : rsI D a b i = 2 := by rw [er, if_neg d]
      have ea : s_X4_at H (A (200 + (3 * s + j))) i = some none := by
        unfold s_X4_at
        by_cases d1 : i < 0
        · rw [if_pos d1, Option.bind_some]
        · rw [if_neg d1, gX4_1 SH lq, Option.bind_some, (gLH _ (by omega)).2.1, if_pos (Decidable.byContradiction (fun z => d ⟨Decidable.byContradiction (fun y => d1 ((lt0 i).mpr y)), (ltge _ _).mpr z⟩)), Option.bind_some]
      rw [ea, Option.bind_some, if_pos rfl, pX11_9 SH, Option.bind_some, Option.bind_some, hz, if_neg (show ¬ (2 : Int32) = 0 by decide)]
      exact ⟨_, rfl, fr.w9 2, k.wr 2⟩
  · have er : rsI D a b i = rsL D a b := by unfold rsI; rw [if_neg c]
    rw [if_neg c, er, if_neg c]
    exact ⟨H, rfl, fr, k⟩
theorem askedCoX {h : IH} (S : ShX h A n) (hn : n = dn D) (gs : XgS h A D) (qL : XgL h A D) (gA : XgA h A D) (w : WgL D) (a b i : Int32) : ∃ H, s_X11_askedContact h (A 0) a b i = some (if rsC D a b i = 0 then some (A (1000 + eOf a b i)) else none, H) ∧ FrK A h H ∧ Asked H A D a (rsC D a b i) := by
  obtain ⟨H, e, fr, k⟩ := askedLiX S hn gs qL gA w a b i
  subst hn
  have wn := S.1
  have SH := fr.shX S
  have gLH : XgL H A D := qL.fr fr (fun f z => by unfold akF at z; omega) (fun f z => z.elim)
  unfold s_X11_askedContact
  rw [vX11 S, e, Option.bind_some]
  by_cases c : rsI D a b i = 0
  · obtain ⟨s, j, l, hs, hj, hl, h16, ea, eb, ei, eq, ee, _⟩ := rsI_0 wn w c
    have er : rsC D a b i = if dso D (16 * (3 * s + j) + l) = 0 then 0 else 3 := by unfold rsC; rw [if_pos c, ee]
    have he : (16 * (3 * s + j) + l) / 16 < 3 * dn D := by omega
    have e0 : fI H (100 * 2 + 0) (A (1000 + (16 * (3 * s + j) + l))) = dso D (16 * (3 * s + j) + l) := ((gLH (3 * s + j) (by omega)).2.2 l hl).1
    rw [c] at k
    rw [if_pos c, ee]
    show ∃ H', (if some (A (1000 + (16 * (3 * s + j) + l))) = none then some (some (A (1000 + (16 * (3 * s + j) + l))), H) else (gI H 2 0 (some (A (1000 + (16 * (3 * s + j) + l))))).bind fun v3 => if v3 = 0 then some (some (A (1000 + (16 * (3 * s + j) + l))), H) else (pI H 11 9 (some (A 0)) 3).bind fun h5 => some (none, h5)) = _ ∧ _
    rw [if_neg (fun z => by cases z), gI_ok (c := 2) 0 (kEn SH he), Option.bind_some, e0, er]
    by_cases d : dso D (16 * (3 * s + j) + l) = 0
    · rw [if_pos d, if_pos d, if_pos rfl]
      exact ⟨H, rfl, fr, k⟩
    · rw [if_neg d, if_neg d, if_neg (show ¬ (3 : Int32) = 0 by decide), pX11_9 SH, Option.bind_some]
      exact ⟨_, rfl, fr.w9 3, k.wr 3⟩
  · have er : rsC D a b i = rsI D a b i := by unfold rsC; rw [if_neg c]
    rw [if_neg c, er, if_neg c]
    exact ⟨H, rfl, fr, k⟩
theorem askedHaX {h : IH} (S : ShX h A n) (hN : 2000 ≤ N) (hn : n = dn D) (gs : XgS h A D) (qL : XgL h A D) (gA : XgA h A D) (a : Int32) : ∃ H, s_X11_askedStationWithLog N h (A 0) a = some (if rsH D a = 0 then some (A (100 + a.toNatClampNeg)) else none, H) ∧ FrK A h H ∧ Asked H A D a (rsH D a) := by
  obtain ⟨H, e, fr, k⟩ := askedStX S hn gs gA a
  subst hn
  have wn := S.1
  have SH := fr.shX S
  have gLH : XgL H A D := qL.fr fr (fun f z => by unfold akF at z; omega) (fun f z => z.elim)
  unfold s_X11_askedStationWithLog
  rw [vX11 S, e, Option.bind_some]
  show ∃ H', (if stA A D a = none then some (none, H) else (cV H 9 (stA A D a) fun a6 => s_X9_hasLog N H a6).bind fun v3 => if v3 = 0 then (pI H 11 9 (some (A 0)) 7).bind fun h5 => some (none, h5) else some (stA A D a, H)) = _ ∧ _
  rcases stC wn a with ⟨s, hs, rfl⟩ | q
  · have es : stA A D (nI s) = some (A (100 + s)) := by unfold stA; rw [if_pos (stIn wn hs), nI_clamp (by omega)]
    have er : rsH D (nI s) = if hlB D s = true then 0 else 7 := by unfold rsH; rw [if_pos (stIn wn hs), nI_clamp (by omega)]
    rw [es, if_neg (show ¬ some (A (100 + s)) = none from fun z => by cases z), vX9 SH hs, hasLogX SH hN gLH rfl hs, Option.bind_some, er, nI_clamp (by omega)]
    cases c : hlB D s with
    | false =>
      rw [if_pos (show bI false = 0 from rfl), if_neg (show ¬ false = true by decide), if_neg (show ¬ (7 : Int32) = 0 by decide), pX11_9 SH, Option.bind_some]
      exact ⟨_, rfl, fr.w9 7, k.wr 7⟩
    | true =>
      have k : Asked H A D (nI s) 0 := by unfold rsS at k; rw [if_pos (stIn wn hs)] at k; exact k
      rw [if_neg (show ¬ bI true = 0 by decide), if_pos rfl, if_pos rfl]
      exact ⟨H, rfl, fr, k⟩
  · have es : stA A D a = none := by unfold stA; rw [if_neg q]
    have er : rsH D a = 4 := by unfold rsH; rw [if_neg q]
    have k : Asked H A D a 4 := by unfold rsS at k; rw [if_neg q] at k; exact k
    rw [es, if_pos rfl, er, if_neg (show ¬ (4 : Int32) = 0 by decide)]
    exact ⟨H, rfl, fr, k⟩
end
