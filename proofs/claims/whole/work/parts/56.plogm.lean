/-! ===== log: what it comes to, and the reference ===== -/
def glD (D : Dt) : List LnT := gdL (dB D) (dT D) (dT D + 1) 0
def wlD (D : Dt) : List Int32 := wrL_ (dB D) (dT D) (dT D + 1) 0 0
def logL (D : Dt) (b : Nat → Int32) (q : Nat) (gl : List LnT) : Dt := uL D (fun p => if p = q then false else dms D p) (fun p => if p = q then gl.length else dsz D p) (fun e => if e / 16 = q then (gl.getD (e % 16) dLn).1 else dso D e) (fun e => if e / 16 = q then (gl.getD (e % 16) dLn).2.1 else dmo D e) (fun e => if e / 16 = q then (gl.getD (e % 16) dLn).2.2.1 else dse D e) (fun e => if e / 16 = q then (gl.getD (e % 16) dLn).2.2.2.2.1 else dtl D e) (fun e => if e / 16 = q then (fun k => b ((gl.getD (e % 16) dLn).2.2.2.1 + k)) else dtb D e) (fun e => if e / 16 = q then (gl.getD (e % 16) dLn).2.2.2.2.2.1 else dsn D e) (fun e => if e / 16 = q then (gl.getD (e % 16) dLn).2.2.2.2.2.2 else dgt D e)
def logF (D : Dt) : Dt := uW (uT D 0 (dB D)) 0 (dwr D)
def logS (D : Dt) (q : Nat) : Dt := logL (uW (uT D 0 (dB D)) (wlD D).length (fun i => (wlD D).getD i 0)) (dB D) q (glD D)
def logC (D : Dt) (a b : Int32) : Prop := (0 ≤ a ∧ a < nI (dn D)) ∧ (0 ≤ b ∧ b < 3) ∧ dK D a.toNatClampNeg ≠ 4 ∧ (glD D).length ≤ 16
def logV (D : Dt) (a b : Int32) : Int32 := if (0 ≤ a ∧ a < nI (dn D)) ∧ (0 ≤ b ∧ b < 3) then (if dK D a.toNatClampNeg = 4 then -2 else if (glD D).length ≤ 16 then nI (glD D).length else -3) else -1
theorem wl_len {D : Dt} (w : WgT D) : (wlD D).length ≤ 1000 := by
  have := wr_len (dB D) (dT D) (dT D + 1) 0 0 (by omega)
  rw [if_pos (by omega)] at this
  have h1 := w.1
  unfold wlD
  omega
theorem gdL_ok {b : Nat → Int32} {T : Nat} : ∀ r c x, x ∈ gdL b T r c → ∃ l c, c ≤ l ∧ l ≤ T ∧ (pLine b l c).2 = some x := by
  intro r
  induction r with
  | zero => intro c x hx; cases hx
  | succ r ih =>
    intro c x hx
    unfold gdL at hx
    by_cases q : c < T
    · have hb := lnE_bd b (l := T) (c := c) (by omega)
      rw [if_pos q] at hx
      cases hp : (pLine b (lnE b T c) c).2 with
      | none =>
        rw [hp] at hx
        exact ih _ x hx
      | some y =>
        rw [hp] at hx
        rcases List.mem_cons.mp hx with h | h
        · subst h
          exact ⟨_, _, hb.1, hb.2, hp⟩
        · exact ih _ x h
    · rw [if_neg q] at hx
      cases hx
theorem gl_ok {D : Dt} {i : Nat} (hi : i < (glD D).length) : ∃ l c, c ≤ l ∧ l ≤ dT D ∧ (pLine (dB D) l c).2 = some ((glD D).getD i dLn) := by
  refine gdL_ok (dT D + 1) 0 _ ?_
  rw [List.getD_eq_getElem?_getD, List.getElem?_eq_getElem hi]
  exact List.getElem_mem hi
theorem gdL_len (b : Nat → Int32) (T : Nat) : ∀ r c, (gdL b T r c).length ≤ r := by
  intro r
  induction r with
  | zero => intro c; exact Nat.le_refl _
  | succ r ih =>
    intro c
    unfold gdL
    have := ih (lnE b T c + 1)
    split
    · split
      · rw [List.length_cons]
        omega
      · omega
    · simp
theorem e1n {k j : Nat} (h : j ≠ k) : ¬ e1 k j := h
def qOf (a b : Int32) : Nat := 3 * a.toNatClampNeg + b.toNatClampNeg
theorem bandC (b : Int32) : (∃ k, k < 3 ∧ b = nI k) ∨ ¬ (0 ≤ b ∧ b < 3) := by
  by_cases q : 0 ≤ b ∧ b < 3
  · have e := clampI q.1
    have h2 := iLt.mp q.2
    have h3 := Int32.toNatClampNeg_lt b
    have e3 : (3 : Int32).toInt = 3 := rfl
    rw [e, nIt (n := b.toNatClampNeg) (by omega), e3] at h2
    exact Or.inl ⟨b.toNatClampNeg, by omega, e⟩
  · exact Or.inr q
theorem bandIn {k : Nat} (hk : k < 3) : 0 ≤ nI k ∧ nI k < 3 := ⟨nI_pos' (by omega), nI_lt (b := 3) hk (by omega)⟩
theorem logW {D : Dt} (wT : WgT D) (wS : WgS D) (w : WgL D) {s k : Nat} (hs : s < dn D) (hk : k < 3) (h4 : dK D s ≠ 4) (hl : (glD D).length ≤ 16) : WgL (logS D (3 * s + k)) := by
  have h12 := wS.1
  refine ⟨fun q hq => ?_, fun q hq i hi => ?_⟩
  · have wq := w.1 q hq
    show (if q = 3 * s + k then (glD D).length else dsz D q) ≤ 16 ∧ ((if q = 3 * s + k then false else dms D q) = true → (if q = 3 * s + k then (glD D).length else dsz D q) = 0) ∧ (3 * dn D ≤ q → (if q = 3 * s + k then false else dms D q) = true) ∧ (q < 3 * dn D → dK D (q / 3) = 4 → (if q = 3 * s + k then false else dms D q) = true)
    by_cases c : q = 3 * s + k
    · rw [if_pos c, if_pos c]
      refine ⟨hl, fun z => (by cases z), fun z => by omega, fun _ z => ?_⟩
      rw [show q / 3 = s by omega] at z
      exact absurd z h4
    · rw [if_neg c, if_neg c]
      exact wq
  · have hi : i < (if q = 3 * s + k then (glD D).length else dsz D q) := hi
    have e1 : (16 * q + i) / 16 = q ∨ 16 ≤ i := by omega
    by_cases c : q = 3 * s + k
    · rw [if_pos c] at hi
      have e2 : (16 * q + i) / 16 = 3 * s + k := by omega
      have e3 : (16 * q + i) % 16 = i := by omega
      obtain ⟨l, c0, q1, q2, q3⟩ := gl_ok hi
      obtain ⟨a1, a2, a3, a4, a5, a6, a7, a8, a9⟩ := pLine_ok q1 _ q3
      unfold EnW
      have k1 : dso (logS D (3 * s + k)) (16 * q + i) = ((glD D).getD i dLn).1 := by show (if (16 * q + i) / 16 = 3 * s + k then ((glD D).getD ((16 * q + i) % 16) dLn).1 else _) = _; rw [if_pos e2, e3]
      have k2 : dmo (logS D (3 * s + k)) (16 * q + i) = ((glD D).getD i dLn).2.1 := by show (if (16 * q + i) / 16 = 3 * s + k then ((glD D).getD ((16 * q + i) % 16) dLn).2.1 else _) = _; rw [if_pos e2, e3]
      have k3 : dse (logS D (3 * s + k)) (16 * q + i) = ((glD D).getD i dLn).2.2.1 := by show (if (16 * q + i) / 16 = 3 * s + k then ((glD D).getD ((16 * q + i) % 16) dLn).2.2.1 else _) = _; rw [if_pos e2, e3]
      have k4 : dtl (logS D (3 * s + k)) (16 * q + i) = ((glD D).getD i dLn).2.2.2.2.1 := by show (if (16 * q + i) / 16 = 3 * s + k then ((glD D).getD ((16 * q + i) % 16) dLn).2.2.2.2.1 else _) = _; rw [if_pos e2, e3]
      have k5 : dtb (logS D (3 * s + k)) (16 * q + i) = fun j => dB D (((glD D).getD i dLn).2.2.2.1 + j) := by show (if (16 * q + i) / 16 = 3 * s + k then (fun j => dB D (((glD D).getD ((16 * q + i) % 16) dLn).2.2.2.1 + j)) else _) = _; rw [if_pos e2, e3]
      have k6 : dsn (logS D (3 * s + k)) (16 * q + i) = ((glD D).getD i dLn).2.2.2.2.2.1 := by show (if (16 * q + i) / 16 = 3 * s + k then ((glD D).getD ((16 * q + i) % 16) dLn).2.2.2.2.2.1 else _) = _; rw [if_pos e2, e3]
      have k7 : dgt (logS D (3 * s + k)) (16 * q + i) = ((glD D).getD i dLn).2.2.2.2.2.2 := by show (if (16 * q + i) / 16 = 3 * s + k then ((glD D).getD ((16 * q + i) % 16) dLn).2.2.2.2.2.2 else _) = _; rw [if_pos e2, e3]
      rw [k1, k2, k3, k4, k5, k6, k7]
      exact ⟨a1, a2, a3, a4, fun z => ⟨(a5 z).1, allB_sh (fun j _ => by rw [Nat.zero_add]) (a5 z).2⟩, a6, a7⟩
    · rw [if_neg c] at hi
      have hi16 := (w.1 q hq).1
      have e2 : ¬ (16 * q + i) / 16 = 3 * s + k := by omega
      have we := w.2 q hq i hi
      unfold EnW
      have k1 : dso (logS D (3 * s + k)) (16 * q + i) = dso D (16 * q + i) := if_neg e2
      have k2 : dmo (logS D (3 * s + k)) (16 * q + i) = dmo D (16 * q + i) := if_neg e2
      have k3 : dse (logS D (3 * s + k)) (16 * q + i) = dse D (16 * q + i) := if_neg e2
      have k4 : dtl (logS D (3 * s + k)) (16 * q + i) = dtl D (16 * q + i) := if_neg e2
      have k5 : dtb (logS D (3 * s + k)) (16 * q + i) = dtb D (16 * q + i) := if_neg e2
      have k6 : dsn (logS D (3 * s + k)) (16 * q + i) = dsn D (16 * q + i) := if_neg e2
      have k7 : dgt (logS D (3 * s + k)) (16 * q + i) = dgt D (16 * q + i) := if_neg e2
      rw [k1, k2, k3, k4, k5, k6, k7]
      exact we
def lgF (f : Nat) : Prop := f = 1217 ∨ f = 1229 ∨ f = 1230 ∨ (1240 ≤ f ∧ f ≤ 1250)
def lgR (i : Nat) : Prop := i = 9 ∨ i = 31 ∨ wrR_ i
def lgQ (i : Nat) : Prop := wrQ_ i
theorem lgR_row : mRow lgR := fun i q => by
  rcases q with q | q | q | q | q | q | q <;> subst q <;> decide
theorem lgQ_row : mRow lgQ := fun i q => by
  rcases q with q | q <;> subst q <;> decide
theorem FrD.toL {m : Nat} {ar : Nat → Nat} {wr : Bool} {h h' : IH} (x : FrD m ar wr h h') : FM m ar lgF rdG lgR lgQ h h' := by
  refine Fr.mono x (fun f a q => ⟨?_, q.2⟩) (fun f a q => q) (fun a ⟨i, q, y⟩ => ⟨i, ?_, y⟩) (fun a ⟨i, q, y⟩ => ⟨i, q.2, y⟩)
  · rcases q.1 with z | z
    · exact Or.inr (Or.inr (Or.inl z))
    · exact Or.inr (Or.inr (Or.inr z))
  · rcases q with z | z
    · exact Or.inr (Or.inl z)
    · exact Or.inr (Or.inr z.2)
theorem logM {h : IH} {m : Nat} {ar : Nat → Nat} (S : ShM h m ar) {D : Dt} {N : Nat} (hN : 2000 ≤ N) (gT : MgT h m ar D) (gS : MgS h m ar D) (gL : MgL h m ar D) (wT : WgT D) (wS : WgS D) (wL : WgL D) (a c : Int32) : ∃ h', s_X12_log N h m a c = some (logV D a c, h') ∧ FM m ar lgF rdG lgR lgQ h h' ∧ ((logC D a c ∧ fI h' 1217 m = 0 ∧ MgT h' m ar (logS D (qOf a c)) ∧ MgL h' m ar (logS D (qOf a c)) ∧ MgW h' m ar (logS D (qOf a c))) ∨ (¬ logC D a c ∧ fI h' 1217 m = fI h 1217 m ∧ MgT h' m ar (logF D) ∧ MgL h' m ar (logF D) ∧ MgW h' m ar (logF D) ∧ FM m ar (fun f => f = 1229 ∨ rdF f) rdG (e1 31) no1 h h')) := by
  have h12 := wS.1
  have hT := wT.1
  unfold s_X12_log logV
  rw [mgI 29 S.1, Option.bind_some, gT.1, mpI 29 _ S.1, Option.bind_some, mpI 30 _ (show kd (wfI h (1200 + 29) m 0) m = 13 from S.1), Option.bind_some]
  generalize h3e : wfI (wfI h (1200 + 29) m 0) (1200 + 30) m 0 = H3
  have S3 : ShM H3 m ar := by rw [← h3e]; exact S
  have f3 : FM m ar (fun f => f = 1229 ∨ rdF f) rdG (e1 31) no1 h H3 := by
    rw [← h3e]
    exact (Fr.wI _ _ _ _ ⟨Or.inl rfl, rfl⟩).trans (Fr.wI _ _ _ _ ⟨Or.inr (Or.inl rfl), rfl⟩)
  have toL : ∀ {x y : IH}, FM m ar (fun f => f = 1229 ∨ rdF f) rdG (e1 31) no1 x y → FM m ar lgF rdG lgR lgQ x y := fun z => Fr.mono z (fun f a q => ⟨by
    rcases q.1 with z | z | z
    · exact Or.inr (Or.inl z)
    · exact Or.inr (Or.inr (Or.inl z))
    · exact Or.inr (Or.inr (Or.inr z)), q.2⟩) (fun f a q => q) (fun a ⟨i, q, y⟩ => ⟨i, Or.inr (Or.inl q), y⟩) (fun a ⟨i, q, _⟩ => q.elim)
  have e31 : mRow (e1 31) := fun i z => by cases z; decide
  have no : mRow no1 := fun i z => z.elim
  have n1217 : ∀ {x y : IH}, FM m ar (fun f => f = 1229 ∨ rdF f) rdG (e1 31) no1 x y → fI y 1217 m = fI x 1217 m := fun z => mfI z (by unfold rdF; omega)
  have t3 : fI H3 1229 m = 0 := by rw [← h3e, fI_wfI_ne _ _ (by decide)]; exact fI_wfI _ _ _ _
  have w3 : fI H3 1230 m = 0 := by rw [← h3e]; exact fI_wfI _ _ _ _
  have fin : ∀ H, FM m ar (fun f => f = 1229 ∨ rdF f) rdG (e1 31) no1 h H → fI H 1229 m = 0 → fI H 1230 m = 0 → MgT H m ar (logF D) ∧ MgL H m ar (logF D) ∧ MgW H m ar (logF D) := by
    intro H fr q1 q2
    refine ⟨⟨q1, ?_⟩, ?_, ⟨q2, fun i hi => absurd hi (Nat.not_lt_zero i)⟩⟩
    · rw [mrI S fr e31 (by decide) (e1n (by decide))]
      exact gT.2
    · exact MgL.fr S fr e31 no gL (fun k z => by cases z; omega) (fun k z => z.elim)
  have g3 : MgS H3 m ar D := MgS.fr S f3 e31 gS (by unfold rdF; omega) (fun k z => by cases z; omega)
  simp only [mV12 S3, isStationM S3 g3 h12, Option.bind_some, ite01]
  rcases stC h12 a with ⟨s, hs, rfl⟩ | qa
  · have ws := stIn h12 hs
    rw [if_pos ws, isIn32 H3 c 0 2 (lo' := 0) (hi' := 2) rfl rfl, Option.bind_some, ite01]
    have e2 : (c ≤ 2) ↔ c < 3 := by
      rw [iLe, iLt]
      have : (2 : Int32).toInt = 2 := rfl
      have : (3 : Int32).toInt = 3 := rfl
      omega
    rcases bandC c with ⟨k, hk, rfl⟩ | qc
    · have wk := bandIn hk
      rw [if_pos ⟨wk.1, e2.mpr wk.2⟩, if_pos ⟨ws, wk⟩, mgR 2 S3 (by decide), Option.bind_some, maI 2 s S3 (by decide) (show s < 12 by omega), Option.bind_some, (g3.2.1 s hs).1, nI_clamp (n := s) (by omega)]
      by_cases q4 : dK D s = 4
      · rw [if_pos q4, if_pos q4]
        refine ⟨H3, rfl, toL f3, Or.inr ⟨fun z => z.2.2.1 (by rw [nI_clamp (by omega)]; exact q4), n1217 f3, (fin H3 f3 t3 w3).1, (fin H3 f3 t3 w3).2.1, (fin H3 f3 t3 w3).2.2, f3⟩⟩
      · rw [if_neg q4, if_neg q4]
        have r3 : rI H3 (ar 28) = dB D := by rw [mrI S f3 e31 (by decide) (e1n (by decide))]; exact gT.2
        have rd : ∀ wr H, ShM H m ar → rI H (ar 28) = dB D → (wr = true → (glD D).length ≤ 16) → ∃ H', s_X12_readLines N H m (nI (3 * s + k)) (bI wr) (nI (dT D)) = some (nI (glD D).length, H') ∧ FrD m ar wr H H' ∧ fI H' 1230 m = nI (wlD D).length ∧ (∀ i, i < (wlD D).length → rI H' (ar 31) i = (wlD D).getD i 0) ∧ SmR H H' ar (16 * (3 * s + k)) (16 * (3 * s + k) + 16) ∧ (wr = true → ∀ i, i < (glD D).length → LnE H' ar (16 * (3 * s + k) + i) (dB D) ((glD D).getD i dLn)) := by
          intro wr H SH rH hw
          have S1 : ShM (wfI H 1230 m 0) m ar := SH
          obtain ⟨H', a1, a2, a3, a4, a5, a6, a7⟩ := readLM (q := 3 * s + k) wr hN hT wT.2 (by omega) (dT D + 1) N 0 0 0 0 (wfI H 1230 m 0) S1 rH (fI_wfI _ _ _ _) (by omega) (by omega) (by omega) (by omega) (by omega) (by rw [Nat.zero_add]; exact hw)
          refine ⟨H', ?_, (Fr.wI _ _ _ _ ⟨Or.inl rfl, rfl⟩).trans a2, ?_, ?_, a6, ?_⟩
          · unfold s_X12_readLines
            rw [mpI 30 _ SH.1, Option.bind_some]
            rw [nI_0, Nat.zero_add] at a1
            have a1' : s_X12_readLines_L14 N N m (nI (3 * s + k)) (bI wr) (nI (dT D)) 0 0 0 (wfI H (1200 + 30) m 0) = some (nI (gdL (dB D) (dT D) (dT D + 1) 0).length, H') := a1
            rw [a1', Option.bind_some]
            rfl
          · rw [Nat.zero_add] at a3
            exact a3
          · intro i hi
            have := a5 i hi
            rw [Nat.zero_add] at this
            exact this
          · intro z i hi
            have := a7 z i hi
            rw [Nat.zero_add] at this
            exact this
        obtain ⟨H11, e11, f11, w11, x11, s11, _⟩ := rd false H3 S3 r3 (fun z => by cases z)
        have S11 := f11.shM S3
        have ei : (3 * nI s) + nI k = nI (3 * s + k) := by rw [show (3 : Int32) = nI 3 from rfl, nI_mul, nI_add]
        have e11 : s_X12_readLines N H3 m (nI (3 * s + k)) 0 (nI (dT D)) = some (nI (glD D).length, H11) := e11
        rw [ei, e11, Option.bind_some]
        have f11' : FM m ar (fun f => f = 1229 ∨ rdF f) rdG (e1 31) no1 H3 H11 := Fr.mono f11 (fun f a z => ⟨Or.inr z.1, z.2⟩) (fun f a z => z) (fun a ⟨i, z, y⟩ => ⟨i, z.resolve_right (fun z => Bool.noConfusion z.1), y⟩) (fun a ⟨i, z, _⟩ => Bool.noConfusion z.1)
        by_cases q16 : (glD D).length ≤ 16
        · rw [if_pos (show nI (glD D).length ≤ 16 from nI_le (b := 16) q16 (by omega)), if_pos q16, mgR 9 S11 (by decide), Option.bind_some, mV12 S11]
          have r11 : rI H11 (ar 28) = dB D := by rw [mrI S3 f11' e31 (by decide) (e1n (by decide))]; exact r3
          obtain ⟨H14, e14, f14, w14, x14, s14, l14⟩ := rd true H11 S11 r11 (fun _ => q16)
          have S14 := f14.shM S11
          have e14 : s_X12_readLines N H11 m (nI (3 * s + k)) 1 (nI (dT D)) = some (nI (glD D).length, H14) := e14
          rw [e14, Option.bind_some, msI 9 (3 * s + k) _ S14 (by decide) (show 3 * s + k < 36 by omega), Option.bind_some]
          have S15 : ∀ g, ShM (setI H14 (ar 9) g) m ar := fun g => S14
          rw [mpZ 17 (S15 _).1 (Or.inl rfl), Option.bind_some]
          generalize hH : wfI (setI H14 (ar 9) (upd (rI H14 (ar 9)) (3 * s + k) (nI (glD D).length))) (1200 + 17) m 0 = H
          have fH : FM m ar (e1 1217) no1 (e1 9) no1 H14 H := by
            rw [← hH]
            exact (Fr.sI _ _ _ ⟨9, rfl, rfl⟩).trans (Fr.wI _ _ _ _ ⟨rfl, rfl⟩)
          have e9 : mRow (e1 9) := fun i z => by cases z; decide
          have f14n : FM m ar lgF rdG lgR lgQ h H14 := ((toL f3).trans (toL f11')).trans f14.toL
          have fA : FM m ar lgF rdG lgR lgQ h H := f14n.trans (Fr.mono fH (fun f a z => ⟨Or.inl z.1, z.2⟩) (fun f a z => z.1.elim) (fun a ⟨i, z, y⟩ => ⟨i, Or.inl z, y⟩) (fun a ⟨i, z, _⟩ => z.elim))
          have sA : SmR h H ar (16 * (3 * s + k)) (16 * (3 * s + k) + 16) := by
            refine (((SmR.fr S f3 e31 no (fun i z => by cases z; omega) (fun i z => z.elim) _ _).trans s11).trans s14).trans ?_
            have n9 : ∀ j, mKd j ≠ 0 → j ≠ 9 → rI H (ar j) = rI H14 (ar j) := fun j h1 h2 => mrI S14 fH e9 h1 h2
            have nL : ∀ j, mKd j ≠ 0 → rL H (ar j) = rL H14 (ar j) := fun j h1 => mrL S14 fH no h1 (fun z => z)
            unfold SmR
            rw [n9 10 (by decide) (by decide), n9 13 (by decide) (by decide), n9 14 (by decide) (by decide), n9 15 (by decide) (by decide), n9 16 (by decide) (by decide), nL 11 (by decide), nL 12 (by decide)]
            exact SmR.refl _ _ _ _
          have r9 : rI H14 (ar 9) = rI h (ar 9) := by
            rw [mrI S11 f14 (rdR_row _) (by decide) (by unfold rdR wrR_; omega), mrI S3 f11' e31 (by decide) (e1n (by decide)), mrI S f3 e31 (by decide) (e1n (by decide))]
          have qe : qOf (nI s) (nI k) = 3 * s + k := by
            unfold qOf
            rw [nI_clamp (by omega), nI_clamp (by omega)]
          refine ⟨H, rfl, fA, Or.inl ⟨⟨ws, wk, by rw [nI_clamp (by omega)]; exact q4, q16⟩, by rw [← hH]; exact fI_wfI _ _ _ _, ⟨?_, ?_⟩, ⟨fun q hq => ?_, fun q hq i hi => ?_⟩, ⟨?_, fun i hi => ?_⟩⟩⟩
          · show fI H 1229 m = 0
            rw [mfI fH (e1n (by decide)), mfI f14 (by unfold rdF; omega), mfI f11 (by unfold rdF; omega), t3]
          · show rI H (ar 28) = dB D
            rw [mrI S14 fH e9 (by decide) (e1n (by decide)), mrI S11 f14 (rdR_row _) (by decide) (by unfold rdR wrR_; omega), r11]
          · rw [qe]
            show rI H (ar 9) q = (if (if q = 3 * s + k then false else dms D q) = true then -1 else nI (if q = 3 * s + k then (glD D).length else dsz D q))
            rw [← hH, rI_wfI, rI_setI]
            unfold upd
            by_cases cq : q = 3 * s + k
            · rw [if_pos cq, if_pos cq, if_pos cq]
              rfl
            · rw [if_neg cq, if_neg cq, if_neg cq, r9]
              exact gL.1 q hq
          · rw [qe] at hi ⊢
            have hi : i < (if q = 3 * s + k then (glD D).length else dsz D q) := hi
            by_cases cq : q = 3 * s + k
            · subst cq
              rw [if_pos rfl] at hi
              have l0 := l14 rfl i hi
              have okx := gl_ok hi
              obtain ⟨l, c0, q1, q2, q3⟩ := okx
              have okx := pLine_ok q1 _ q3
              have n9 : ∀ j, mKd j ≠ 0 → j ≠ 9 → rI H (ar j) = rI H14 (ar j) := fun j h1 h2 => mrI S14 fH e9 h1 h2
              have nL : ∀ j, mKd j ≠ 0 → rL H (ar j) = rL H14 (ar j) := fun j h1 => mrL S14 fH no h1 (fun z => z)
              have e2 : (16 * (3 * s + k) + i) / 16 = 3 * s + k := by omega
              have e3 : (16 * (3 * s + k) + i) % 16 = i := by omega
              have k1 : dso (logS D (3 * s + k)) (16 * (3 * s + k) + i) = ((glD D).getD i dLn).1 := by show (if (16 * (3 * s + k) + i) / 16 = 3 * s + k then ((glD D).getD ((16 * (3 * s + k) + i) % 16) dLn).1 else _) = _; rw [if_pos e2, e3]
              have k2 : dmo (logS D (3 * s + k)) (16 * (3 * s + k) + i) = ((glD D).getD i dLn).2.1 := by show (if (16 * (3 * s + k) + i) / 16 = 3 * s + k then ((glD D).getD ((16 * (3 * s + k) + i) % 16) dLn).2.1 else _) = _; rw [if_pos e2, e3]
              have k3 : dse (logS D (3 * s + k)) (16 * (3 * s + k) + i) = ((glD D).getD i dLn).2.2.1 := by show (if (16 * (3 * s + k) + i) / 16 = 3 * s + k then ((glD D).getD ((16 * (3 * s + k) + i) % 16) dLn).2.2.1 else _) = _; rw [if_pos e2, e3]
              have k4 : dtl (logS D (3 * s + k)) (16 * (3 * s + k) + i) = ((glD D).getD i dLn).2.2.2.2.1 := by show (if (16 * (3 * s + k) + i) / 16 = 3 * s + k then ((glD D).getD ((16 * (3 * s + k) + i) % 16) dLn).2.2.2.2.1 else _) = _; rw [if_pos e2, e3]
              have k5 : dtb (logS D (3 * s + k)) (16 * (3 * s + k) + i) = fun j => dB D (((glD D).getD i dLn).2.2.2.1 + j) := by show (if (16 * (3 * s + k) + i) / 16 = 3 * s + k then (fun j => dB D (((glD D).getD ((16 * (3 * s + k) + i) % 16) dLn).2.2.2.1 + j)) else _) = _; rw [if_pos e2, e3]
              have k6 : dsn (logS D (3 * s + k)) (16 * (3 * s + k) + i) = ((glD D).getD i dLn).2.2.2.2.2.1 := by show (if (16 * (3 * s + k) + i) / 16 = 3 * s + k then ((glD D).getD ((16 * (3 * s + k) + i) % 16) dLn).2.2.2.2.2.1 else _) = _; rw [if_pos e2, e3]
              have k7 : dgt (logS D (3 * s + k)) (16 * (3 * s + k) + i) = ((glD D).getD i dLn).2.2.2.2.2.2 := by show (if (16 * (3 * s + k) + i) / 16 = 3 * s + k then ((glD D).getD ((16 * (3 * s + k) + i) % 16) dLn).2.2.2.2.2.2 else _) = _; rw [if_pos e2, e3]
              unfold EnM
              rw [k1, k2, k3, k4, k5, k6, k7, n9 10 (by decide) (by decide), n9 13 (by decide) (by decide), n9 14 (by decide) (by decide), n9 15 (by decide) (by decide), n9 16 (by decide) (by decide), nL 11 (by decide), nL 12 (by decide)]
              exact l0
            · rw [if_neg cq] at hi
              have hi16 := (wL.1 q hq).1
              have ge := gL.2 q hq i hi
              have we := (wL.2 q hq i hi).2.2.2.1
              have e2 : ¬ (16 * q + i) / 16 = 3 * s + k := by omega
              obtain ⟨a1, a2, a3, a4, a5, a6⟩ := sA.1 (16 * q + i) (by omega)
              have k1 : dso (logS D (3 * s + k)) (16 * q + i) = dso D (16 * q + i) := if_neg e2
              have k2 : dmo (logS D (3 * s + k)) (16 * q + i) = dmo D (16 * q + i) := if_neg e2
              have k3 : dse (logS D (3 * s + k)) (16 * q + i) = dse D (16 * q + i) := if_neg e2
              have k4 : dtl (logS D (3 * s + k)) (16 * q + i) = dtl D (16 * q + i) := if_neg e2
              have k5 : dtb (logS D (3 * s + k)) (16 * q + i) = dtb D (16 * q + i) := if_neg e2
              have k6 : dsn (logS D (3 * s + k)) (16 * q + i) = dsn D (16 * q + i) := if_neg e2
              have k7 : dgt (logS D (3 * s + k)) (16 * q + i) = dgt D (16 * q + i) := if_neg e2
              unfold EnM
              rw [k1, k2, k3, k4, k5, k6, k7, a1, a2, a3, a4, a5, a6]
              refine ⟨ge.1, ge.2.1, ge.2.2.1, ge.2.2.2.1, fun j hj => ?_, ge.2.2.2.2.2⟩
              rw [sA.2 _ (by omega)]
              exact ge.2.2.2.2.1 j hj
          · show fI H 1230 m = nI (wlD D).length
            rw [mfI fH (e1n (by decide)), w14]
          · show rI H (ar 31) i = (wlD D).getD i 0
            rw [mrI S14 fH e9 (by decide) (e1n (by decide))]
            exact x14 i hi
        · have hbig : (glD D).length ≤ 1001 := by
            have := gdL_len (dB D) (dT D) (dT D + 1) 0
            unfold glD
            omega
          rw [if_neg (show ¬ nI (glD D).length ≤ 16 from nI_ge (a := 16) (by omega) (by omega)), if_neg q16, mpI 30 _ S11.1, Option.bind_some]
          have f18 : FM m ar (fun f => f = 1229 ∨ rdF f) rdG (e1 31) no1 h (wfI H11 (1200 + 30) m 0) := (f3.trans f11').trans (Fr.wI _ _ _ _ ⟨Or.inr (Or.inl rfl), rfl⟩)
          have t18 : fI (wfI H11 (1200 + 30) m 0) 1229 m = 0 := by rw [fI_wfI_ne _ _ (by decide), mfI f11 (by unfold rdF; omega), t3]
          have F := fin _ f18 t18 (fI_wfI _ _ _ _)
          exact ⟨_, rfl, toL f18, Or.inr ⟨fun z => q16 z.2.2.2, n1217 f18, F.1, F.2.1, F.2.2, f18⟩⟩
    · rw [if_neg (fun z => qc ⟨z.1, e2.mp z.2⟩), if_neg (fun z => qc z.2)]
      exact ⟨H3, rfl, toL f3, Or.inr ⟨fun z => qc z.2.1, n1217 f3, (fin H3 f3 t3 w3).1, (fin H3 f3 t3 w3).2.1, (fin H3 f3 t3 w3).2.2, f3⟩⟩
  · rw [if_neg qa, if_neg (fun z => qa z.1)]
    exact ⟨H3, rfl, toL f3, Or.inr ⟨fun z => qa z.1, n1217 f3, (fin H3 f3 t3 w3).1, (fin H3 f3 t3 w3).2.1, (fin H3 f3 t3 w3).2.2, f3⟩⟩
