/-! ===== sums: what both work out ===== -/
def adO (a b : Option Int32) : Option Int32 := match a, b with
  | some x, some y => some (x + y)
  | _, _ => none
theorem adO_none (b : Option Int32) : adO none b = none := by cases b <;> rfl
theorem adO_none' (a : Option Int32) : adO a none = none := by cases a <;> rfl
def foO (p : Nat → Bool) (v : Nat → Option Int32) : Nat → Option Int32
  | 0 => some 0
  | k + 1 => if p k = true then adO (foO p v k) (v k) else foO p v k
theorem foO_t {p : Nat → Bool} {v : Nat → Option Int32} {k : Nat} (h : p k = true) : foO p v (k + 1) = adO (foO p v k) (v k) := if_pos h
theorem foO_f {p : Nat → Bool} {v : Nat → Option Int32} {k : Nat} (h : p k = false) : foO p v (k + 1) = foO p v k := if_neg (by rw [h]; decide)
theorem foO_none {p : Nat → Bool} {v : Nat → Option Int32} {k : Nat} (h : foO p v k = none) : ∀ n, foO p v (k + n) = none := by
  intro n
  induction n with
  | zero => exact h
  | succ n ih =>
    cases c : p (k + n) with
    | true => rw [show k + (n + 1) = k + n + 1 by omega, foO_t c, ih, adO_none]
    | false => rw [show k + (n + 1) = k + n + 1 by omega, foO_f c, ih]
theorem foO_skip {p : Nat → Bool} {v : Nat → Option Int32} {k : Nat} : ∀ n, (∀ j, k ≤ j → j < k + n → p j = false) → foO p v (k + n) = foO p v k := by
  intro n
  induction n with
  | zero => intro _; rfl
  | succ n ih =>
    intro h
    rw [show k + (n + 1) = k + n + 1 by omega, foO_f (h (k + n) (by omega) (by omega)), ih (fun j h1 h2 => h j h1 (by omega))]
noncomputable def gdC (D : Dt) (e : Nat) : Bool := ctB D e && decide (whyF D e = 0)
theorem gdC_iff {D : Dt} {e : Nat} : gdC D e = true ↔ ctB D e = true ∧ whyF D e = 0 := by
  unfold gdC
  rw [Bool.and_eq_true, decide_eq_true_iff]
theorem gdC_f {D : Dt} {e : Nat} (h : ¬ (ctB D e = true ∧ whyF D e = 0)) : gdC D e = false := by
  cases c : gdC D e with
  | false => rfl
  | true => exact absurd (gdC_iff.mp c) h
def tgN (D : Dt) (e : Nat) : Nat := (tgO D e).getD 0
/-- one with WHY 0 is in a pair, so its call is a station's -/
theorem why0 {D : Dt} {e : Nat} (h : whyF D e = 0) : ∃ t, tgO D e = some t ∧ tgN D e = t ∧ t < dn D ∧ t ≠ e / 48 := by
  cases c : parF D e with
  | some d =>
    obtain ⟨t, t1, t2, t3, t4, t5⟩ := parF_some c
    exact ⟨t, t1, by unfold tgN; rw [t1]; rfl, t2, t5⟩
  | none =>
    exfalso
    cases c2 : whB D e with
    | false => rw [whyF_2 c c2] at h; omega
    | true =>
      cases c3 : tgO D e with
      | none =>
        cases c4 : meaF D e with
        | none =>
          rw [whyF_4 c c2 c3 c4] at h
          split at h <;> omega
        | some t => rw [whyF_3 c c2 c3 c4] at h; omega
      | some t =>
        rw [whyF_5 c c2 c3] at h
        split at h <;> omega
noncomputable def ptV (D : Dt) (e : Nat) : Option Int32 := rV D (nI (e / 16 % 3)) (e / 48) (tgN D e)
noncomputable def csO (D : Dt) (s : Nat) (wt : Int32) : Nat → Option Int32 := foO (fun j => gdC D (48 * s + j)) (fun j => (ptV D (48 * s + j)).map (fun v => wt * v))
def ziX (D : Dt) (e : Nat) : Nat := e / 16 % 3 * 40 + (dZ D (tgN D e)).toNatClampNeg
noncomputable def zmB (D : Dt) (s j x : Nat) : Bool := anB (fun i => gdC D (48 * s + i) && decide (ziX D (48 * s + i) = x)) j
theorem zmB_s (D : Dt) (s j x : Nat) : zmB D s (j + 1) x = (zmB D s j x || (gdC D (48 * s + j) && decide (ziX D (48 * s + j) = x))) := rfl
noncomputable def zN (D : Dt) (s : Nat) : Nat := cnt (fun x => zmB D s 48 x) 120
noncomputable def wyN (D : Dt) (s k j : Nat) : Nat := cnt (fun i => ctB D (48 * s + i) && decide (whyF D (48 * s + i) = k)) j
theorem wyN_s (D : Dt) (s k j : Nat) : wyN D s k (j + 1) = wyN D s k j + (if (ctB D (48 * s + j) && decide (whyF D (48 * s + j) = k)) = true then 1 else 0) := rfl
noncomputable def csV (D : Dt) (s : Nat) (wt : Int32) : Option Int32 := (csO D s wt 48).map (fun a => a * nI (zN D s) - dpen D * nI (wyN D s 3 48))
theorem zn_ok {D : Dt} (w : WgS D) {t : Nat} (ht : t < dn D) : dZ D t = nI (dZ D t).toNatClampNeg ∧ (dZ D t).toNatClampNeg < 40 := by
  have q : 0 ≤ (dZ D t).toInt ∧ (dZ D t).toInt ≤ 39 := (w.2.1 t ht).2.1
  refine ⟨clampI (iLe.mpr (by rw [show (0 : Int32).toInt = 0 from rfl]; exact q.1)), ?_⟩
  show (dZ D t).toInt.toNat < 40
  omega
theorem nI_mod3 {a : Nat} (ha : a < 2147483648) : nI a - nI a / 3 * 3 = nI (a % 3) := by
  rw [show (3 : Int32) = nI 3 from rfl, nI_div ha (by omega) (by omega), nI_mul]
  have e : nI a = nI (a % 3) + nI (a / 3 * 3) := by rw [nI_add]; congr 1; omega
  rw [e, Int32.add_sub_cancel]
section
variable {m : Nat} {ar : Nat → Nat} {N : Nat} {D : Dt}
def ptF (f : Nat) : Prop := 1252 ≤ f ∧ f ≤ 1256
abbrev FrPT (m : Nat) (ar : Nat → Nat) : IH → IH → Prop := FM m ar ptF no1 no1 no1
theorem no1_row : mRow no1 := fun _ z => z.elim
theorem pointsM {h : IH} (S : ShM h m ar) (hN : 2000 ≤ N) (gs : MgS h m ar D) (qR : MgR h m ar D) (wS : WgS D) (w : WgL D) (wR : WgR D) (tg : TgM h ar D) {e t : Nat} (he : e < 576) (ht : tgO D e = some t) (f0 : fI h 1252 m = 0 ∨ fI h 1252 m = 1) : ∃ x h', s_X12_pointsOf N h m (nI e) = some (x, h') ∧ FrPT m ar h h' ∧ (fI h' 1252 m = 0 ∨ fI h' 1252 m = 1) ∧ WkR (fI h 1252 m) (fI h' 1252 m) true (ptV D e) x := by
  have wn := wS.1
  obtain ⟨t1, ce⟩ := tg_lt ht
  have e48 : e / 48 < dn D := by have := ct_lt w wn he ce; omega
  have d48 : nI e / 48 = nI (e / 48) := nI_div (b := 48) (by omega) (by omega) (by omega)
  have d16 : nI e / 16 = nI (e / 16) := nI_div (b := 16) (by omega) (by omega) (by omega)
  have r18 : rI h (ar 18) e = nI t := by rw [tg e he, ht]; rfl
  have S1 : ShM (wfI h (1200 + 53) m (nI (e / 48))) m ar := S
  have S2 : ShM (wfI (wfI h (1200 + 53) m (nI (e / 48))) (1200 + 54) m (nI t)) m ar := S
  have S3 : ShM (wfI (wfI (wfI h (1200 + 53) m (nI (e / 48))) (1200 + 54) m (nI t)) (1200 + 55) m (nI (e / 16 % 3))) m ar := S
  have S4 : ShM (wfI (wfI (wfI (wfI h (1200 + 53) m (nI (e / 48))) (1200 + 54) m (nI t)) (1200 + 55) m (nI (e / 16 % 3))) (1200 + 56) m 0) m ar := S
  have f4 : FrPT m ar h (wfI (wfI (wfI (wfI h (1200 + 53) m (nI (e / 48))) (1200 + 54) m (nI t)) (1200 + 55) m (nI (e / 16 % 3))) (1200 + 56) m 0) := (((Fr.wI _ _ _ _ ⟨by unfold ptF; omega, rfl⟩).trans (Fr.wI _ _ _ _ ⟨by unfold ptF; omega, rfl⟩)).trans (Fr.wI _ _ _ _ ⟨by unfold ptF; omega, rfl⟩)).trans (Fr.wI _ _ _ _ ⟨by unfold ptF; omega, rfl⟩)
  have k6 : fI (wfI (wfI (wfI (wfI h (1200 + 53) m (nI (e / 48))) (1200 + 54) m (nI t)) (1200 + 55) m (nI (e / 16 % 3))) (1200 + 56) m 0) 1256 m = nI 0 := fI_wfI _ _ _ _
  have k5 : fI (wfI (wfI (wfI (wfI h (1200 + 53) m (nI (e / 48))) (1200 + 54) m (nI t)) (1200 + 55) m (nI (e / 16 % 3))) (1200 + 56) m 0) 1255 m = nI (e / 16 % 3) := by
    rw [fI_wfI_ne _ _ (by decide)]
    exact fI_wfI _ _ _ _
  have k4 : fI (wfI (wfI (wfI (wfI h (1200 + 53) m (nI (e / 48))) (1200 + 54) m (nI t)) (1200 + 55) m (nI (e / 16 % 3))) (1200 + 56) m 0) 1254 m = nI t := by
    rw [fI_wfI_ne _ _ (by decide), fI_wfI_ne _ _ (by decide)]
    exact fI_wfI _ _ _ _
  have k3 : fI (wfI (wfI (wfI (wfI h (1200 + 53) m (nI (e / 48))) (1200 + 54) m (nI t)) (1200 + 55) m (nI (e / 16 % 3))) (1200 + 56) m 0) 1253 m = nI (e / 48) := by
    rw [fI_wfI_ne _ _ (by decide), fI_wfI_ne _ _ (by decide), fI_wfI_ne _ _ (by decide)]
    exact fI_wfI _ _ _ _
  have k2 : fI (wfI (wfI (wfI (wfI h (1200 + 53) m (nI (e / 48))) (1200 + 54) m (nI t)) (1200 + 55) m (nI (e / 16 % 3))) (1200 + 56) m 0) 1252 m = fI h 1252 m := by
    rw [fI_wfI_ne _ _ (by decide), fI_wfI_ne _ _ (by decide), fI_wfI_ne _ _ (by decide), fI_wfI_ne _ _ (by decide)]
  unfold s_X12_pointsOf
  rw [mgR 18 S (by decide), Option.bind_some, maI 18 e S (by decide) (show e < 576 from he), Option.bind_some, r18, if_pos (nI_pos' (by omega)), mpI 53 _ S.1, Option.bind_some, d48, mgR 18 S1 (by decide), Option.bind_some, maI 18 e S1 (by decide) (show e < 576 from he), Option.bind_some, rI_wfI, r18, mpI 54 _ S1.1, Option.bind_some, d16, nI_mod3 (by omega), mpI 55 _ S2.1, Option.bind_some, mpI 56 _ S3.1, Option.bind_some, mV12 S4]
  generalize wfI (wfI (wfI (wfI h (1200 + 53) m (nI (e / 48))) (1200 + 54) m (nI t)) (1200 + 55) m (nI (e / 16 % 3))) (1200 + 56) m 0 = H at *
  have gsH : MgS H m ar D := gs.fr S f4 no1_row (by unfold ptF; omega) (fun _ z => z.elim)
  have gRH : MgR H m ar D := qR.fr S f4 no1_row (by unfold ptF; omega) (fun z => z) (fun z => z)
  obtain ⟨x, h', j, v, e1, fr, _, _, _, _, fl, ev, wk⟩ := workM (N := N) (bd := nI (e / 16 % 3)) hN wS wR e48 t1 30 40 0 H true (by have := wR.2.1; omega) wR.1 (by omega) S4 gsH gRH k3 k4 k5 k6 (by rw [k2]; exact f0)
  have e1 : s_X12_worked N 40 H m 1 = some (x, h') := e1
  rw [e1, Option.bind_some]
  have hv : ptV D e = v := by
    unfold ptV rV tgN
    rw [ht]
    rw [Nat.sub_zero] at ev
    show (evN (lfV D (nI (e / 16 % 3)) (e / 48) t (dst D (e / 48) t)) (dco D) (dR D) 0).getD 0 none = v
    rw [ev]
    rfl
  refine ⟨x, h', rfl, f4.trans (FM.mo fr (fun f z => by unfold wkF at z; unfold ptF; omega) (fun _ z => z) (fun _ z => z) (fun _ z => z)), fl, ?_⟩
  rw [hv, ← k2]
  exact wk
theorem zerosM {h : IH} (S : ShM h m ar) (hN : 2000 ≤ N) (x1 x2 : Int32) : ∃ h', s_X12_checkedSum_L2 N N m x1 x2 0 h = some h' ∧ FM m ar no1 no1 (e1 69) no1 h h' ∧ ∀ x, x < 120 → rI h' (ar 69) x = 0 := by
  have L : ∀ (r k z : Nat) (H : IH), k + r = 120 → r < z → FM m ar no1 no1 (e1 69) no1 h H → (∀ x, x < k → rI H (ar 69) x = 0) → ∃ h', s_X12_checkedSum_L2 N z m x1 x2 (nI k) H = some h' ∧ FM m ar no1 no1 (e1 69) no1 h h' ∧ ∀ x, x < 120 → rI h' (ar 69) x = 0 := by
    intro r
    induction r with
    | zero =>
      intro k z H hk hz fr q
      obtain ⟨z, rfl⟩ : ∃ y, z = y + 1 := ⟨z - 1, by omega⟩
      have : k = 120 := by omega
      subst this
      rw [s_X12_checkedSum_L2.eq_2, if_pos (by decide)]
      exact ⟨H, rfl, fr, q⟩
    | succ r ih =>
      intro k z H hk hz fr q
      obtain ⟨z, rfl⟩ : ∃ y, z = y + 1 := ⟨z - 1, by omega⟩
      have SH := fr.shM S
      rw [s_X12_checkedSum_L2.eq_2, if_neg (show ¬ (120 : Int32) ≤ nI k from nI_ge (b := 120) (by omega) (by omega)), mgR 69 SH (by decide), Option.bind_some, msZ 69 k SH (by decide) (show k < 120 by omega) (Or.inl rfl), Option.bind_some, nI_1]
      refine ih (k + 1) z _ (by omega) (by omega) (fr.trans (Fr.sI _ _ _ ⟨69, rfl, rfl⟩)) (fun x hx => ?_)
      rw [rI_setI]
      by_cases d : x = k
      · rw [d]; exact if_pos rfl
      · exact (if_neg d).trans (q x (by omega))
  obtain ⟨h', a, b, c⟩ := L 120 0 N h (by omega) (by omega) (Fr.refl _) (fun x hx => absurd hx (by omega))
  rw [nI_0] at a
  exact ⟨h', a, b, c⟩
abbrev FrCS (m : Nat) (ar : Nat → Nat) : IH → IH → Prop := FM m ar ptF no1 (e1 69) no1
theorem e69_row : mRow (e1 69) := fun i z => by cases z; decide
/-- the reference's sum so far -/
def CsI (h H : IH) (m : Nat) (ar : Nat → Nat) (D : Dt) (s : Nat) (wt : Int32) (j : Nat) (x3 x4 x5 : Int32) : Prop := FrCS m ar h H ∧ x4 = nI (cnt (fun x => zmB D s j x) 120) ∧ x5 = nI (wyN D s 3 j) ∧ (∀ x, x < 120 → rI H (ar 69) x = bI (zmB D s j x)) ∧ (fI H 1252 m = 0 ∨ fI H 1252 m = 1) ∧ (fI H 1252 m ≠ 0 ↔ (fI h 1252 m ≠ 0 ∨ csO D s wt j = none)) ∧ ∀ u, csO D s wt j = some u → x3 = u
theorem upd_s (f : Nat → Int32) (k : Nat) (v : Int32) : upd f k v k = v := if_pos rfl
theorem upd_n (f : Nat → Int32) {k j : Nat} (v : Int32) (h : j ≠ k) : upd f k v j = f j := if_neg h
theorem sumM {h : IH} (S : ShM h m ar) (hN : 2000 ≤ N) (gs : MgS h m ar D) (qL : MgL h m ar D) (qR : MgR h m ar D) (gP : MgP h m ar D) (wS : WgS D) (w : WgL D) (wR : WgR D) (wP : WgP D) (ck : CkM h ar D) {s : Nat} (hs : s < dn D) (wt : Int32) : ∀ (r j z : Nat) (H : IH) (x3 x4 x5 : Int32), j + r = 48 → r < z → CsI h H m ar D s wt j x3 x4 x5 → ∃ y3 y4 y5 h', s_X12_checkedSum_L35 N z m (nI s) wt x3 x4 x5 (nI (48 * s + j)) H = some (y3, y4, y5, h') ∧ CsI h h' m ar D s wt 48 y3 y4 y5 := by
  have wn := wS.1
  intro r
  induction r with
  | zero =>
    intro j z H x3 x4 x5 hj hz q
    obtain ⟨z, rfl⟩ : ∃ y, z = y + 1 := ⟨z - 1, by omega⟩
    have : j = 48 := by omega
    subst this
    rw [s_X12_checkedSum_L35.eq_2, show (48 : Int32) = nI 48 from rfl, nI_mul, nI_add, if_pos (nI_le (by omega) (by omega))]
    exact ⟨x3, x4, x5, H, rfl, q⟩
  | succ r ih =>
    intro j z H x3 x4 x5 hj hz q
    obtain ⟨z, rfl⟩ : ∃ y, z = y + 1 := ⟨z - 1, by omega⟩
    obtain ⟨fr, q4, q5, qz, qf, qn, qv⟩ := q
    have SH := fr.shM S
    have gsH : MgS H m ar D := gs.fr S fr e69_row (by unfold ptF; omega) (fun k z => by cases z; omega)
    have gLH : MgL H m ar D := qL.fr S fr e69_row no1_row (fun k z => by cases z; omega) (fun k z => z.elim)
    have gRH : MgR H m ar D := qR.fr S fr e69_row (by unfold ptF; omega) (fun z => by cases z) (fun z => by cases z)
    have gPH : MgP H m ar D := gP.fr fr (by unfold ptF; omega) (by unfold ptF; omega)
    have ckH : CkM H ar D := ck.fr S fr e69_row no1_row (fun z => by cases z) (fun z => by cases z) (fun z => z)
    have he : 48 * s + j < 576 := by omega
    have e48 : (48 * s + j) / 48 = s := by omega
    have w6 := whyF_le D (48 * s + j)
    have cl120 := cnt_le (fun x => zmB D s j x) 120
    have nx : nI (48 * s + j) + 1 = nI (48 * s + (j + 1)) := by rw [nI_1]; rfl
    rw [s_X12_checkedSum_L35.eq_2, show (48 : Int32) = nI 48 from rfl, nI_mul, nI_add, if_neg (nI_ge (by omega) (by omega)), mV12 SH, isContactM SH gLH w he, Option.bind_some, nx]
    have skip : gdC D (48 * s + j) = false → ∀ y5, y5 = nI (wyN D s 3 (j + 1)) → ∃ z3 z4 z5 h', s_X12_checkedSum_L35 N z m (nI s) wt x3 x4 y5 (nI (48 * s + (j + 1))) H = some (z3, z4, z5, h') ∧ CsI h h' m ar D s wt 48 z3 z4 z5 := fun hg y5 hy => by
      have eS : csO D s wt (j + 1) = csO D s wt j := foO_f hg
      have eZ : ∀ x, zmB D s (j + 1) x = zmB D s j x := fun x => by rw [zmB_s, hg, Bool.false_and, Bool.or_false]
      refine ih (j + 1) z H x3 x4 y5 (by omega) (by omega) ⟨fr, ?_, hy, fun x hx => by rw [eZ]; exact qz x hx, qf, by rw [eS]; exact qn, by rw [eS]; exact qv⟩
      rw [q4, show (fun x => zmB D s (j + 1) x) = (fun x => zmB D s j x) from funext eZ]
    cases c : ctB D (48 * s + j) with
    | false =>
      rw [if_pos (show bI false = 0 from rfl), Option.bind_some, if_neg (show ¬ (-1 : Int32) = 3 by decide), Option.bind_some, if_neg (show ¬ (-1 : Int32) = 0 by decide), Option.bind_some]
      refine skip (gdC_f (fun z => by rw [c] at z; cases z.1)) _ ?_
      rw [wyN_s, c, Bool.false_and, if_neg (by decide), q5, Int32.add_zero]
      rfl
    | true =>
      rw [if_neg (show ¬ bI true = 0 by decide), mV12 SH, whyM SH hN gsH gLH gPH wS w wP ckH he c, Option.bind_some, Option.bind_some]
      have i3 : nI (whyF D (48 * s + j)) = 3 ↔ whyF D (48 * s + j) = 3 := nI_eq (b := 3) (by omega) (by omega)
      have i0 : nI (whyF D (48 * s + j)) = 0 ↔ whyF D (48 * s + j) = 0 := nI_eq (b := 0) (by omega) (by omega)
      by_cases c0 : whyF D (48 * s + j) = 0
      · obtain ⟨t, t1, t2, t3, t4⟩ := why0 c0
        obtain ⟨zk, z40⟩ := zn_ok wS t3
        have hg : gdC D (48 * s + j) = true := gdC_iff.mpr ⟨c, c0⟩
        have eI : ziX D (48 * s + j) = (48 * s + j) / 16 % 3 * 40 + (dZ D t).toNatClampNeg := by unfold ziX; rw [t2]
        have hI : ziX D (48 * s + j) < 120 := by rw [eI]; omega
        obtain ⟨v, H2, ev, f2, fl2, wk⟩ := pointsM (N := N) SH hN gsH gRH wS w wR ckH.1 he t1 qf
        have S2 := f2.shM SH
        have wk := wk.2 rfl
        have r3 : rI H2 (ar 3) t = dZ D t := by rw [mrI SH f2 no1_row (by decide) (fun z => z)]; exact (gsH.2.1 t t3).2.1
        have r18 : rI H2 (ar 18) (48 * s + j) = nI t := by
          rw [mrI SH f2 no1_row (by decide) (fun z => z), ckH.1 _ he, t1]
          rfl
        have r69 : rI H2 (ar 69) (ziX D (48 * s + j)) = bI (zmB D s j (ziX D (48 * s + j))) := by
          rw [mrI SH f2 no1_row (by decide) (fun z => z)]
          exact qz _ hI
        have ix : ((nI (48 * s + j) / 16 - nI (48 * s + j) / 16 / 3 * 3) * 40) + dZ D t = nI (ziX D (48 * s + j)) := by
          rw [show (16 : Int32) = nI 16 from rfl, nI_div (by omega) (by omega) (by omega), nI_mod3 (by omega), zk, show (40 : Int32) = nI 40 from rfl, nI_mul, nI_add, eI]
        rw [if_neg (fun z => by rw [i3] at z; omega), Option.bind_some, if_pos (i0.mpr c0), mV12 SH, ev, Option.bind_some]
        show ∃ y3 y4 y5 h', (((gR H2 12 3 (some m)).bind fun v15 => (gR H2 12 18 (some m)).bind fun v16 => (aI H2 v16 (nI (48 * s + j))).bind fun v17 => (aI H2 v15 v17).bind fun v18 => (gR H2 12 69 (some m)).bind fun v19 => (aZ H2 v19 ((((nI (48 * s + j) / 16) - (nI (48 * s + j) / 16) / 3 * 3) * 40) + v18)).bind fun v20 => ((if v20 = 0 then some 1 else some 0) : Option (Int32)).bind fun q22 => (gR H2 12 69 (some m)).bind fun v23 => (sZ H2 v23 ((((nI (48 * s + j) / 16) - (nI (48 * s + j) / 16) / 3 * 3) * 40) + v18) 1).bind fun h24 => some (x3 + (wt * v), x4 + q22, h24)) : Option (Int32 × Int32 × IH)).bind (fun q26 => s_X12_checkedSum_L35 N z m (nI s) wt q26.1 q26.2.1 (x5 + 0) (nI (48 * s + (j + 1))) q26.2.2) = some (y3, y4, y5, h') ∧ _
        rw [mgR 3 S2 (by decide), Option.bind_some, mgR 18 S2 (by decide), Option.bind_some, maI 18 _ S2 (by decide) (show 48 * s + j < 576 from he), Option.bind_some, r18, maI 3 t S2 (by decide) (show t < 12 by omega), Option.bind_some, r3, ix, mgR 69 S2 (by decide), Option.bind_some, maZ 69 _ S2 (by decide) (show ziX D (48 * s + j) < 120 from hI), Option.bind_some, r69]
        have eS : csO D s wt (j + 1) = adO (csO D s wt j) ((ptV D (48 * s + j)).map (fun v => wt * v)) := foO_t hg
        have eZ : ∀ x, zmB D s (j + 1) x = (zmB D s j x || decide (ziX D (48 * s + j) = x)) := fun x => by rw [zmB_s, hg, Bool.true_and]
        have done : ∀ (y4 : Int32), y4 = nI (cnt (fun x => zmB D s (j + 1) x) 120) → ∃ y3 y4' y5 h', s_X12_checkedSum_L35 N z m (nI s) wt (x3 + wt * v) y4 (x5 + 0) (nI (48 * s + (j + 1))) (setI H2 (ar 69) (upd (rI H2 (ar 69)) (ziX D (48 * s + j)) 1)) = some (y3, y4', y5, h') ∧ CsI h h' m ar D s wt 48 y3 y4' y5 := fun y4 hy => by
          refine ih (j + 1) z _ _ y4 _ (by omega) (by omega) ⟨?_, hy, ?_, fun x hx => ?_, ?_, ?_, fun u hu => ?_⟩
          · exact (fr.trans (FM.mo f2 (fun _ z => z) (fun _ z => z) (fun _ z => z.elim) (fun _ z => z))).trans (Fr.sI _ _ _ ⟨69, rfl, rfl⟩)
          · rw [wyN_s, c0, q5, Int32.add_zero, if_neg (by rw [c]; decide)]
            rfl
          · rw [rI_setI, eZ]
            by_cases d : x = ziX D (48 * s + j)
            · rw [d, upd_s, decide_eq_true rfl, Bool.or_true]
              rfl
            · rw [upd_n _ _ d, decide_eq_false (fun z => d z.symm), Bool.or_false, mrI SH f2 no1_row (by decide) (fun z => z)]
              exact qz x hx
          · rw [fI_setI]
            exact fl2
          · rw [fI_setI, wk.1, qn, eS]
            constructor
            · rintro ((h1 | h1) | h1)
              · exact Or.inl h1
              · exact Or.inr (by rw [h1, adO_none])
              · exact Or.inr (by rw [h1]; exact adO_none' _)
            · rintro (h1 | h1)
              · exact Or.inl (Or.inl h1)
              · cases hc : csO D s wt j with
                | none => exact Or.inl (Or.inr rfl)
                | some a =>
                  cases hp : ptV D (48 * s + j) with
                  | none => exact Or.inr rfl
                  | some b => rw [hc, hp] at h1; cases h1
          · rw [eS] at hu
            cases hc : csO D s wt j with
            | none => rw [hc, adO_none] at hu; cases hu
            | some a =>
              cases hp : ptV D (48 * s + j) with
              | none => rw [hp] at hu; rw [show Option.map (fun v => wt * v) none = none from rfl, adO_none'] at hu; cases hu
              | some b =>
                rw [hc, hp] at hu
                have hu : some (a + wt * b) = some u := hu
                cases hu
                rw [qv a hc, wk.2 b hp]
        cases hz0 : zmB D s j (ziX D (48 * s + j)) with
        | false =>
          rw [if_pos (show bI false = 0 from rfl), Option.bind_some, Option.bind_some, msZ 69 _ S2 (by decide) (show ziX D (48 * s + j) < 120 from hI) (Or.inr rfl), Option.bind_some, Option.bind_some]
          refine done _ ?_
          rw [q4, nI_1, cnt_set (p := fun x => zmB D s j x) (q := fun x => zmB D s (j + 1) x) (s := ziX D (48 * s + j)) hz0 (by show zmB D s (j + 1) _ = true; rw [eZ, decide_eq_true rfl, Bool.or_true]) (fun x hx => by show zmB D s (j + 1) x = zmB D s j x; rw [eZ, decide_eq_false (fun z => hx z.symm), Bool.or_false]) 120, if_pos hI]
        | true =>
          rw [if_neg (show ¬ bI true = 0 by decide), Option.bind_some, Option.bind_some, msZ 69 _ S2 (by decide) (show ziX D (48 * s + j) < 120 from hI) (Or.inr rfl), Option.bind_some, Option.bind_some]
          refine done _ ?_
          rw [q4, Int32.add_zero]
          refine congrArg nI (cnt_congr 120 (fun x hx => ?_))
          show zmB D s j x = zmB D s (j + 1) x
          rw [eZ]
          by_cases d : x = ziX D (48 * s + j)
          · rw [d, hz0]; rfl
          · rw [decide_eq_false (fun z => d z.symm), Bool.or_false]
      · by_cases c3 : whyF D (48 * s + j) = 3
        · rw [if_pos (i3.mpr c3), Option.bind_some, if_neg (fun z => c0 (i0.mp z)), Option.bind_some]
          refine skip (gdC_f (fun z => c0 z.2)) _ ?_
          rw [wyN_s, c, c3, if_pos (by decide), q5, nI_1]
        · rw [if_neg (fun z => c3 (i3.mp z)), Option.bind_some, if_neg (fun z => c0 (i0.mp z)), Option.bind_some]
          refine skip (gdC_f (fun z => c0 z.2)) _ ?_
          rw [wyN_s, c, decide_eq_false c3, if_neg (by decide), q5, Int32.add_zero]
          rfl
theorem checkedM {h : IH} (S : ShM h m ar) (hN : 2000 ≤ N) (gs : MgS h m ar D) (qL : MgL h m ar D) (qR : MgR h m ar D) (gP : MgP h m ar D) (wS : WgS D) (w : WgL D) (wR : WgR D) (wP : WgP D) (ck : CkM h ar D) {s : Nat} (hs : s < dn D) (wt : Int32) (f0 : fI h 1252 m = 0 ∨ fI h 1252 m = 1) : ∃ x h', s_X12_checkedSum N h m (nI s) wt = some (x, h') ∧ FrCS m ar h h' ∧ (fI h' 1252 m = 0 ∨ fI h' 1252 m = 1) ∧ WkR (fI h 1252 m) (fI h' 1252 m) true (csV D s wt) x := by
  obtain ⟨h1, a1, a2, a3⟩ := zerosM (N := N) S hN (nI s) wt
  have z0 : ∀ x, zmB D s 0 x = false := fun x => rfl
  have c0 : ∀ n, cnt (fun x => zmB D s 0 x) n = 0 := by
    intro n
    induction n with
    | zero => rfl
    | succ n ih => show cnt (fun x => zmB D s 0 x) n + (if zmB D s 0 n then 1 else 0) = 0; rw [ih, z0]; rfl
  have i0 : CsI h h1 m ar D s wt 0 0 0 0 := by
    refine ⟨FM.mo a2 (fun _ z => z.elim) (fun _ z => z) (fun _ z => z) (fun _ z => z), ?_, rfl, fun x hx => by rw [a3 x hx, z0]; rfl, ?_, ?_, fun u hu => ?_⟩
    · rw [c0]; rfl
    · rw [mfI a2 (fun z => z)]; exact f0
    · rw [mfI a2 (fun z => z)]
      exact ⟨fun z => Or.inl z, fun z => z.elim (fun y => y) (fun y => by cases y)⟩
    · have hu : some (0 : Int32) = some u := hu
      cases hu
      rfl
  obtain ⟨y3, y4, y5, h', b1, fr, b4, b5, _, bf, bn, bv⟩ := sumM (N := N) S hN gs qL qR gP wS w wR wP ck hs wt 48 0 N h1 0 0 0 (by omega) (by omega) i0
  have S' := fr.shM S
  have gPH : MgP h' m ar D := gP.fr fr (by unfold ptF; omega) (by unfold ptF; omega)
  have p22 : fI h' (1200 + 22) m = dpen D := gPH.2
  rw [Nat.add_zero] at b1
  unfold s_X12_checkedSum
  rw [a1, Option.bind_some, show (48 : Int32) = nI 48 from rfl, nI_mul, b1, Option.bind_some]
  show ∃ x h'', ((gI h' 12 22 (some m)).bind fun v29 => some ((y3 * y4) - (v29 * y5), h')) = some (x, h'') ∧ _
  rw [mgI 22 S'.1, Option.bind_some, p22]
  refine ⟨_, h', rfl, fr, bf, fun z => (by cases z), fun _ => ⟨?_, fun u hu => ?_⟩⟩
  · rw [bn]
    unfold csV
    cases hc : csO D s wt 48 with
    | none => exact ⟨fun _ => Or.inr rfl, fun _ => Or.inr rfl⟩
    | some a => exact ⟨fun z => z.elim Or.inl (fun y => by cases y), fun z => z.elim Or.inl (fun y => by cases y)⟩
  · unfold csV at hu
    cases hc : csO D s wt 48 with
    | none => rw [hc] at hu; cases hu
    | some a =>
      rw [hc] at hu
      have hu : some (a * nI (zN D s) - dpen D * nI (wyN D s 3 48)) = some u := hu
      cases hu
      rw [bv a hc, b4, b5]
      rfl
end
