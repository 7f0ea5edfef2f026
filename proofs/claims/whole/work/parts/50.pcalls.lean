/-! ===== calls that touch little: feed, end, wrong, window, penalty, finding, count, join ===== -/
def e1 (k : Nat) : Nat → Prop := fun f => f = k
def bt (v s : Int32) : Int32 := (v >>> (s &&& 31)) &&& 255
theorem sh255 (x : BitVec 32) (s : Nat) (hs : s ≤ 24) : (x >>> s) &&& 255#32 = (x.sshiftRight s) &&& 255#32 := by
  apply BitVec.eq_of_getLsbD_eq
  intro i hi
  have e : (255#32) = (BitVec.allOnes 8).setWidth 32 := by decide
  rw [BitVec.getLsbD_and, BitVec.getLsbD_and, e, BitVec.getLsbD_setWidth, BitVec.getLsbD_allOnes]
  by_cases h8 : i < 8
  · rw [BitVec.getLsbD_ushiftRight, BitVec.getLsbD_sshiftRight]
    have h1 : s + i < 32 := by omega
    simp [h1, Nat.not_le.mpr hi]
  · simp [h8]
theorem bt_eq (v s : Int32) (k : Nat) (hk : k ≤ 24) (hs : s = nI k) : ((v.toUInt32 >>> (s.toUInt32 &&& Int32.toUInt32 31)).toInt32) &&& 255 = bt v s := by
  unfold bt
  apply Int32.toBitVec_inj.mp
  have hk2 : k < 32 := by omega
  have e1 : (v >>> (s &&& 31)).toBitVec = v.toBitVec.sshiftRight k := by
    have e2 : s &&& 31 = nI k := by
      rw [hs]
      have : ∀ k, k < 32 → nI k &&& 31 = nI k := by decide
      exact this k hk2
    rw [e2]
    have : ∀ k, k < 32 → ((nI k).toBitVec.smod 32).toNat = k := by decide
    show v.toBitVec.sshiftRight ((nI k).toBitVec.smod 32).toNat = _
    rw [this k hk2]
  have e3 : ((v.toUInt32 >>> (s.toUInt32 &&& Int32.toUInt32 31)).toInt32).toBitVec = v.toBitVec >>> k := by
    have e4 : s.toUInt32 &&& Int32.toUInt32 31 = UInt32.ofNat k := by
      rw [hs]
      have : ∀ k, k < 32 → (nI k).toUInt32 &&& Int32.toUInt32 31 = UInt32.ofNat k := by decide
      exact this k hk2
    rw [e4]
    have : ∀ k, k < 32 → ((UInt32.ofNat k).toBitVec % 32).toNat = k := by decide
    show v.toBitVec >>> ((UInt32.ofNat k).toBitVec % 32) = _
    rw [BitVec.ushiftRight_eq', this k hk2]
  rw [Int32.toBitVec_and, Int32.toBitVec_and, e1, e3]
  exact sh255 v.toBitVec k hk
theorem addX1 {h : IH} {A : Nat → Nat} {n : Nat} (S : ShX h A n) {T N z : Nat} (hT : fI h 1001 (A 1) = nI T) (h1 : T < 1000) (v : Int32) (s : Nat) (hs : s ≤ 24) : s_X10_add_L3 N (z + 1) (A 1) v (nI s) h = s_X10_add_L3 N z (A 1) v (nI s + (-8)) (wfI (setI h (A 2) (upd (rI h (A 2)) T (bt v (nI s)))) 1001 (A 1) (nI (T + 1))) := by
  rw [s_X10_add_L3.eq_2, if_neg (nI_pos (by omega)), gX10_1 S, Option.bind_some, hT, if_neg (show ¬ (1000 : Int32) ≤ nI T from nI_ge (b := 1000) h1 (by omega)), gX10_0 S, Option.bind_some, Option.bind_some, bt_eq v (nI s) s hs rfl, sXI S 2 _ (by decide) (by decide) (by decide) (show T < LX 2 from h1), Option.bind_some]
  have S2 : ∀ g, ShX (setI h (A 2) g) A n := fun g => S
  rw [gX10_1 (S2 _), Option.bind_some, fI_setI, hT, nI_1, pX10_1 (S2 _), Option.bind_some]
theorem addX {h : IH} {A : Nat → Nat} {n : Nat} (S : ShX h A n) {f g : Nat → Int32} {T k N : Nat} (hN : 2000 ≤ N) (hT : fI h 1001 (A 1) = nI (T + k)) (hr : rI h (A 2) = apd f T g k) (h1 : T + k + 4 ≤ 1000) (v : Int32) (g0 : g k = bt v 24) (g1 : g (k + 1) = bt v 16) (g2 : g (k + 2) = bt v 8) (g3 : g (k + 3) = bt v 0) : ∃ h', s_X10_add N h (A 1) v = some h' ∧ FX A (e1 1001) no1 (e1 2) no1 h h' ∧ fI h' 1001 (A 1) = nI (T + (k + 4)) ∧ rI h' (A 2) = apd f T g (k + 4) := by
  obtain ⟨z, rfl⟩ : ∃ z, N = z + 1 + 1 + 1 + 1 + 1 := ⟨N - 5, by omega⟩
  unfold s_X10_add
  have st : ∀ H : IH, ∀ j w, ShX H A n → FX A (e1 1001) no1 (e1 2) no1 h H → FX A (e1 1001) no1 (e1 2) no1 h (wfI (setI H (A 2) j) 1001 (A 1) w) := fun H j w _ fr => (fr.trans (Fr.sI _ _ _ ⟨2, rfl, rfl⟩)).trans (Fr.wI _ _ _ _ rfl)
  rw [show (24 : Int32) = nI 24 from rfl, addX1 S hT (by omega) v 24 (by omega)]
  generalize hH1 : wfI (setI h (A 2) (upd (rI h (A 2)) (T + k) (bt v (nI 24)))) 1001 (A 1) (nI (T + k + 1)) = H1
  have S1 : ShX H1 A n := by rw [← hH1]; exact S
  have F1 : FX A (e1 1001) no1 (e1 2) no1 h H1 := by rw [← hH1]; exact st _ _ _ S (Fr.refl _)
  have r1 : rI H1 (A 2) = apd f T g (k + 1) := by rw [← hH1, rI_wfI, rI_setI, hr, ← apd_s, g0]; rfl
  have t1 : fI H1 1001 (A 1) = nI (T + (k + 1)) := by rw [← hH1, fI_wfI]; rfl
  rw [show nI 24 + (-8) = nI 16 from by decide, addX1 S1 t1 (by omega) v 16 (by omega)]
  generalize hH2 : wfI (setI H1 (A 2) (upd (rI H1 (A 2)) (T + (k + 1)) (bt v (nI 16)))) 1001 (A 1) (nI (T + (k + 1) + 1)) = H2
  have S2 : ShX H2 A n := by rw [← hH2]; exact S1
  have F2 : FX A (e1 1001) no1 (e1 2) no1 h H2 := by rw [← hH2]; exact st _ _ _ S1 F1
  have r2 : rI H2 (A 2) = apd f T g (k + 2) := by rw [← hH2, rI_wfI, rI_setI, r1, ← apd_s f T g (k + 1), g1]; rfl
  have t2 : fI H2 1001 (A 1) = nI (T + (k + 2)) := by rw [← hH2, fI_wfI]; rfl
  rw [show nI 16 + (-8) = nI 8 from by decide, addX1 S2 t2 (by omega) v 8 (by omega)]
  generalize hH3 : wfI (setI H2 (A 2) (upd (rI H2 (A 2)) (T + (k + 2)) (bt v (nI 8)))) 1001 (A 1) (nI (T + (k + 2) + 1)) = H3
  have S3 : ShX H3 A n := by rw [← hH3]; exact S2
  have F3 : FX A (e1 1001) no1 (e1 2) no1 h H3 := by rw [← hH3]; exact st _ _ _ S2 F2
  have r3 : rI H3 (A 2) = apd f T g (k + 3) := by rw [← hH3, rI_wfI, rI_setI, r2, ← apd_s f T g (k + 2), g2]; rfl
  have t3 : fI H3 1001 (A 1) = nI (T + (k + 3)) := by rw [← hH3, fI_wfI]; rfl
  rw [show nI 8 + (-8) = nI 0 from by decide, addX1 S3 t3 (by omega) v 0 (by omega), s_X10_add_L3.eq_2, if_pos (by decide), Option.bind_some]
  exact ⟨_, rfl, st _ _ _ S3 F3, by rw [fI_wfI]; rfl, by rw [rI_wfI, rI_setI, r3, ← apd_s f T g (k + 3), g3]; rfl⟩
def feedD (D : Dt) (a b c d e : Int32) : Dt := if dT D ≤ 980 then uT D (dT D + 20) (apd (dB D) (dT D) (fb a b c d e) 20) else D
def feedV (D : Dt) : Int32 := if dT D ≤ 980 then nI (dT D + 20) else -1
theorem feedX {h : IH} {A : Nat → Nat} {n : Nat} (S : ShX h A n) {D : Dt} {N : Nat} (hN : 2000 ≤ N) (g : XgT h A D) (w : WgT D) (a b c d e : Int32) : ∃ h', s_X11_feed N h (A 0) a b c d e = some (feedV D, h') ∧ FX A (e1 1001) no1 (e1 2) no1 h h' ∧ XgT h' A (feedD D a b c d e) := by
  have hw := w.1
  unfold s_X11_feed s_X10_hasRoomFor feedV feedD
  simp only [gX11_0 S, vX10 S, gX10_1 S, g.1, Option.bind_some]
  rw [show (1000 : Int32) = nI 1000 from rfl, nI_sub hw]
  by_cases q : dT D ≤ 980
  · rw [if_neg (show ¬ nI (1000 - dT D) < 20 from nI_nlt (b := 20) (by omega) (by omega)), if_pos q, if_pos q, Option.bind_some, if_pos (Or.inr rfl), Option.bind_some, if_neg (by decide)]
    have r0 : rI h (A 2) = apd (dB D) (dT D) (fb a b c d e) 0 := by rw [apd_0]; exact g.2
    obtain ⟨h5, e5, f5, t5, r5⟩ := addX S (T := dT D) (k := 0) hN g.1 r0 (by omega) a rfl rfl rfl rfl
    have S5 := f5.shX S
    obtain ⟨h7, e7, f7, t7, r7⟩ := addX S5 (T := dT D) (k := 4) hN t5 r5 (by omega) b rfl rfl rfl rfl
    have S7 := f7.shX S5
    have f7 := f5.trans f7
    obtain ⟨h9, e9, f9, t9, r9⟩ := addX S7 (T := dT D) (k := 8) hN t7 r7 (by omega) c rfl rfl rfl rfl
    have S9 := f9.shX S7
    have f9 := f7.trans f9
    obtain ⟨h11, e11, f11, t11, r11⟩ := addX S9 (T := dT D) (k := 12) hN t9 r9 (by omega) d rfl rfl rfl rfl
    have S11 := f11.shX S9
    have f11 := f9.trans f11
    obtain ⟨h13, e13, f13, t13, r13⟩ := addX S11 (T := dT D) (k := 16) hN t11 r11 (by omega) e rfl rfl rfl rfl
    have S13 := f13.shX S11
    have f13 := f11.trans f13
    simp only [e5, Option.bind_some, gX11_0 S5, vX10 S5, e7, gX11_0 S7, vX10 S7, e9, gX11_0 S9, vX10 S9, e11, gX11_0 S11, vX10 S11, e13, gX11_0 S13, gX10_1 S13, t13]
    exact ⟨_, rfl, f13, t13, r13⟩
  · rw [if_pos (show nI (1000 - dT D) < 20 from nI_lt (b := 20) (by omega) (by omega)), if_neg q, if_neg q, Option.bind_some, if_pos (Or.inl rfl), Option.bind_some, if_pos rfl]
    exact ⟨h, rfl, Fr.refl _, g⟩
theorem feedMM {h : IH} {m : Nat} {ar : Nat → Nat} (S : ShM h m ar) {D : Dt} {N : Nat} (hN : 2000 ≤ N) (g : MgT h m ar D) (w : WgT D) (a b c d e : Int32) : ∃ h', s_X12_feed N h m a b c d e = some (feedV D, h') ∧ FM m ar (e1 1229) no1 (e1 28) no1 h h' ∧ MgT h' m ar (feedD D a b c d e) := by
  rw [feedM S (by omega) g.1 w.1]
  unfold feedV feedD
  by_cases q : dT D ≤ 980
  · rw [if_pos q, if_pos q, if_pos q]
    exact ⟨_, rfl, (Fr.sI _ _ _ ⟨28, rfl, rfl⟩).trans (Fr.wI _ _ _ _ ⟨rfl, rfl⟩), by rw [fI_wfI]; rfl, by rw [rI_wfI, rI_setI, g.2]; rfl⟩
  · rw [if_neg q, if_neg q, if_neg q]
    exact ⟨h, rfl, Fr.refl _, g⟩
theorem and255 (x : Int32) : 0 ≤ (x &&& 255).toInt ∧ (x &&& 255).toInt < 256 := by
  have e : (x &&& 255).toBitVec = x.toBitVec &&& 255#32 := Int32.toBitVec_and ..
  have e2 : (x &&& 255).toBitVec.toNat < 256 := by
    rw [e, BitVec.toNat_and]
    exact Nat.lt_of_le_of_lt Nat.and_le_right (by decide)
  have e3 : (x &&& 255).toInt = ((x &&& 255).toBitVec.toNat : Int) := by
    rw [← Int32.toInt_toBitVec]
    exact BitVec.toInt_eq_toNat_of_lt (by omega)
  omega
theorem fb_bd (a b c d e : Int32) (k : Nat) : 0 ≤ (fb a b c d e k).toInt ∧ (fb a b c d e k).toInt < 256 := and255 _
theorem feedW {D : Dt} (w : WgT D) (a b c d e : Int32) : WgT (feedD D a b c d e) := by
  unfold feedD
  by_cases q : dT D ≤ 980
  · rw [if_pos q]
    refine ⟨show dT D + 20 ≤ 1000 by omega, fun j hj => ?_⟩
    show 0 ≤ (apd (dB D) (dT D) (fb a b c d e) 20 j).toInt ∧ (apd (dB D) (dT D) (fb a b c d e) 20 j).toInt < 256
    unfold apd
    split
    · exact fb_bd ..
    · exact w.2 j hj
  · rw [if_neg q]
    exact w
/-! end -/
def endD (D : Dt) (a : Int32) : Dt := if 0 ≤ a ∧ a ≤ nI (dT D) then uT D a.toNatClampNeg (dB D) else D
def endV (D : Dt) (a : Int32) : Int32 := if 0 ≤ a ∧ a ≤ nI (dT D) then a else -1
theorem lt0 (a : Int32) : (a < 0) ↔ ¬ (0 ≤ a) := by rw [iLt, iLe]; omega
theorem ltge (a b : Int32) : (a < b) ↔ ¬ (b ≤ a) := by rw [iLt, iLe]; omega
theorem clampI {a : Int32} (h : 0 ≤ a) : a = nI a.toNatClampNeg := by
  obtain ⟨j, hj, rfl⟩ := nI_of (fun z => (lt0 a).mp z h)
  rw [nI_clamp hj]
theorem endX {h : IH} {A : Nat → Nat} {n : Nat} (S : ShX h A n) {D : Dt} (g : XgT h A D) (a : Int32) : ∃ h', s_X11_end h (A 0) a = some (endV D a, h') ∧ FX A (e1 1001) no1 no1 no1 h h' ∧ XgT h' A (endD D a) := by
  unfold s_X11_end endV endD
  by_cases q1 : 0 ≤ a
  · simp only [if_neg (fun z => (lt0 a).mp z q1), gX11_0 S, gX10_1 S, g.1, Option.bind_some, pX10_1 S]
    by_cases q2 : a ≤ nI (dT D)
    · rw [if_pos q2, if_pos ⟨q1, q2⟩, if_pos ⟨q1, q2⟩]
      exact ⟨_, rfl, Fr.wI _ _ _ _ rfl, by rw [fI_wfI]; exact clampI q1, g.2⟩
    · rw [if_neg q2, if_neg (fun z => q2 z.2), if_neg (fun z => q2 z.2)]
      exact ⟨h, rfl, Fr.refl _, g⟩
  · rw [if_pos ((lt0 a).mpr q1), if_neg (fun z => q1 z.1), if_neg (fun z => q1 z.1)]
    exact ⟨h, rfl, Fr.refl _, g⟩
theorem endM {h : IH} {m : Nat} {ar : Nat → Nat} (S : ShM h m ar) {D : Dt} (g : MgT h m ar D) (a : Int32) : ∃ h', s_X12_end h m a = some (endV D a, h') ∧ FM m ar (e1 1229) no1 no1 no1 h h' ∧ MgT h' m ar (endD D a) := by
  unfold s_X12_end endV endD
  rw [mgI 29 S.1, Option.bind_some, g.1, isIn32 h a 0 (nI (dT D)) (lo' := 0) rfl rfl, Option.bind_some, ite01]
  by_cases q : 0 ≤ a ∧ a ≤ nI (dT D)
  · rw [if_pos q, if_pos q, if_pos q, mpI 29 _ S.1, Option.bind_some]
    exact ⟨_, rfl, Fr.wI _ _ _ _ ⟨rfl, rfl⟩, by rw [fI_wfI]; exact clampI q.1, g.2⟩
  · rw [if_neg q, if_neg q, if_neg q]
    exact ⟨h, rfl, Fr.refl _, g⟩
theorem endW {D : Dt} (w : WgT D) (a : Int32) : WgT (endD D a) := by
  unfold endD
  by_cases q : 0 ≤ a ∧ a ≤ nI (dT D)
  · rw [if_pos q]
    have h1 := w.1
    have h2 := iLe.mp q.2
    have h3 := Int32.toNatClampNeg_lt a
    rw [clampI q.1, nIt (n := a.toNatClampNeg) (by omega), nIt (n := dT D) (by omega)] at h2
    exact ⟨show a.toNatClampNeg ≤ 1000 by omega, w.2⟩
  · rw [if_neg q]
    exact w
/-! wrong -/
def wrongV (D : Dt) (a : Int32) : Int32 := if 0 ≤ a ∧ a < nI (dW D) then dwr D a.toNatClampNeg else -1
theorem inW {D : Dt} (w : WgW D) {a : Int32} (q : 0 ≤ a ∧ a < nI (dW D)) : a = nI a.toNatClampNeg ∧ a.toNatClampNeg < dW D := by
  have h1 : dW D ≤ 1000 := w
  have e := clampI q.1
  have h2 := iLt.mp q.2
  have h3 := Int32.toNatClampNeg_lt a
  rw [e, nIt (n := a.toNatClampNeg) (by omega), nIt (n := dW D) (by omega)] at h2
  exact ⟨e, by omega⟩
theorem wrongX {h : IH} {A : Nat → Nat} {n : Nat} (S : ShX h A n) {D : Dt} (g : XgW h A D) (w : WgW D) (a : Int32) : s_X11_wrong h (A 0) a = some (wrongV D a) := by
  unfold s_X11_wrong wrongV
  simp only [gX11_2 S, gX5_3 S, g.1, Option.bind_some, below_spec, ite01, gX5_2 S]
  by_cases q : 0 ≤ a ∧ a < nI (dW D)
  · obtain ⟨e, hl⟩ := inW w q
    have hw : dW D ≤ 1000 := w
    rw [if_pos q, if_pos q]
    conv => lhs; rw [e]
    rw [aXI S 7 (by decide) (by decide) (by decide) (show a.toNatClampNeg < LX 7 from Nat.lt_of_lt_of_le hl hw), Option.bind_some, Option.bind_some, g.2 _ hl]
  · rw [if_neg q, if_neg q, Option.bind_some]
theorem le_pred {a : Int32} {k : Nat} (hk : k < 1000000) : (0 ≤ a ∧ a.toInt64.toInt ≤ ((nI k - 1).toInt64).toInt) ↔ (0 ≤ a ∧ a < nI k) := by
  have e : (nI k - 1).toInt = (k : Int) - 1 := by
    have e1 : (1 : Int32).toInt = 1 := rfl
    rw [is (by rw [nIt (by omega), e1]; omega) (by rw [nIt (by omega), e1]; omega), nIt (by omega), e1]
  rw [il, il, e, iLt, nIt (by omega)]
  constructor
  · intro ⟨x, y⟩
    exact ⟨x, by omega⟩
  · intro ⟨x, y⟩
    exact ⟨x, by omega⟩
theorem isInP (h : IH) (a : Int32) {k : Nat} (hk : k < 1000000) : s_X12_isIn h a.toInt64 0 ((nI k - 1).toInt64) = some (if 0 ≤ a ∧ a < nI k then 1 else 0) := by
  rw [isIn_spec]
  congr 1
  have e := le_pred (a := a) hk
  have e0 : ((0 : Int64) ≤ a.toInt64) ↔ 0 ≤ a := by
    rw [lLe, iLe, il]
    have : (0 : Int64).toInt = 0 := rfl
    have : (0 : Int32).toInt = 0 := rfl
    omega
  by_cases q : 0 ≤ a ∧ a < nI k
  · rw [if_pos q, if_pos ⟨e0.mpr q.1, lLe.mpr (e.mpr q).2⟩]
  · rw [if_neg q, if_neg (fun z => q (e.mp ⟨e0.mp z.1, lLe.mp z.2⟩))]
theorem wrongM {h : IH} {m : Nat} {ar : Nat → Nat} (S : ShM h m ar) {D : Dt} (g : MgW h m ar D) (w : WgW D) (a : Int32) : s_X12_wrong h m a = some (wrongV D a) := by
  have hw : dW D ≤ 1000 := w
  unfold s_X12_wrong wrongV
  rw [mgI 30 S.1, Option.bind_some, g.1, isInP h a (by omega), Option.bind_some, ite01]
  by_cases q : 0 ≤ a ∧ a < nI (dW D)
  · obtain ⟨e, hl⟩ := inW w q
    rw [if_pos q, if_pos q, mgR 31 S (by decide), Option.bind_some]
    conv => lhs; rw [e]
    rw [maI 31 _ S (by decide) (show a.toNatClampNeg < 1000 by omega), Option.bind_some, Option.bind_some, g.2 _ hl]
  · rw [if_neg q, if_neg q, Option.bind_some]
/-! window, penalty -/
def winD (D : Dt) (a : Int32) : Dt := if 0 ≤ a ∧ a < 3601 then uWin D a else D
def penD (D : Dt) (a : Int32) : Dt := if 0 ≤ a ∧ a < 1001 then uPen D a else D
def rngV (a k : Int32) : Int32 := if 0 ≤ a ∧ a < k then 1 else -1
theorem windowX {h : IH} {A : Nat → Nat} {n : Nat} (S : ShX h A n) {D : Dt} (g : XgP h A D) (a : Int32) : ∃ h', s_X11_window h (A 0) a = some (rngV a 3601, h') ∧ FX A (fun f => f = 3 ∨ f = 4) no1 no1 no1 h h' ∧ XgP h' A (winD D a) ∧ ((0 ≤ a ∧ a < 3601) → fI h' 4 (A 13) = 0) ∧ (¬ (0 ≤ a ∧ a < 3601) → h' = h) := by
  unfold s_X11_window s_X0_setWindow rngV winD
  rw [below_spec, Option.bind_some, ite01]
  by_cases q : 0 ≤ a ∧ a < 3601
  · have S2 : ShX (wfI h 3 (A 13) a) A n := S
    rw [if_pos q, if_pos q, if_pos q]
    simp only [gX11_4 S, vX0 S, pX0_3 S, pX0_4z S2 (Or.inl rfl), Option.bind_some]
    exact ⟨_, rfl, (Fr.wI _ _ _ _ (Or.inl rfl)).trans (Fr.wI _ _ _ _ (Or.inr rfl)), ⟨by rw [fI_wfI_ne _ _ (by decide), fI_wfI]; rfl, by rw [fI_wfI_ne _ _ (by decide), fI_wfI_ne _ _ (by decide)]; exact g.2⟩, fun _ => fI_wfI _ _ _ _, fun z => absurd q z⟩
  · rw [if_neg q, if_neg q, if_neg q]
    exact ⟨h, rfl, Fr.refl _, g, fun z => absurd z q, fun _ => rfl⟩
theorem windowM {h : IH} {m : Nat} {ar : Nat → Nat} (S : ShM h m ar) {D : Dt} (g : MgP h m ar D) (a : Int32) : ∃ h', s_X12_window h m a = some (rngV a 3601, h') ∧ FM m ar (fun f => f = 1221 ∨ f = 1217) no1 no1 no1 h h' ∧ MgP h' m ar (winD D a) ∧ ((0 ≤ a ∧ a < 3601) → fI h' 1217 m = 0) ∧ (¬ (0 ≤ a ∧ a < 3601) → h' = h) := by
  unfold s_X12_window rngV winD
  rw [isIn32 h a 0 3600 (lo' := 0) (hi' := 3600) rfl rfl, Option.bind_some, ite01]
  have e : (a ≤ 3600) ↔ a < 3601 := by
    rw [iLe, iLt]
    have : (3600 : Int32).toInt = 3600 := rfl
    have : (3601 : Int32).toInt = 3601 := rfl
    omega
  by_cases q : 0 ≤ a ∧ a < 3601
  · rw [if_pos ⟨q.1, e.mpr q.2⟩, if_pos q, if_pos q, mpI 21 _ S.1, Option.bind_some, mpZ 17 (show kd (wfI h (1200 + 21) m a) m = 13 from S.1) (Or.inl rfl), Option.bind_some]
    exact ⟨_, rfl, (Fr.wI _ _ _ _ ⟨Or.inl rfl, rfl⟩).trans (Fr.wI _ _ _ _ ⟨Or.inr rfl, rfl⟩), ⟨by rw [fI_wfI_ne _ _ (by decide), fI_wfI]; rfl, by rw [fI_wfI_ne _ _ (by decide), fI_wfI_ne _ _ (by decide)]; exact g.2⟩, fun _ => fI_wfI _ _ _ _, fun z => absurd q z⟩
  · rw [if_neg (fun z => q ⟨z.1, e.mp z.2⟩), if_neg q, if_neg q]
    exact ⟨h, rfl, Fr.refl _, g, fun z => absurd z q, fun _ => rfl⟩
theorem penaltyX {h : IH} {A : Nat → Nat} {n : Nat} (S : ShX h A n) {D : Dt} (g : XgP h A D) (a : Int32) : ∃ h', s_X11_penalty h (A 0) a = some (rngV a 1001, h') ∧ FX A (e1 802) no1 no1 no1 h h' ∧ XgP h' A (penD D a) := by
  unfold s_X11_penalty rngV penD
  rw [below_spec, Option.bind_some, ite01]
  by_cases q : 0 ≤ a ∧ a < 1001
  · rw [if_pos q, if_pos q, if_pos q]
    simp only [gX11_5 S, pX8_2 S, Option.bind_some]
    exact ⟨_, rfl, Fr.wI _ _ _ _ rfl, by rw [fI_wfI_ne _ _ (by decide)]; exact g.1, by rw [fI_wfI]; rfl⟩
  · rw [if_neg q, if_neg q, if_neg q]
    exact ⟨h, rfl, Fr.refl _, g⟩
theorem penaltyM {h : IH} {m : Nat} {ar : Nat → Nat} (S : ShM h m ar) {D : Dt} (g : MgP h m ar D) (a : Int32) : ∃ h', s_X12_penalty h m a = some (rngV a 1001, h') ∧ FM m ar (e1 1222) no1 no1 no1 h h' ∧ MgP h' m ar (penD D a) := by
  unfold s_X12_penalty rngV penD
  rw [isIn32 h a 0 1000 (lo' := 0) (hi' := 1000) rfl rfl, Option.bind_some, ite01]
  have e : (a ≤ 1000) ↔ a < 1001 := by
    rw [iLe, iLt]
    have : (1000 : Int32).toInt = 1000 := rfl
    have : (1001 : Int32).toInt = 1001 := rfl
    omega
  by_cases q : 0 ≤ a ∧ a < 1001
  · rw [if_pos ⟨q.1, e.mpr q.2⟩, if_pos q, if_pos q, mpI 22 _ S.1, Option.bind_some]
    exact ⟨_, rfl, Fr.wI _ _ _ _ ⟨rfl, rfl⟩, by rw [fI_wfI_ne _ _ (by decide)]; exact g.1, by rw [fI_wfI]; rfl⟩
  · rw [if_neg (fun z => q ⟨z.1, e.mp z.2⟩), if_neg q, if_neg q]
    exact ⟨h, rfl, Fr.refl _, g⟩
theorem winW {D : Dt} (w : WgP D) (a : Int32) : WgP (winD D a) := by
  unfold winD
  by_cases q : 0 ≤ a ∧ a < 3601
  · rw [if_pos q]
    have h1 := iLe.mp q.1
    have h2 := iLt.mp q.2
    have : (3601 : Int32).toInt = 3601 := rfl
    exact ⟨⟨h1, show a.toInt ≤ 3600 by omega⟩, w.2⟩
  · rw [if_neg q]
    exact w
theorem penW {D : Dt} (w : WgP D) (a : Int32) : WgP (penD D a) := by
  unfold penD
  by_cases q : 0 ≤ a ∧ a < 1001
  · rw [if_pos q]
    have h1 := iLe.mp q.1
    have h2 := iLt.mp q.2
    have : (1001 : Int32).toInt = 1001 := rfl
    exact ⟨w.1, ⟨h1, show a.toInt ≤ 1000 by omega⟩⟩
  · rw [if_neg q]
    exact w
/-! finding, count -/
theorem findingX {h : IH} {A : Nat → Nat} {n : Nat} (S : ShX h A n) {D : Dt} (g : XgA h A D) : s_X11_finding h (A 0) = some (dfi D) := by
  unfold s_X11_finding
  rw [gX11_9 S, Option.bind_some, g.1]
theorem findingM {h : IH} {m : Nat} {ar : Nat → Nat} (S : ShM h m ar) {D : Dt} (g : MgA h m ar D) : s_X12_finding h m = some (dfi D) := by
  unfold s_X12_finding
  rw [mgI 36 S.1, Option.bind_some, g.1]
def countV (D : Dt) (a : Int32) : Int32 := if a = 0 then nI (dn D) else if a = 1 then nI (dT D) else if a = 2 then nI (dW D) else if a = 3 then nI (dop D) else if a = 4 then nI (dop D) else if a = 5 then das D else if a = 6 then dfa D else if a = 7 then nI (dE D) else -1
theorem countX {h : IH} {A : Nat → Nat} {n : Nat} (S : ShX h A n) {D : Dt} (g1 : XgS h A D) (g2 : XgT h A D) (g3 : XgW h A D) (g4 : XgA h A D) (g5 : XgE h A D) (a : Int32) : s_X11_count h (A 0) a = some (countV D a) := by
  unfold s_X11_count countV
  simp only [gX11_1 S, gX7_1 S, g1.1, gX11_0 S, gX10_1 S, g2.1, gX11_2 S, gX5_3 S, g3.1, gX11_10 S, g4.2.1, gX11_11 S, g4.2.2.1, gX11_12 S, g4.2.2.2.1, gX11_13 S, g4.2.2.2.2, gX11_8 S, g5.1, Option.bind_some, ite_some]
theorem countM {h : IH} {m : Nat} {ar : Nat → Nat} (S : ShM h m ar) {D : Dt} (g1 : MgS h m ar D) (g2 : MgT h m ar D) (g3 : MgW h m ar D) (g4 : MgA h m ar D) (g5 : MgE h m ar D) (a : Int32) : s_X12_count h m a = some (countV D a) := by
  unfold s_X12_count countV
  simp only [mgI 1 S.1, mgI 29 S.1, mgI 30 S.1, mgI 39 S.1, mgI 37 S.1, mgI 38 S.1, mgI 32 S.1, g1.1, g2.1, g3.1, g4.2.1, g4.2.2.1, g4.2.2.2, g5.1, Option.bind_some, ite_some]
