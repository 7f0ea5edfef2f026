/-! ===== contacts: which entries are, whom they name, which fit ===== -/
theorem nI_div {a b : Nat} (ha : a < 2147483648) (hb : b < 2147483648) (h0 : 0 < b) : nI a / nI b = nI (a / b) := by
  apply iEq.mpr
  have h1 : a / b ≤ a := Nat.div_le_self a b
  rw [Int32.toInt_div, nIt ha, nIt hb, nIt (by omega), ← Int.ofNat_tdiv]
  generalize a / b = k at h1
  exact bm32 (by omega) (by omega)
def ctB (D : Dt) (e : Nat) : Bool := decide (e % 16 < dsz D (e / 16)) && decide (dso D e = 0)
def whB (D : Dt) (e : Nat) : Bool := decide (0 ≤ dsn D e) && decide (0 ≤ dgt D e)
def fitB (D : Dt) (c d : Nat) : Bool := whB D c && whB D d && decide (dgt D c = dsn D d) && decide (dgt D d = dsn D c)
def tgO (D : Dt) (e : Nat) : Option Nat := if ctB D e = true then withC D (dtl D e) (dtb D e) else none
theorem ct_16 {D : Dt} {q i : Nat} (hi : i < 16) : ctB D (16 * q + i) = true ↔ i < dsz D q ∧ dso D (16 * q + i) = 0 := by
  unfold ctB
  have e1 : (16 * q + i) % 16 = i := by omega
  have e2 : (16 * q + i) / 16 = q := by omega
  rw [e1, e2, Bool.and_eq_true, decide_eq_true_iff, decide_eq_true_iff]
theorem ct_in {D : Dt} {e : Nat} (h : ctB D e = true) : e % 16 < dsz D (e / 16) ∧ dso D e = 0 := by
  unfold ctB at h
  rw [Bool.and_eq_true, decide_eq_true_iff, decide_eq_true_iff] at h
  exact h
theorem ct_lt {D : Dt} (w : WgL D) (wn : dn D ≤ 12) {e : Nat} (he : e < 576) (h : ctB D e = true) : e / 16 < 3 * dn D := by
  have h1 := (ct_in h).1
  by_cases c : e / 16 < 3 * dn D
  · exact c
  · have w1 := w.1 (e / 16) (by omega)
    have := w1.2.1 (w1.2.2.1 (by omega))
    omega
theorem ct_W {D : Dt} (w : WgL D) {e : Nat} (he : e < 576) (h : ctB D e = true) : EnW D e := by
  have h1 := (ct_in h).1
  have := w.2 (e / 16) (by omega) (e % 16) h1
  rw [show 16 * (e / 16) + e % 16 = e by omega] at this
  exact this
theorem tg_lt {D : Dt} {e s : Nat} (h : tgO D e = some s) : s < dn D ∧ ctB D e = true := by
  unfold tgO at h
  by_cases c : ctB D e = true
  · rw [if_pos c] at h
    exact ⟨withC_lt s h, c⟩
  · rw [if_neg c] at h
    cases h
/-! the reference -/
theorem isContactM {h : IH} {m : Nat} {ar : Nat → Nat} (S : ShM h m ar) {D : Dt} (g : MgL h m ar D) (w : WgL D) {e : Nat} (he : e < 576) : s_X12_isContactAt h m (nI e) = some (bI (ctB D e)) := by
  have hq : e / 16 < 36 := by omega
  have w1 := w.1 (e / 16) hq
  unfold s_X12_isContactAt
  rw [show (16 : Int32) = nI 16 from rfl, nI_div (by omega) (by omega) (by omega), mgR 9 S (by decide), Option.bind_some, maI 9 (e / 16) S (by decide) (show e / 16 < 36 by omega), Option.bind_some, g.1 _ hq, nI_mul, nI_sub (by omega), show e - e / 16 * 16 = e % 16 by omega]
  unfold den
  by_cases c : dms D (e / 16) = true
  · have hz := w1.2.1 c
    rw [if_pos c, if_pos (show (-1 : Int32) ≤ nI (e % 16) from by rw [iLe, nIt (by omega)]; have : (-1 : Int32).toInt = -1 := rfl; omega), Option.bind_some, if_pos (Or.inl rfl)]
    have : ctB D e = false := by
      unfold ctB
      rw [hz, decide_eq_false (by omega)]
      rfl
    rw [this]
    rfl
  · rw [if_neg c]
    by_cases d : e % 16 < dsz D (e / 16)
    · have ge := g.2 (e / 16) hq (e % 16) d
      rw [show 16 * (e / 16) + e % 16 = e by omega] at ge
      rw [if_neg (nI_ge d (by omega)), mgR 10 S (by decide), Option.bind_some, maI 10 e S (by decide) (show e < 576 by omega), Option.bind_some, ge.1]
      unfold ctB
      rw [decide_eq_true d, Bool.true_and]
      by_cases c0 : dso D e = 0
      · rw [if_pos c0, decide_eq_true c0, Option.bind_some, if_pos (Or.inr rfl)]
        rfl
      · rw [if_neg c0, decide_eq_false c0, Option.bind_some, if_pos (Or.inl rfl)]
        rfl
    · rw [if_pos (nI_le (by omega) (by omega)), Option.bind_some, if_pos (Or.inl rfl)]
      unfold ctB
      rw [decide_eq_false d]
      rfl
theorem enM {h : IH} {m : Nat} {ar : Nat → Nat} {D : Dt} (g : MgL h m ar D) {e : Nat} (he : e < 576) (c : ctB D e = true) : EnM h ar D e := by
  have h1 := (ct_in c).1
  have := g.2 (e / 16) (by omega) (e % 16) h1
  rw [show 16 * (e / 16) + e % 16 = e by omega] at this
  exact this
theorem isWholeM {h : IH} {m : Nat} {ar : Nat → Nat} (S : ShM h m ar) {D : Dt} (g : MgL h m ar D) {e : Nat} (he : e < 576) (c : ctB D e = true) : s_X12_isWhole h m (nI e) = some (bI (whB D e)) := by
  have ge := enM g he c
  unfold s_X12_isWhole whB
  rw [mgR 15 S (by decide), Option.bind_some, maI 15 e S (by decide) (show e < 576 by omega), Option.bind_some, ge.2.2.2.2.2.1, mgR 16 S (by decide), Option.bind_some, maI 16 e S (by decide) (show e < 576 by omega), Option.bind_some, ge.2.2.2.2.2.2]
  by_cases c1 : 0 ≤ dsn D e
  · rw [if_neg (fun z => (lt0 _).mp z c1), decide_eq_true c1]
    by_cases c2 : 0 ≤ dgt D e
    · rw [if_neg (fun z => (lt0 _).mp z c2), decide_eq_true c2]
      rfl
    · rw [if_pos ((lt0 _).mpr c2), decide_eq_false c2]
      rfl
  · rw [if_pos ((lt0 _).mpr c1), decide_eq_false c1]
    rfl
theorem fitM {h : IH} {m : Nat} {ar : Nat → Nat} (S : ShM h m ar) {D : Dt} (g : MgL h m ar D) {c d : Nat} (hc : c < 576) (hd : d < 576) (cc : ctB D c = true) (cd : ctB D d = true) : s_X12_fit h m (nI c) (nI d) = some (bI (fitB D c d)) := by
  have gc := enM g hc cc
  have gd := enM g hd cd
  unfold s_X12_fit fitB
  rw [mV12 S, isWholeM S g hc cc, Option.bind_some]
  cases hw : whB D c with
  | false => rfl
  | true =>
    rw [if_neg (by decide), mV12 S, isWholeM S g hd cd, Option.bind_some]
    cases hw2 : whB D d with
    | false => rfl
    | true =>
      rw [if_neg (by decide), mgR 16 S (by decide), Option.bind_some, maI 16 c S (by decide) (show c < 576 by omega), Option.bind_some, mgR 15 S (by decide), Option.bind_some, maI 15 d S (by decide) (show d < 576 by omega), Option.bind_some, gc.2.2.2.2.2.2, gd.2.2.2.2.2.1, Option.bind_some, maI 16 d S (by decide) (show d < 576 by omega), Option.bind_some, gd.2.2.2.2.2.2, Option.bind_some, maI 15 c S (by decide) (show c < 576 by omega), Option.bind_some, gc.2.2.2.2.2.1]
      by_cases c1 : dgt D c = dsn D d
      · rw [if_pos c1, decide_eq_true c1]
        by_cases c2 : dgt D d = dsn D c
        · rw [if_pos c2, decide_eq_true c2]
          rfl
        · rw [if_neg c2, decide_eq_false c2]
          rfl
      · rw [if_neg c1, decide_eq_false c1]
        rfl
def hlB (D : Dt) (s : Nat) : Bool := !dms D (3 * s) || !dms D (3 * s + 1) || !dms D (3 * s + 2)
theorem hasLogM {h : IH} {m : Nat} {ar : Nat → Nat} (S : ShM h m ar) {D : Dt} (g : MgS h m ar D) (gL : MgL h m ar D) (w : WgS D) (wL : WgL D) {s : Nat} (hs : s < dn D) : s_X12_hasLog h m (nI s) = some (bI (hlB D s)) := by
  have h12 := w.1
  have sgn : ∀ q, q < 36 → ((0 : Int32) ≤ den D q ↔ dms D q = false) := fun q hq => by
    unfold den
    have := (wL.1 q hq).1
    cases hm : dms D q with
    | true => exact ⟨fun z => absurd (show (0 : Int32) ≤ -1 from z) (by decide), fun z => by cases z⟩
    | false => exact ⟨fun _ => rfl, fun _ => nI_pos' (by omega)⟩
  unfold s_X12_hasLog hlB
  rw [mV12 S, isStationM S g h12, Option.bind_some, ite01, if_pos (stIn h12 hs), show (3 : Int32) = nI 3 from rfl, nI_mul, mgR 9 S (by decide), Option.bind_some, maI 9 _ S (by decide) (show 3 * s < 36 by omega), Option.bind_some, gL.1 _ (by omega), nI_1, Option.bind_some, maI 9 _ S (by decide) (show 3 * s + 1 < 36 by omega), Option.bind_some, gL.1 _ (by omega), Option.bind_some, show (2 : Int32) = nI 2 from rfl, nI_add, maI 9 _ S (by decide) (show 3 * s + 2 < 36 by omega), Option.bind_some, gL.1 _ (by omega)]
  cases h0 : dms D (3 * s) with
  | false =>
    rw [if_pos ((sgn _ (by omega)).mpr h0)]
    rfl
  | true =>
    rw [if_neg (fun z => by rw [(sgn _ (by omega)).mp z] at h0; cases h0)]
    cases h1 : dms D (3 * s + 1) with
    | false =>
      rw [if_pos ((sgn _ (by omega)).mpr h1)]
      rfl
    | true =>
      rw [if_neg (fun z => by rw [(sgn _ (by omega)).mp z] at h1; cases h1)]
      cases h2 : dms D (3 * s + 2) with
      | false =>
        rw [if_neg (fun z => (lt0 _).mp z ((sgn _ (by omega)).mpr h2))]
        rfl
      | true =>
        rw [if_pos ((lt0 _).mpr (fun z => by rw [(sgn _ (by omega)).mp z] at h2; cases h2))]
        rfl
def TgM (h : IH) (ar : Nat → Nat) (D : Dt) : Prop := ∀ e, e < 576 → rI h (ar 18) e = oI (tgO D e)
theorem setCalledM {h : IH} {m : Nat} {ar : Nat → Nat} (S : ShM h m ar) {D : Dt} {N : Nat} (hN : 2000 ≤ N) (g : MgS h m ar D) (gL : MgL h m ar D) (w : WgS D) (wL : WgL D) : ∃ h', s_X12_setCalled N h m = some h' ∧ FM m ar no1 no1 (fun i => i = 18 ∨ i = 19) no1 h h' ∧ TgM h' ar D ∧ ∀ e, e < 576 → rI h' (ar 19) e = -1 := by
  have h12 := w.1
  have row : mRow (fun i => i = 18 ∨ i = 19) := fun i q => by rcases q with q | q <;> subst q <;> decide
  have no : mRow no1 := fun i z => z.elim
  have L : ∀ r e z (H : IH), e + r = 576 → r < z → FM m ar no1 no1 (fun i => i = 18 ∨ i = 19) no1 h H → (∀ i, i < e → rI H (ar 18) i = oI (tgO D i) ∧ rI H (ar 19) i = -1) → ∃ h', s_X12_setCalled_L2 N z m (nI e) H = some h' ∧ FM m ar no1 no1 (fun i => i = 18 ∨ i = 19) no1 h h' ∧ TgM h' ar D ∧ ∀ e, e < 576 → rI h' (ar 19) e = -1 := by
    intro r
    induction r with
    | zero =>
      intro e z H he hz fr q
      obtain ⟨z, rfl⟩ : ∃ y, z = y + 1 := ⟨z - 1, by omega⟩
      rw [s_X12_setCalled_L2.eq_2, if_pos (show (576 : Int32) ≤ nI e from nI_le (a := 576) (by omega) (by omega))]
      exact ⟨H, rfl, fr, fun i hi => (q i (by omega)).1, fun i hi => (q i (by omega)).2⟩
    | succ r ih =>
      intro e z H he hz fr q
      obtain ⟨z, rfl⟩ : ∃ y, z = y + 1 := ⟨z - 1, by omega⟩
      have SH := fr.shM S
      have gH : MgS H m ar D := MgS.fr S fr row g (fun z => z) (fun k z => by omega)
      have gLH : MgL H m ar D := MgL.fr S fr row no gL (fun k z => by omega) (fun k z => z.elim)
      have e48 : e / 48 = (e / 16) / 3 := by omega
      -- whether it is a contact
      have isC : ((if nI (dn D) ≤ nI (e / 48) then some 0 else (cV H 12 (some m) fun a6 => s_X12_isContactAt H a6 (nI e)).bind fun v4 => if v4 = 0 then some 0 else some 1) : Option Int32) = some (bI (ctB D e)) := by
        by_cases c : dn D ≤ e / 48
        · rw [if_pos (nI_le c (by omega))]
          cases hc : ctB D e with
          | false => rfl
          | true =>
            have := ct_lt wL h12 (by omega) hc
            omega
        · rw [if_neg (nI_ge (by omega) (by omega)), mV12 SH, isContactM SH gLH wL (by omega), Option.bind_some]
          cases ctB D e <;> rfl
      have val : ((if bI (ctB D e) = 0 then some (-1) else (gR H 12 14 (some m)).bind fun v10 => (gR H 12 13 (some m)).bind fun v11 => (aI H v11 (nI e)).bind fun v12 => (cV H 12 (some m) fun a14 => s_X12_withCall N H a14 v10 (6 * nI e) v12).bind fun v13 => some v13) : Option Int32) = some (oI (tgO D e)) := by
        unfold tgO
        cases hc : ctB D e with
        | false => rfl
        | true =>
          have ge := enM gLH (show e < 576 by omega) hc
          have we := ct_W wL (show e < 576 by omega) hc
          have w6 := we.2.2.2.1
          rw [if_neg (show ¬ bI true = 0 by decide), mgR 14 SH (by decide), Option.bind_some, mgR 13 SH (by decide), Option.bind_some, maI 13 e SH (by decide) (show e < 576 by omega), Option.bind_some, ge.2.2.2.1, mV12 SH, show (6 : Int32) = nI 6 from rfl, nI_mul, withCallM SH hN gH w (r := 14) (b := dtb D e) (by decide) w6 (show 6 * e + dtl D e ≤ 3456 by omega) (fun k hk => ge.2.2.2.2.1 k hk) (we.2.2.2.2.1 (ct_in hc).2).2, Option.bind_some, if_pos rfl]
      have S16 : ∀ g, ShM (setI H (ar 18) g) m ar := fun g => SH
      have ne : ar 19 ≠ ar 18 := fun z => absurd (S.2.2 19 18 (by decide) (by decide) z) (by decide)
      rw [s_X12_setCalled_L2.eq_2, if_neg (show ¬ (576 : Int32) ≤ nI e from nI_ge (b := 576) (by omega) (by omega)), mgI 1 SH.1, Option.bind_some, gH.1, show (48 : Int32) = nI 48 from rfl, nI_div (by omega) (by omega) (by omega), isC, Option.bind_some, mgR 18 SH (by decide), Option.bind_some, val, Option.bind_some, msI 18 e _ SH (by decide) (show e < 576 by omega), Option.bind_some, mgR 19 (S16 _) (by decide), Option.bind_some, msI 19 e _ (S16 _) (by decide) (show e < 576 by omega), Option.bind_some, nI_1]
      refine ih (e + 1) z _ (by omega) (by omega) ((fr.trans (Fr.sI _ _ _ ⟨18, Or.inl rfl, rfl⟩)).trans (Fr.sI _ _ _ ⟨19, Or.inr rfl, rfl⟩)) (fun i hi => ?_)
      rw [rI_setI_ne _ _ (fun z => ne z.symm), rI_setI, rI_setI, rI_setI_ne _ _ ne]
      unfold upd
      by_cases c : i = e
      · rw [if_pos c, if_pos c, c]
        exact ⟨rfl, rfl⟩
      · rw [if_neg c, if_neg c]
        exact q i (by omega)
  unfold s_X12_setCalled
  obtain ⟨h', a1, a2⟩ := L 576 0 N h (by omega) (by omega) (Fr.refl _) (fun i hi => absurd hi (by omega))
  rw [nI_0] at a1
  rw [a1, Option.bind_some]
  exact ⟨h', rfl, a2⟩
/-! the class -/
theorem contactX {h : IH} {A : Nat → Nat} {n : Nat} (S : ShX h A n) {D : Dt} (g : XgL h A D) (w : WgL D) (hn : n = dn D) {q i : Nat} (hq : q < 3 * dn D) (hi : i < 16) : s_X4_contactAt h (A (200 + q)) (nI i) = some (if ctB D (16 * q + i) = true then some (A (1000 + (16 * q + i))) else none) := by
  subst hn
  have h12 := S.1
  have lq : lvQ (dn D) q := Or.inl hq
  obtain ⟨g1, g2, g3⟩ := g q hq
  have w1 := (w.1 q (by omega)).1
  unfold s_X4_contactAt
  rw [if_neg (nI_pos (by omega)), gX4_1 S lq, Option.bind_some, g2]
  by_cases c : i < dsz D q
  · have ge := g3 i c
    rw [if_neg (nI_ge c (by omega)), gX4_0 S lq, Option.bind_some, rX300 S lq hi, Option.bind_some, gX2_0 S lq hi, Option.bind_some, ge.1]
    by_cases d : dso D (16 * q + i) = 0
    · rw [if_pos d, Option.bind_some, rX300 S lq hi, Option.bind_some, Option.bind_some, if_pos ((ct_16 hi).mpr ⟨c, d⟩)]
    · rw [if_neg d, Option.bind_some, if_neg (fun z => d ((ct_16 hi).mp z).2)]
  · rw [if_pos (nI_le (by omega) (by omega)), Option.bind_some, if_neg (fun z => c ((ct_16 hi).mp z).1)]
theorem enX {h : IH} {A : Nat → Nat} {D : Dt} (g : XgL h A D) {e : Nat} (he : e / 16 < 3 * dn D) (c : ctB D e = true) : EnX h (A (1000 + e)) D e := by
  have h1 := (ct_in c).1
  have := (g (e / 16) he).2.2 (e % 16) h1
  rw [show 16 * (e / 16) + e % 16 = e by omega] at this
  exact this
theorem kEn {h : IH} {A : Nat → Nat} {n : Nat} (S : ShX h A n) {e : Nat} (he : e / 16 < 3 * n) : kd h (A (1000 + e)) = 3 := by
  have := kE S (q := e / 16) (i := e % 16) (Or.inl he) (by omega)
  rw [show 16 * (e / 16) + e % 16 = e by omega] at this
  exact this
theorem lvEn {n e : Nat} (hn : n ≤ 12) (he : e / 16 < 3 * n) : lvX n (1000 + e) := by
  have := lv_e hn (q := e / 16) (i := e % 16) (Or.inl he) (by omega)
  rw [show 16 * (e / 16) + e % 16 = e by omega] at this
  exact this
theorem neEn {h : IH} {A : Nat → Nat} {n : Nat} (S : ShX h A n) {e e' : Nat} (he : e / 16 < 3 * n) (he' : e' / 16 < 3 * n) (hne : e ≠ e') : A (1000 + e) ≠ A (1000 + e') := nA S (lvEn S.1 he) (lvEn S.1 he') (by omega)
theorem m1_in {x : Int32} (h : in_ x (-1) 99999) : x = -1 ↔ ¬ 0 ≤ x := by
  have h1 := h.1
  have e : (-1 : Int32).toInt = -1 := rfl
  have e0 : (0 : Int32).toInt = 0 := rfl
  rw [iEq, iLe, e, e0]
  omega
theorem complX {h : IH} {A : Nat → Nat} {n : Nat} (S : ShX h A n) {D : Dt} (g : XgL h A D) (w : WgL D) (hn : n = dn D) {c : Nat} (hc : c / 16 < 3 * dn D) (cc : ctB D c = true) : s_X2_isComplete h (A (1000 + c)) = some (bI (whB D c)) := by
  subst hn
  have h12 := S.1
  have ge := (enX g hc cc).2.2.2 (ct_in cc).2
  have we := ct_W w (by omega) cc
  have k := kEn S hc
  unfold s_X2_isComplete whB
  rw [gI_ok (c := 2) 4 k, Option.bind_some, gI_ok (c := 2) 5 k, Option.bind_some]
  have e4 : fI h (100 * 2 + 4) (A (1000 + c)) = dsn D c := ge.2.1
  have e5 : fI h (100 * 2 + 5) (A (1000 + c)) = dgt D c := ge.2.2
  rw [e4, e5]
  by_cases c1 : 0 ≤ dsn D c
  · rw [if_neg (fun z => (m1_in we.2.2.2.2.2.1).mp z c1), decide_eq_true c1]
    by_cases c2 : 0 ≤ dgt D c
    · rw [if_neg (fun z => (m1_in we.2.2.2.2.2.2).mp z c2), decide_eq_true c2]
      rfl
    · rw [if_pos ((m1_in we.2.2.2.2.2.2).mpr c2), decide_eq_false c2]
      rfl
  · rw [if_pos ((m1_in we.2.2.2.2.2.1).mpr c1), decide_eq_false c1]
    rfl
theorem ansX {h : IH} {A : Nat → Nat} {n : Nat} (S : ShX h A n) {D : Dt} (g : XgL h A D) (w : WgL D) (hn : n = dn D) {c d : Nat} (hc : c / 16 < 3 * dn D) (hd : d / 16 < 3 * dn D) (cc : ctB D c = true) (cd : ctB D d = true) : s_X2_answersTo h (A (1000 + c)) (some (A (1000 + d))) = some (bI (fitB D c d)) := by
  subst hn
  have h12 := S.1
  have gc := (enX g hc cc).2.2.2 (ct_in cc).2
  have gd := (enX g hd cd).2.2.2 (ct_in cd).2
  have wc := ct_W w (by omega) cc
  have kc := kEn S hc
  have kd' := kEn S hd
  unfold s_X2_answersTo fitB whB
  rw [gI_ok (c := 2) 4 kc, Option.bind_some, gI_ok (c := 2) 5 kc, Option.bind_some, Option.bind_some, gI_ok (c := 2) 4 kd', Option.bind_some, Option.bind_some, gI_ok (c := 2) 5 kd', Option.bind_some]
  have e4 : fI h (100 * 2 + 4) (A (1000 + c)) = dsn D c := gc.2.1
  have e5 : fI h (100 * 2 + 5) (A (1000 + c)) = dgt D c := gc.2.2
  have f4 : fI h (100 * 2 + 4) (A (1000 + d)) = dsn D d := gd.2.1
  have f5 : fI h (100 * 2 + 5) (A (1000 + d)) = dgt D d := gd.2.2
  rw [e4, e5, f4, f5]
  by_cases c1 : 0 ≤ dsn D c
  · rw [if_neg (fun z => (m1_in wc.2.2.2.2.2.1).mp z c1), decide_eq_true c1]
    by_cases c2 : 0 ≤ dgt D c
    · rw [if_neg (fun z => (m1_in wc.2.2.2.2.2.2).mp z c2), decide_eq_true c2]
      by_cases c3 : dgt D c = dsn D d
      · rw [if_pos c3, decide_eq_true c3]
        by_cases c4 : dsn D c = dgt D d
        · rw [if_pos c4, decide_eq_true c4.symm, decide_eq_true (show (0 : Int32) ≤ dsn D d by rw [← c3]; exact c2), decide_eq_true (show (0 : Int32) ≤ dgt D d by rw [← c4]; exact c1)]
          rfl
        · rw [if_neg c4, decide_eq_false (show ¬ dgt D d = dsn D c from fun z => c4 z.symm)]
          simp
          rfl
      · rw [if_neg c3, decide_eq_false c3]
        simp
        rfl
    · rw [if_pos ((m1_in wc.2.2.2.2.2.2).mpr c2), decide_eq_false c2]
      rfl
  · rw [if_pos ((m1_in wc.2.2.2.2.2.1).mpr c1), decide_eq_false c1]
    rfl
theorem hasLogX {h : IH} {A : Nat → Nat} {n : Nat} (S : ShX h A n) {D : Dt} {N : Nat} (hN : 2000 ≤ N) (g : XgL h A D) (hn : n = dn D) {s : Nat} (hs : s < dn D) : s_X9_hasLog N h (A (100 + s)) = some (bI (hlB D s)) := by
  subst hn
  have h12 := S.1
  obtain ⟨z, rfl⟩ : ∃ z, N = z + 1 + 1 + 1 + 1 := ⟨N - 4, by omega⟩
  have st : ∀ b y, b < 3 → s_X9_hasLog_L10 (z + 1 + 1 + 1 + 1) (y + 1) (some (A (120 + s))) 3 (nI b) h = if dms D (3 * s + b) = true then s_X9_hasLog_L10 (z + 1 + 1 + 1 + 1) y (some (A (120 + s))) 3 (nI (b + 1)) h else some (.inl 1) := by
    intro b y hb
    have gq := (g (3 * s + b) (by omega)).1
    rw [s_X9_hasLog_L10.eq_2, if_neg (show ¬ (3 : Int32) ≤ nI b from nI_ge (b := 3) hb (by omega)), rX120 S hs hb, Option.bind_some, gX4_2 S (Or.inl (by omega)), Option.bind_some, gq, nI_1]
    cases dms D (3 * s + b) <;> rfl
  have en : ∀ y, s_X9_hasLog_L10 (z + 1 + 1 + 1 + 1) (y + 1) (some (A (120 + s))) 3 (nI (2 + 1)) h = some (.inr ()) := fun y => by rw [s_X9_hasLog_L10.eq_2, if_pos (by decide)]
  unfold s_X9_hasLog hlB
  rw [gX9_5 S hs, Option.bind_some, lX120 S hs, Option.bind_some, show (0 : Int32) = nI 0 from rfl, st 0 _ (by omega), st 1 _ (by omega), st 2 _ (by omega), en, Nat.add_zero]
  cases dms D (3 * s) <;> cases dms D (3 * s + 1) <;> cases dms D (3 * s + 2) <;> rfl
theorem logOfX {h : IH} {A : Nat → Nat} {n : Nat} (S : ShX h A n) {s b : Nat} (hs : s < n) (hb : b < 3) : s_X9_logOf h (A (100 + s)) (nI b) = some (some (A (200 + (3 * s + b)))) := by
  unfold s_X9_logOf
  rw [if_neg (nI_pos (by omega)), if_neg (show ¬ (3 : Int32) ≤ nI b from nI_ge (b := 3) hb (by omega)), gX9_5 S hs, Option.bind_some, rX120 S hs hb, Option.bind_some, Option.bind_some]
