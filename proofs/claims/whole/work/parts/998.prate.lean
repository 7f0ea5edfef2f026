/-! ===== rate ===== -/
def mmS (o : Option (Int × Int)) (v : Int) : Option (Int × Int) := match o with
  | none => some (v, v)
  | some (a, b) => some (if v < a then v else a, if b < v then v else b)
def mmF (D : Dt) (s : Nat) : Nat → Option (Int × Int)
  | 0 => none
  | j + 1 => if ctB D (48 * s + j) = true then mmS (mmF D s j) (dmo D (48 * s + j)).toInt else mmF D s j
theorem mmF_t {D : Dt} {s j : Nat} (h : ctB D (48 * s + j) = true) : mmF D s (j + 1) = mmS (mmF D s j) (dmo D (48 * s + j)).toInt := if_pos h
theorem mmF_f {D : Dt} {s j : Nat} (h : ctB D (48 * s + j) = false) : mmF D s (j + 1) = mmF D s j := if_neg (by rw [h]; decide)
def spF (D : Dt) (s : Nat) : Int := match mmF D s 48 with
  | none => 0
  | some (a, b) => b - a
theorem mm_bd {D : Dt} (w : WgL D) {s : Nat} (hs : s < 12) : ∀ j, j ≤ 48 → ∀ a b, mmF D s j = some (a, b) → 0 ≤ a ∧ a ≤ b ∧ b ≤ 9999999999 := by
  intro j
  induction j with
  | zero => intro _ a b h; cases h
  | succ j ih =>
    intro hj a b h
    cases c : ctB D (48 * s + j) with
    | false => rw [mmF_f c] at h; exact ih (by omega) a b h
    | true =>
      have wb : 0 ≤ (dmo D (48 * s + j)).toInt ∧ (dmo D (48 * s + j)).toInt ≤ 9999999999 := (ct_W w (by omega) c).2.1
      rw [mmF_t c] at h
      cases m : mmF D s j with
      | none =>
        rw [m] at h
        have h : some ((dmo D (48 * s + j)).toInt, (dmo D (48 * s + j)).toInt) = some (a, b) := h
        cases h
        omega
      | some y =>
        obtain ⟨a', b'⟩ := y
        have := ih (by omega) a' b' m
        rw [m] at h
        have h : some (if (dmo D (48 * s + j)).toInt < a' then (dmo D (48 * s + j)).toInt else a', if b' < (dmo D (48 * s + j)).toInt then (dmo D (48 * s + j)).toInt else b') = some (a, b) := h
        cases h
        refine ⟨?_, ?_, ?_⟩
        · split <;> omega
        · split <;> split <;> omega
        · split <;> omega
noncomputable def ratF (D : Dt) (a : Int32) : Int32 := if rsH D a = 0 then (if spF D a.toNatClampNeg = 0 then 5 else 0) else rsH D a
noncomputable def ratV (D : Dt) (a : Int32) : Int64 := if rsH D a = 0 then (if spF D a.toNatClampNeg = 0 then 0 else (3600 * (nI (wyN D a.toNatClampNeg 0 48)).toInt64) / Int64.ofInt (spF D a.toNatClampNeg)) else 0
theorem maxL (h : IH) (a b : Int64) : ∃ v, s_J9_max_f86c9 h a b = some v ∧ v.toInt = if a.toInt < b.toInt then b.toInt else a.toInt := by
  unfold s_J9_max_f86c9
  have e : lg_cmp a b < 0 ↔ a.toInt < b.toInt := by rw [lc_lt, lLt]
  by_cases c : a.toInt < b.toInt
  · rw [if_pos (e.mpr c), if_pos c, Option.bind_some]
    exact ⟨b, rfl, rfl⟩
  · rw [if_neg (fun z => c (e.mp z)), if_neg c, Option.bind_some]
    exact ⟨a, rfl, rfl⟩
section
variable {A : Nat → Nat} {n N : Nat} {D : Dt}
def SpX (x1 x3 : Int64) (o : Option (Int × Int)) : Prop := x1.toInt = (o.map Prod.fst).getD nvr ∧ x3.toInt = (o.map Prod.snd).getD 0
theorem spanX {h : IH} (S : ShX h A n) (hN : 2000 ≤ N) (hn : n = dn D) (qL : XgL h A D) (w : WgL D) {s : Nat} (hs : s < dn D) : ∃ v, s_X9_spanOfContacts N h (A (100 + s)) = some v ∧ v.toInt = spF D s := by
  subst hn
  have wn := S.1
  have L1 : ∀ b, b < 3 → ∀ (x5 : Option Nat) (x6 x7 : Int32) (r i z : Nat) (x1 x3 : Int64), i + r = dsz D (3 * s + b) → r < z → SpX x1 x3 (mmF D s (16 * b + i)) → ∃ y1 y3, s_X9_spanOfContacts_L37 N z x1 x3 x5 x6 x7 (some (A (200 + (3 * s + b)))) (nI i) h = some (y1, y3) ∧ SpX y1 y3 (mmF D s (16 * (b + 1))) := by
    intro b hb x5 x6 x7 r
    have hq : 3 * s + b < 3 * dn D := by omega
    have w16 := (w.1 (3 * s + b) (by omega)).1
    have lq : lvQ (dn D) (3 * s + b) := Or.inl hq
    induction r with
    | zero =>
      intro i z x1 x3 hi hz q
      obtain ⟨z, rfl⟩ : ∃ y, z = y + 1 := ⟨z - 1, by omega⟩
      have e : ∀ r', r' ≤ 16 - i → mmF D s (16 * b + i + r') = mmF D s (16 * b + i) := by
        intro r'
        induction r' with
        | zero => intro _; rfl
        | succ r' ih' =>
          intro hr
          have cf : ctB D (48 * s + (16 * b + i + r')) = false := by
            cases x : ctB D (48 * s + (16 * b + i + r')) with
            | false => rfl
            | true =>
              have := (ct_in x).1
              rw [show (48 * s + (16 * b + i + r')) / 16 = 3 * s + b by omega] at this
              omega
          rw [show 16 * b + i + (r' + 1) = 16 * b + i + r' + 1 by omega, mmF_f cf, ih' (by omega)]
      have e16 := e (16 - i) (by omega)
      rw [show 16 * b + i + (16 - i) = 16 * (b + 1) by omega] at e16
      rw [s_X9_spanOfContacts_L37.eq_2, gX4_1 S lq, Option.bind_some, (qL _ hq).2.1, if_pos (nI_le (by omega) (by omega)), e16]
      exact ⟨x1, x3, rfl, q⟩
    | succ r ih =>
      intro i z x1 x3 hi hz q
      obtain ⟨z, rfl⟩ : ∃ y, z = y + 1 := ⟨z - 1, by omega⟩
      have ix : 48 * s + (16 * b + i) = 16 * (3 * s + b) + i := by omega
      rw [s_X9_spanOfContacts_L37.eq_2, gX4_1 S lq, Option.bind_some, (qL _ hq).2.1, if_neg (nI_ge (by omega) (by omega)), vX4 S lq, contactX S qL w rfl hq (show i < 16 by omega), Option.bind_some, nI_1]
      by_cases c : ctB D (16 * (3 * s + b) + i) = true
      · have he : (16 * (3 * s + b) + i) / 16 < 3 * dn D := by omega
        have m1 : fL h (100 * 2 + 1) (A (1000 + (16 * (3 * s + b) + i))) = dmo D (16 * (3 * s + b) + i) := (enX qL he c).2.1 (by rw [(ct_in c).2]; decide)
        have wb : 0 ≤ (dmo D (16 * (3 * s + b) + i)).toInt ∧ (dmo D (16 * (3 * s + b) + i)).toInt ≤ 9999999999 := (ct_W w (by omega) c).2.1
        obtain ⟨v, ev, hv⟩ := minJ h x1 (dmo D (16 * (3 * s + b) + i))
        obtain ⟨u, eu, hu⟩ := maxL h x3 (dmo D (16 * (3 * s + b) + i))
        have eM : mmF D s (16 * b + (i + 1)) = mmS (mmF D s (16 * b + i)) (dmo D (16 * (3 * s + b) + i)).toInt := by
          rw [← ix]
          exact mmF_t (j := 16 * b + i) (by rw [ix]; exact c)
        rw [if_pos c, if_neg (show ¬ some (A (1000 + (16 * (3 * s + b) + i))) = none from fun z => by cases z), gL_ok (c := 2) 1 (kEn S he), Option.bind_some, m1, ev, Option.bind_some, Option.bind_some, eu, Option.bind_some, Option.bind_some]
        refine ih (i + 1) z v u (by omega) (by omega) ?_
        rw [eM]
        obtain ⟨q1, q2⟩ := q
        rw [q1] at hv
        rw [q2] at hu
        cases hm : mmF D s (16 * b + i) with
        | none =>
          rw [hm] at hv hu
          refine ⟨hv.trans ?_, hu.trans ?_⟩
          · show (if (dmo D (16 * (3 * s + b) + i)).toInt < nvr then (dmo D (16 * (3 * s + b) + i)).toInt else nvr) = (dmo D (16 * (3 * s + b) + i)).toInt
            rw [if_pos (by unfold nvr; omega)]
          · show (if 0 < (dmo D (16 * (3 * s + b) + i)).toInt then (dmo D (16 * (3 * s + b) + i)).toInt else 0) = (dmo D (16 * (3 * s + b) + i)).toInt
            split <;> omega
        | some y =>
          rw [hm] at hv hu
          exact ⟨hv, hu⟩
      · have cf : ctB D (48 * s + (16 * b + i)) = false := by
          rw [ix]
          cases x : ctB D (16 * (3 * s + b) + i) with
          | false => rfl
          | true => exact absurd x c
        rw [if_neg c, if_pos rfl, Option.bind_some]
        exact ih (i + 1) z x1 x3 (by omega) (by omega) (by rw [show 16 * b + (i + 1) = 16 * b + i + 1 by omega, mmF_f cf]; exact q)
  have L2 : ∀ (r b z : Nat) (x1 x3 : Int64), b + r = 3 → r < z → SpX x1 x3 (mmF D s (16 * b)) → ∃ y1 y3, s_X9_spanOfContacts_L20 N z x1 x3 (some (A (120 + s))) 3 (nI b) h = some (y1, y3) ∧ SpX y1 y3 (mmF D s 48) := by
    intro r
    induction r with
    | zero =>
      intro b z x1 x3 hb hz q
      obtain ⟨z, rfl⟩ : ∃ y, z = y + 1 := ⟨z - 1, by omega⟩
      have : b = 3 := by omega
      subst this
      rw [s_X9_spanOfContacts_L20.eq_2, if_pos (by decide)]
      exact ⟨x1, x3, rfl, q⟩
    | succ r ih =>
      intro b z x1 x3 hb hz q
      obtain ⟨z, rfl⟩ : ∃ y, z = y + 1 := ⟨z - 1, by omega⟩
      obtain ⟨y1, y3, a1, a2⟩ := L1 b (by omega) (some (A (120 + s))) 3 (nI b) (dsz D (3 * s + b)) 0 N x1 x3 (by omega) (by have := (w.1 (3 * s + b) (by omega)).1; omega) (by rw [Nat.add_zero]; exact q)
      rw [nI_0] at a1
      rw [s_X9_spanOfContacts_L20.eq_2, if_neg (show ¬ (3 : Int32) ≤ nI b from nI_ge (b := 3) (by omega) (by omega)), rX120 S hs (by omega), Option.bind_some, a1, Option.bind_some, nI_1]
      exact ih (b + 1) z y1 y3 (by omega) (by omega) a2
  obtain ⟨y1, y3, a1, a2, a3⟩ := L2 3 0 N 1099511627776 0 (by omega) (by omega) ⟨rfl, rfl⟩
  rw [nI_0] at a1
  unfold s_X9_spanOfContacts
  rw [gX9_5 S hs, Option.bind_some, lX120 S hs, Option.bind_some, a1, Option.bind_some]
  show ∃ v, (((if lg_cmp y1 1099511627776 = 0 then some 0 else some (y3 - y1)) : Option (Int64)).bind fun q18 => some q18) = some v ∧ _
  have ec : lg_cmp y1 1099511627776 = 0 ↔ y1.toInt = nvr := by rw [lc_eq, ← Int64.toInt_inj]; exact Iff.rfl
  unfold spF
  cases hm : mmF D s 48 with
  | none =>
    rw [hm] at a2
    rw [if_pos (ec.mpr a2), Option.bind_some]
    exact ⟨0, rfl, rfl⟩
  | some y =>
    obtain ⟨p, r⟩ := y
    have bd := mm_bd w (show s < 12 by omega) 48 (by omega) p r hm
    rw [hm] at a2 a3
    have a2 : y1.toInt = p := a2
    have a3 : y3.toInt = r := a3
    rw [if_neg (fun z => by have := ec.mp z; unfold nvr at this; omega), Option.bind_some]
    refine ⟨y3 - y1, rfl, ?_⟩
    rw [ls (by omega) (by omega), a2, a3]
theorem rateX {h : IH} (S : ShX h A n) (hN : 2000 ≤ N) (hn : n = dn D) (gs : XgS h A D) (qL : XgL h A D) (gP : XgP h A D) (gA : XgA h A D) (wS : WgS D) (w : WgL D) (wP : WgP D) (hd : dop D < 1000000) (ch : ChX h A D) (a : Int32) : ∃ h', s_X11_rate N h (A 0) a = some (ratV D a, h') ∧ OkX h h' A D a (ratF D a) := by
  obtain ⟨h1, e1, f1, ck, wy⟩ := refreshX (N := N) S hN hn gs qL gP wS w wP ch
  have S1 := f1.shX S
  obtain ⟨H, e, fr, k⟩ := askedHaX (N := N) S1 hN hn (rfGS f1 gs) (rfGL f1 qL) (rfGA f1 gA) a
  subst hn
  have wn := S.1
  have SH := fr.shX S1
  have gLH := kGL fr (rfGL f1 qL)
  have wyH := wyK fr wy
  have fin : ∀ v : Int64, ∃ h', s_X11_answered H (A 0) v = some (if rsH D a = 0 then v else 0, h') ∧ OkX h h' A D a (rsH D a) := fun v => by
    obtain ⟨h', e', f', x⟩ := answX SH k hd v
    exact ⟨h', e', okXc f1 (fr.trans f') x ck wy⟩
  unfold s_X11_rate ratV ratF
  rw [gX11_4 S, Option.bind_some, vX0 S, e1, Option.bind_some, vX11 S1, e, Option.bind_some]
  by_cases c : rsH D a = 0
  · obtain ⟨s, hs, rfl⟩ : ∃ s, s < dn D ∧ a = nI s := by
      rcases stC wn a with z | q
      · exact z
      · unfold rsH at c
        rw [if_neg q] at c
        cases c
    obtain ⟨v, ev, hv⟩ := spanX (N := N) SH hN rfl gLH w hs
    have z0 : lg_cmp v 0 = 0 ↔ spF D s = 0 := by
      rw [lc_eq, ← Int64.toInt_inj, hv]
      exact Iff.rfl
    rw [c] at fin
    rw [c, if_pos rfl, if_pos rfl, if_pos rfl, nI_clamp (by omega)]
    show ∃ h', (if some (A (100 + s)) = none then _ else (cV H 9 (some (A (100 + s))) fun a16 => s_X9_spanOfContacts N H a16).bind fun v7 => if lg_cmp v7 0 = 0 then (cV H 11 (some (A 0)) fun a10 => s_X11_refused H a10 5).bind fun v9 => some (v9.1, v9.2) else (cV H 9 (some (A (100 + s))) fun a15 => s_X9_contactsWithWhy N H a15 0).bind fun v11 => if v7 = 0 then none else (cV H 11 (some (A 0)) fun a14 => s_X11_answered H a14 ((3600 * v11.toInt64) / v7)).bind fun v13 => some (v13.1, v13.2)) = _ ∧ _
    rw [if_neg (fun z => by cases z), vX9 SH hs, ev, Option.bind_some]
    by_cases d : spF D s = 0
    · obtain ⟨h', e', f', x⟩ := refuX SH k hd (g := 5) (by decide)
      rw [if_pos (z0.mpr d), if_pos d, if_pos d, vX11 SH, e', Option.bind_some]
      exact ⟨h', rfl, okXc f1 (fr.trans f') x ck wy⟩
    · have ew : s_X9_contactsWithWhy N H (A (100 + s)) 0 = some (nI (wyN D s 0 48)) := withWhyX (N := N) SH hN rfl gLH w wyH hs (y := 0) (by omega)
      have evi : v = Int64.ofInt (spF D s) := by rw [← hv, Int64.ofInt_toInt]
      obtain ⟨h', e', ok⟩ := fin ((3600 * (nI (wyN D s 0 48)).toInt64) / v)
      rw [if_pos rfl] at e'
      rw [if_neg (fun z => d (z0.mp z)), if_neg d, if_neg d, vX9 SH hs, ew, Option.bind_some, if_neg (fun z => d (by rw [← hv, z]; rfl)), vX11 SH, e', Option.bind_some, ← evi]
      exact ⟨h', rfl, ok⟩
  · obtain ⟨h', e', ok⟩ := fin 0
    rw [if_neg c] at e'
    rw [if_neg c, if_neg c, if_neg c]
    show ∃ h', (if (none : Option Nat) = none then (cV H 11 (some (A 0)) fun a6 => s_X11_answered H a6 0).bind fun v5 => some (v5.1, v5.2) else _) = _ ∧ _
    rw [if_pos rfl, vX11 SH, e', Option.bind_some]
    exact ⟨h', rfl, ok⟩
end
section
variable {m : Nat} {ar : Nat → Nat} {N : Nat} {D : Dt}
def RtM (D : Dt) (s j : Nat) (x2 x4 : Int64) (x6 x7 : Int32) : Prop := x2.toInt = ((mmF D s j).map Prod.fst).getD 0 ∧ x4.toInt = ((mmF D s j).map Prod.snd).getD 0 ∧ (∃ c : Nat, x6 = nI c ∧ c ≤ j ∧ (c = 0 ↔ mmF D s j = none)) ∧ x7 = nI (wyN D s 0 j)
theorem rateLM {h : IH} (S : ShM h m ar) (hN : 2000 ≤ N) (gs : MgS h m ar D) (qL : MgL h m ar D) (gP : MgP h m ar D) (wS : WgS D) (w : WgL D) (wP : WgP D) (ck : CkM h ar D) {s : Nat} (hs : s < dn D) : ∀ (r j z : Nat) (x2 x4 : Int64) (x6 x7 : Int32), j + r = 48 → r < z → RtM D s j x2 x4 x6 x7 → ∃ y2 y4 y6 y7, s_X12_rate_L53 N z m (nI s) x2 x4 x6 x7 (nI (48 * s + j)) h = some (y2, y4, y7) ∧ RtM D s 48 y2 y4 y6 y7 := by
  have wn := wS.1
  intro r
  induction r with
  | zero =>
    intro j z x2 x4 x6 x7 hj hz q
    obtain ⟨z, rfl⟩ : ∃ y, z = y + 1 := ⟨z - 1, by omega⟩
    have : j = 48 := by omega
    subst this
    rw [s_X12_rate_L53.eq_2, show (48 : Int32) = nI 48 from rfl, nI_mul, nI_add, if_pos (nI_le (by omega) (by omega))]
    exact ⟨x2, x4, x6, x7, rfl, q⟩
  | succ r ih =>
    intro j z x2 x4 x6 x7 hj hz q
    obtain ⟨z, rfl⟩ : ∃ y, z = y + 1 := ⟨z - 1, by omega⟩
    have he : 48 * s + j < 576 := by omega
    have nx : nI (48 * s + j) + 1 = nI (48 * s + (j + 1)) := by rw [nI_1]; rfl
    obtain ⟨q2, q4, ⟨cc, q6, qc, q0⟩, q7⟩ := q
    rw [s_X12_rate_L53.eq_2, show (48 : Int32) = nI 48 from rfl, nI_mul, nI_add, if_neg (nI_ge (by omega) (by omega)), mV12 S, isContactM S qL w he, Option.bind_some, nx]
    cases c : ctB D (48 * s + j) with
    | false =>
      rw [if_pos (show bI false = 0 from rfl), Option.bind_some]
      refine ih (j + 1) z x2 x4 x6 x7 (by omega) (by omega) ⟨by rw [mmF_f c]; exact q2, by rw [mmF_f c]; exact q4, ⟨cc, q6, by omega, by rw [mmF_f c]; exact q0⟩, ?_⟩
      rw [wyN_s, c, Bool.false_and, if_neg (by decide), q7]
      rfl
    | true =>
      have en : rL h (ar 11) (48 * s + j) = dmo D (48 * s + j) := (enM qL he c).2.1
      have w6 := whyF_le D (48 * s + j)
      have i0 : nI (whyF D (48 * s + j)) = 0 ↔ whyF D (48 * s + j) = 0 := nI_eq (b := 0) (by omega) (by omega)
      have g0 : x6 = 0 ↔ mmF D s j = none := by
        rw [q6, ← q0]
        exact nI_eq (b := 0) (by omega) (by omega)
      have rd : ((gR h 12 11 (some m)).bind fun v14 => (aJ h v14 (nI (48 * s + j))).bind fun v15 => some v15) = some (dmo D (48 * s + j)) := by
        rw [mgR 11 S (by decide), Option.bind_some, maJ 11 _ S (by decide) (show 48 * s + j < 576 from he), Option.bind_some, en]
      have q21 : ∃ v, ((if x6 = 0 then (gR h 12 11 (some m)).bind fun v14 => (aJ h v14 (nI (48 * s + j))).bind fun v15 => some v15 else (gR h 12 11 (some m)).bind fun v16 => (aJ h v16 (nI (48 * s + j))).bind fun v17 => if 0 ≤ (lg_cmp v17 x2) then some x2 else (gR h 12 11 (some m)).bind fun v19 => (aJ h v19 (nI (48 * s + j))).bind fun v20 => some v20) : Option (Int64)) = some v ∧ v.toInt = ((mmF D s (j + 1)).map Prod.fst).getD 0 := by
        rw [mmF_t c]
        by_cases d : x6 = 0
        · rw [if_pos d, rd, g0.mp d]
          exact ⟨_, rfl, rfl⟩
        · have cmp : 0 ≤ lg_cmp (dmo D (48 * s + j)) x2 ↔ ¬ (dmo D (48 * s + j)).toInt < x2.toInt := by
            have e : 0 ≤ lg_cmp (dmo D (48 * s + j)) x2 ↔ ¬ (lg_cmp (dmo D (48 * s + j)) x2 < 0) := by rw [iLe, iLt]; omega
            rw [e, lc_lt, lLt]
          cases hm : mmF D s j with
          | none => exact absurd (g0.mpr hm) d
          | some y =>
            obtain ⟨p, p'⟩ := y
            rw [hm] at q2
            have q2 : x2.toInt = p := q2
            rw [if_neg d, rd, mgR 11 S (by decide), Option.bind_some, maJ 11 _ S (by decide) (show 48 * s + j < 576 from he), Option.bind_some, en]
            by_cases d2 : (dmo D (48 * s + j)).toInt < p
            · rw [if_neg (fun z => cmp.mp z (by rw [q2]; exact d2))]
              exact ⟨_, rfl, (show (dmo D (48 * s + j)).toInt = (if (dmo D (48 * s + j)).toInt < p then (dmo D (48 * s + j)).toInt else p) by rw [if_pos d2])⟩
            · rw [if_pos (cmp.mpr (by rw [q2]; exact d2))]
              exact ⟨_, rfl, (show x2.toInt = (if (dmo D (48 * s + j)).toInt < p then (dmo D (48 * s + j)).toInt else p) by rw [if_neg d2, q2])⟩
      have q30 : ∃ v, ((if x6 = 0 then (gR h 12 11 (some m)).bind fun v23 => (aJ h v23 (nI (48 * s + j))).bind fun v24 => some v24 else (gR h 12 11 (some m)).bind fun v25 => (aJ h v25 (nI (48 * s + j))).bind fun v26 => if (lg_cmp v26 x4) ≤ 0 then some x4 else (gR h 12 11 (some m)).bind fun v28 => (aJ h v28 (nI (48 * s + j))).bind fun v29 => some v29) : Option (Int64)) = some v ∧ v.toInt = ((mmF D s (j + 1)).map Prod.snd).getD 0 := by
        rw [mmF_t c]
        by_cases d : x6 = 0
        · rw [if_pos d, rd, g0.mp d]
          exact ⟨_, rfl, rfl⟩
        · have cmp : lg_cmp (dmo D (48 * s + j)) x4 ≤ 0 ↔ ¬ x4.toInt < (dmo D (48 * s + j)).toInt := by
            have e : lg_cmp (dmo D (48 * s + j)) x4 ≤ 0 ↔ ¬ (0 < lg_cmp (dmo D (48 * s + j)) x4) := by rw [iLe, iLt]; omega
            rw [e, lc_gt, lLt]
          cases hm : mmF D s j with
          | none => exact absurd (g0.mpr hm) d
          | some y =>
            obtain ⟨p, p'⟩ := y
            rw [hm] at q4
            have q4 : x4.toInt = p' := q4
            rw [if_neg d, rd, mgR 11 S (by decide), Option.bind_some, maJ 11 _ S (by decide) (show 48 * s + j < 576 from he), Option.bind_some, en]
            by_cases d2 : p' < (dmo D (48 * s + j)).toInt
            · rw [if_neg (fun z => cmp.mp z (by rw [q4]; exact d2))]
              exact ⟨_, rfl, (show (dmo D (48 * s + j)).toInt = (if p' < (dmo D (48 * s + j)).toInt then (dmo D (48 * s + j)).toInt else p') by rw [if_pos d2])⟩
            · rw [if_pos (cmp.mpr (by rw [q4]; exact d2))]
              exact ⟨_, rfl, (show x4.toInt = (if p' < (dmo D (48 * s + j)).toInt then (dmo D (48 * s + j)).toInt else p') by rw [if_neg d2, q4])⟩
      obtain ⟨v2, e2, hv2⟩ := q21
      obtain ⟨v4, e4, hv4⟩ := q30
      have nn : mmF D s (j + 1) ≠ none := by
        rw [mmF_t c]
        cases mmF D s j with
        | none => exact fun z => by cases z
        | some y => exact fun z => by cases z
      rw [if_neg (show ¬ bI true = 0 by decide), e2, Option.bind_some, e4, Option.bind_some, mV12 S, whyM S hN gs qL gP wS w wP ck he c, Option.bind_some]
      by_cases d : whyF D (48 * s + j) = 0
      · rw [if_pos (i0.mpr d), Option.bind_some, Option.bind_some]
        refine ih (j + 1) z v2 v4 _ _ (by omega) (by omega) ⟨hv2, hv4, ⟨cc + 1, by rw [q6, nI_1], by omega, ⟨fun z => absurd z (by omega), fun z => absurd z nn⟩⟩, ?_⟩
        rw [wyN_s, c, d, if_pos (by decide), q7, nI_1]
      · rw [if_neg (fun z => d (i0.mp z)), Option.bind_some, Option.bind_some]
        refine ih (j + 1) z v2 v4 _ _ (by omega) (by omega) ⟨hv2, hv4, ⟨cc + 1, by rw [q6, nI_1], by omega, ⟨fun z => absurd z (by omega), fun z => absurd z nn⟩⟩, ?_⟩
        rw [wyN_s, decide_eq_false d, Bool.and_false, if_neg (by decide), q7, Int32.add_zero]
        rfl
theorem rateM {h : IH} (S : ShM h m ar) (hN : 1000000 ≤ N) (gs : MgS h m ar D) (qL : MgL h m ar D) (gP : MgP h m ar D) (gA : MgA h m ar D) (wS : WgS D) (w : WgL D) (wP : WgP D) (ch : ChM h m ar D) (a : Int32) : ∃ h', s_X12_rate N h m a = some (ratV D a, h') ∧ OkM h h' m ar D a (ratF D a) := by
  have wn := wS.1
  obtain ⟨H, e, fr, ck, k⟩ := beginM (N := N) S hN gs qL gP gA wS w wP ch a
  have SH := fr.shM S
  have gsH := mkGS S fr gs
  have gLH := mkGL S fr qL
  have gPH := mkGP fr gP
  unfold s_X12_rate ratV ratF
  rw [mV12 S, e, Option.bind_some, mV12 SH, isStationM SH gsH wn a, Option.bind_some]
  rcases stC wn a with ⟨s, hs, rfl⟩ | q
  · have er : rsH D (nI s) = if hlB D s = true then 0 else 7 := by unfold rsH; rw [if_pos (stIn wn hs), nI_clamp (by omega)]
    rw [if_pos (stIn wn hs), if_neg (show ¬ (1 : Int32) = 0 by decide), mV12 SH, hasLogM SH gsH gLH wS w hs, Option.bind_some, er, nI_clamp (by omega)]
    cases c : hlB D s with
    | false =>
      obtain ⟨h', e', f', g', c'⟩ := foundM SH k (g := 7) (by decide) ck
      rw [if_pos (show bI false = 0 from rfl), if_neg (show ¬ false = true by decide), if_neg (show ¬ (7 : Int32) = 0 by decide), if_neg (show ¬ (7 : Int32) = 0 by decide), mV12 SH, e', Option.bind_some]
      exact ⟨h', rfl, fr.trans f', g', c'⟩
    | true =>
      obtain ⟨y2, y4, y6, y7, e2, b2, b4, ⟨cc, b6, bc, b0⟩, b7⟩ := rateLM (N := N) SH (by omega) gsH gLH gPH wS w wP ck hs 48 0 N 0 0 0 0 (by omega) (by omega) ⟨rfl, rfl, ⟨0, rfl, by omega, ⟨fun _ => rfl, fun _ => rfl⟩⟩, rfl⟩
      rw [Nat.add_zero] at e2
      have z0 : lg_cmp y4 y2 = 0 ↔ spF D s = 0 := by
        rw [lc_eq, ← Int64.toInt_inj, b2, b4]
        unfold spF
        cases mmF D s 48 with
        | none => exact ⟨fun _ => rfl, fun _ => rfl⟩
        | some y =>
          obtain ⟨p, r⟩ := y
          show r = p ↔ r - p = 0
          omega
      have sb : (y4 - y2).toInt = spF D s := by
        have hb : -9223372036854775808 ≤ y4.toInt - y2.toInt ∧ y4.toInt - y2.toInt < 9223372036854775808 := by
          rw [b2, b4]
          cases hm : mmF D s 48 with
          | none => exact ⟨by decide, by decide⟩
          | some y =>
            obtain ⟨p, r⟩ := y
            have := mm_bd w (show s < 12 by omega) 48 (by omega) p r hm
            show -9223372036854775808 ≤ r - p ∧ r - p < 9223372036854775808
            omega
        rw [ls hb.1 hb.2, b2, b4]
        unfold spF
        cases mmF D s 48 with
        | none => rfl
        | some y => rfl
      rw [if_neg (show ¬ bI true = 0 by decide), if_pos rfl, if_pos rfl, if_pos rfl, show (48 : Int32) = nI 48 from rfl, nI_mul, e2, Option.bind_some]
      show ∃ h', (((if lg_cmp y4 y2 = 0 then (cV H 12 (some m) fun a40 => s_X12_found H a40 5).bind fun v39 => some (v39.1.toInt64, v39.2) else if (y4 - y2) = 0 then none else some ((3600 * y7.toInt64) / (y4 - y2), H)) : Option (Int64 × IH)).bind fun q42 => some (q42.1, q42.2)) = _ ∧ _
      by_cases d : spF D s = 0
      · obtain ⟨h', e', f', g', c'⟩ := foundM SH k (g := 5) (by decide) ck
        rw [if_pos (z0.mpr d), if_pos d, if_pos d, mV12 SH, e', Option.bind_some, Option.bind_some]
        exact ⟨h', rfl, fr.trans f', g', c'⟩
      · have evi : y4 - y2 = Int64.ofInt (spF D s) := by rw [← sb, Int64.ofInt_toInt]
        rw [if_neg (fun z => d (z0.mp z)), if_neg d, if_neg d, if_neg (fun z => d (by rw [← sb, z]; rfl)), Option.bind_some, evi, b7]
        exact ⟨H, rfl, fr, k.ok, ck⟩
  · have er : rsH D a = 4 := by unfold rsH; rw [if_neg q]
    obtain ⟨h', e', f', g', c'⟩ := foundM SH k (g := 4) (by decide) ck
    rw [if_neg q, if_pos rfl, mV12 SH, e', Option.bind_some, er, if_neg (show ¬ (4 : Int32) = 0 by decide), if_neg (show ¬ (4 : Int32) = 0 by decide)]
    exact ⟨h', rfl, fr.trans f', g', c'⟩
end
