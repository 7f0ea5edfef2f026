/-! ===== sums: the class ===== -/
theorem cnt_add (p : Nat → Bool) (a : Nat) : ∀ n, cnt p (a + n) = cnt p a + cnt (fun k => p (a + k)) n := by
  intro n
  induction n with
  | zero => rfl
  | succ n ih =>
    show cnt p (a + n) + (if p (a + n) then 1 else 0) = cnt p a + (cnt (fun k => p (a + k)) n + (if p (a + n) then 1 else 0))
    rw [ih]
    omega
section
variable {A : Nat → Nat} {n N : Nat} {D : Dt}
theorem ziX_b {s b i : Nat} (hb : b < 3) (hi : i < 16) (hz : (dZ D (tgN D (48 * s + (16 * b + i)))).toNatClampNeg < 40) : ziX D (48 * s + (16 * b + i)) = 40 * b + (dZ D (tgN D (48 * s + (16 * b + i)))).toNatClampNeg := by
  unfold ziX
  have : (48 * s + (16 * b + i)) / 16 % 3 = b := by omega
  rw [this]
  omega
theorem gd_z (wS : WgS D) {e : Nat} (h : gdC D e = true) : (dZ D (tgN D e)).toNatClampNeg < 40 := by
  obtain ⟨t, t1, t2, t3, _⟩ := why0 (gdC_iff.mp h).2
  rw [t2]
  exact (zn_ok wS t3).2
/-- entries of other bands leave a band's zones as they are -/
theorem zmB_out (wS : WgS D) {s b k : Nat} (hb : b < 3) (hk : k < 40) : ∀ r j, j + r ≤ 48 → (∀ i, j ≤ i → i < j + r → i / 16 ≠ b) → zmB D s (j + r) (40 * b + k) = zmB D s j (40 * b + k) := by
  intro r
  induction r with
  | zero => intro j _ _; rfl
  | succ r ih =>
    intro j hj h
    have e := ih j (by omega) (fun i h1 h2 => h i h1 (by omega))
    rw [show j + (r + 1) = j + r + 1 by omega, zmB_s, e]
    cases g : gdC D (48 * s + (j + r)) with
    | false => rw [Bool.false_and, Bool.or_false]
    | true =>
      have hz := gd_z wS g
      have hb' := h (j + r) (by omega) (by omega)
      have e1 : 48 * s + (j + r) = 48 * s + (16 * ((j + r) / 16) + (j + r) % 16) := by omega
      have hz' := hz
      rw [e1] at hz'
      have e2 := ziX_b (D := D) (s := s) (b := (j + r) / 16) (i := (j + r) % 16) (by omega) (by omega) hz'
      rw [← e1] at e2
      rw [e2, decide_eq_false (by omega), Bool.and_false, Bool.or_false]
theorem zmB_0 (s x : Nat) : zmB D s 0 x = false := rfl
theorem sumLX {h : IH} (S : ShX h A n) (hN : 2000 ≤ N) (hn : n = dn D) (gs : XgS h A D) (qL : XgL h A D) (qR : XgR h A D) (wS : WgS D) (w : WgL D) (wR : WgR D) (ck : CkX h A D) (wy : WyX h A D) {s b : Nat} (hs : s < dn D) (hb : b < 3) (wt x4 : Int32) : ∀ (r i z : Nat) (H : IH) (x3 : Int32) (M : Nat), i + r = dsz D (3 * s + b) → r < z → FrV A h H → csO D s wt (16 * b + i) = some x3 → M < 1099511627776 → (∀ k, k < 40 → M.testBit k = zmB D s (16 * b + i) (40 * b + k)) → (∃ h', s_X8_checkedSum_L28 N z (A 24) (some (A (100 + s))) wt x3 x4 (nI b) (some (A (200 + (3 * s + b)))) (Int64.ofNat M) (nI i) H = some (.inl (1099511627776, h')) ∧ FrV A h h' ∧ csO D s wt 48 = none) ∨ (∃ y M' h', s_X8_checkedSum_L28 N z (A 24) (some (A (100 + s))) wt x3 x4 (nI b) (some (A (200 + (3 * s + b)))) (Int64.ofNat M) (nI i) H = some (.inr (y, Int64.ofNat M', h')) ∧ FrV A h h' ∧ csO D s wt (16 * (b + 1)) = some y ∧ M' < 1099511627776 ∧ ∀ k, k < 40 → M'.testBit k = zmB D s 48 (40 * b + k)) := by
  subst hn
  have wn := S.1
  have hq : 3 * s + b < 3 * dn D := by omega
  have w16 := (w.1 (3 * s + b) (by omega)).1
  have lq : lvQ (dn D) (3 * s + b) := Or.inl hq
  have eix : ∀ i, 48 * s + (16 * b + i) = 16 * (3 * s + b) + i := fun i => by omega
  intro r
  induction r with
  | zero =>
    intro i z H x3 M hi hz fr q3 hM qz
    obtain ⟨z, rfl⟩ : ∃ y, z = y + 1 := ⟨z - 1, by omega⟩
    have SH := fr.shX S
    have gH : XgL H A D := qL.fr fr (fun f z => by cases z; omega) (fun f z => z.elim)
    have nog : ∀ j, 16 * b + i ≤ j → j < 16 * b + i + (16 - i) → gdC D (48 * s + j) = false := fun j h1 h2 => gdC_f (fun z => by
      have := (ct_in z.1).1
      have e1 : (48 * s + j) / 16 = 3 * s + b := by omega
      rw [e1] at this
      omega)
    have q48 : csO D s wt (16 * (b + 1)) = some x3 := by
      rw [show 16 * (b + 1) = 16 * b + i + (16 - i) by omega, ← q3]
      exact foO_skip (16 - i) (fun j h1 h2 => nog j h1 h2)
    rw [s_X8_checkedSum_L28.eq_2, if_neg (show ¬ some (A (200 + (3 * s + b))) = none from fun z => by cases z), gX4_1 SH lq, Option.bind_some, (gH _ hq).2.1, if_pos (nI_le (by omega) (by omega))]
    refine Or.inr ⟨x3, M, H, rfl, fr, q48, hM, fun k hk => ?_⟩
    rw [qz k hk]
    have z1 : zmB D s (16 * b + i + (16 - i)) (40 * b + k) = zmB D s (16 * b + i) (40 * b + k) := by
      have : ∀ r', r' ≤ 16 - i → zmB D s (16 * b + i + r') (40 * b + k) = zmB D s (16 * b + i) (40 * b + k) := by
        intro r'
        induction r' with
        | zero => intro _; rfl
        | succ r' ih' =>
          intro hr
          rw [show 16 * b + i + (r' + 1) = 16 * b + i + r' + 1 by omega, zmB_s, nog (16 * b + i + r') (by omega) (by omega), Bool.false_and, Bool.or_false, ih' (by omega)]
      exact this (16 - i) (by omega)
    have z2 := zmB_out (D := D) wS (s := s) hb hk (48 - 16 * (b + 1)) (16 * (b + 1)) (by omega) (fun i h1 h2 => by omega)
    rw [show 16 * (b + 1) + (48 - 16 * (b + 1)) = 48 by omega] at z2
    rw [z2, ← z1, show 16 * b + i + (16 - i) = 16 * (b + 1) by omega]
  | succ r ih =>
    intro i z H x3 M hi hz fr q3 hM qz
    obtain ⟨z, rfl⟩ : ∃ y, z = y + 1 := ⟨z - 1, by omega⟩
    have SH := fr.shX S
    have gH : XgL H A D := qL.fr fr (fun f z => by cases z; omega) (fun f z => z.elim)
    have gsH : XgS H A D := gs.fr fr (fun f z => by cases z; omega) (fun z => z)
    have gRH : XgR H A D := qR.fr S fr (fun _ z => z.elim) (fun z => by cases z) (fun z => z)
    have ckH : CkX H A D := ck.fr fr (fun z => by cases z) (fun z => by cases z) (fun z => by cases z) (fun z => z)
    have wyH : WyX H A D := wy.fr fr (fun z => by cases z) (fun z => by cases z)
    have w6 := whyF_le D (16 * (3 * s + b) + i)
    rw [s_X8_checkedSum_L28.eq_2, if_neg (show ¬ some (A (200 + (3 * s + b))) = none from fun z => by cases z), gX4_1 SH lq, Option.bind_some, (gH _ hq).2.1, if_neg (nI_ge (by omega) (by omega)), vX4 SH lq, contactX SH gH w rfl hq (show i < 16 by omega), Option.bind_some, nI_1]
    have skip : gdC D (48 * s + (16 * b + i)) = false → (∃ h', s_X8_checkedSum_L28 N z (A 24) (some (A (100 + s))) wt x3 x4 (nI b) (some (A (200 + (3 * s + b)))) (Int64.ofNat M) (nI (i + 1)) H = some (.inl (1099511627776, h')) ∧ FrV A h h' ∧ csO D s wt 48 = none) ∨ (∃ y M' h', s_X8_checkedSum_L28 N z (A 24) (some (A (100 + s))) wt x3 x4 (nI b) (some (A (200 + (3 * s + b)))) (Int64.ofNat M) (nI (i + 1)) H = some (.inr (y, Int64.ofNat M', h')) ∧ FrV A h h' ∧ csO D s wt (16 * (b + 1)) = some y ∧ M' < 1099511627776 ∧ ∀ k, k < 40 → M'.testBit k = zmB D s 48 (40 * b + k)) := fun hg => by
      refine ih (i + 1) z H x3 M (by omega) (by omega) fr ?_ hM (fun k hk => ?_)
      · rw [show 16 * b + (i + 1) = 16 * b + i + 1 by omega, ← q3]
        exact foO_f hg
      · rw [show 16 * b + (i + 1) = 16 * b + i + 1 by omega, zmB_s, hg, Bool.false_and, Bool.or_false]
        exact qz k hk
    by_cases c : ctB D (16 * (3 * s + b) + i) = true
    · have he : (16 * (3 * s + b) + i) / 16 < 3 * dn D := by omega
      have k := kEn SH he
      have e9 : fI H (100 * 2 + 9) (A (1000 + (16 * (3 * s + b) + i))) = nI (whyF D (16 * (3 * s + b) + i)) := (wyH _ he c).1
      have e6 : fI H (100 * 2 + 6) (A (1000 + (16 * (3 * s + b) + i))) = oI (tgO D (16 * (3 * s + b) + i)) := ckH.1 _ he c
      have i0 : nI (whyF D (16 * (3 * s + b) + i)) = 0 ↔ whyF D (16 * (3 * s + b) + i) = 0 := nI_eq (b := 0) (by omega) (by omega)
      rw [if_pos c, if_neg (show ¬ some (A (1000 + (16 * (3 * s + b) + i))) = none from fun z => by cases z), gI_ok (c := 2) 9 k, Option.bind_some, e9]
      by_cases c0 : whyF D (16 * (3 * s + b) + i) = 0
      · obtain ⟨t, t1, t2, t3, t4⟩ := why0 c0
        have hg : gdC D (48 * s + (16 * b + i)) = true := by rw [eix]; exact gdC_iff.mpr ⟨c, c0⟩
        have z40 := gd_z wS hg
        have eI := ziX_b (D := D) (s := s) hb (show i < 16 by omega) z40
        have t2' : tgN D (48 * s + (16 * b + i)) = t := by rw [eix]; exact t2
        have eP : ptV D (48 * s + (16 * b + i)) = rV D (nI b) s t := by
          unfold ptV
          rw [t2', show (48 * s + (16 * b + i)) / 16 % 3 = b by omega, show (48 * s + (16 * b + i)) / 48 = s by omega]
        have eS : csO D s wt (16 * b + i + 1) = adO (some x3) ((rV D (nI b) s t).map (fun v => wt * v)) := by
          rw [← q3, ← eP]
          exact foO_t hg
        obtain ⟨H2, e2, f2⟩ := valX (N := N) SH hN gsH gRH wS wR rfl hs t3 (nI b)
        have S2 := f2.shX SH
        have fr2 := fr.trans f2
        have gs2 : XgS H2 A D := gs.fr fr2 (fun f z => by cases z; omega) (fun z => z)
        rw [if_pos (i0.mpr c0), gX8_0 SH, Option.bind_some, gI_ok (c := 2) 6 k, Option.bind_some, e6, t1, vX7 SH, show oI (some t) = nI t from rfl, atX SH gsH rfl t3, Option.bind_some, Option.bind_some, if_neg (show ¬ some (A (100 + t)) = none from fun z => by cases z), gX8_1 SH, Option.bind_some, vX3 SH, e2, Option.bind_some]
        show (∃ h', (if lg_cmp (vJ (rV D (nI b) s t)) 1099511627776 = 0 then some (.inl (1099511627776, H2)) else (gI H2 9 1 (some (A (100 + t)))).bind fun v19 => s_X8_checkedSum_L28 N z (A 24) (some (A (100 + s))) wt (x3 + (wt * (vJ (rV D (nI b) s t)).toInt32)) x4 (nI b) (some (A (200 + (3 * s + b)))) (Int64.ofNat M ||| (1 <<< (v19.toInt64 &&& 63))) (nI (i + 1)) H2) = some (.inl (1099511627776, h')) ∧ FrV A h h' ∧ csO D s wt 48 = none) ∨ (∃ y M' h', (if lg_cmp (vJ (rV D (nI b) s t)) 1099511627776 = 0 then some (.inl (1099511627776, H2)) else (gI H2 9 1 (some (A (100 + t)))).bind fun v19 => s_X8_checkedSum_L28 N z (A 24) (some (A (100 + s))) wt (x3 + (wt * (vJ (rV D (nI b) s t)).toInt32)) x4 (nI b) (some (A (200 + (3 * s + b)))) (Int64.ofNat M ||| (1 <<< (v19.toInt64 &&& 63))) (nI (i + 1)) H2) = some (.inr (y, Int64.ofNat M', h')) ∧ FrV A h h' ∧ csO D s wt (16 * (b + 1)) = some y ∧ M' < 1099511627776 ∧ ∀ k, k < 40 → M'.testBit k = zmB D s 48 (40 * b + k))
        cases hv : rV D (nI b) s t with
        | none =>
          rw [if_pos ((vJ_d none).mpr rfl)]
          refine Or.inl ⟨H2, rfl, fr2, ?_⟩
          rw [hv] at eS
          have eS : csO D s wt (16 * b + i + 1) = none := eS
          have := foO_none (n := 48 - (16 * b + i + 1)) eS
          rw [show 16 * b + i + 1 + (48 - (16 * b + i + 1)) = 48 by omega] at this
          exact this
        | some v =>
          rw [hv] at eS
          have eS : csO D s wt (16 * b + i + 1) = some (x3 + wt * v) := eS
          have e1 : fI H2 901 (A (100 + t)) = dZ D t := (gs2.2 t t3).2.1
          have zk := (zn_ok wS t3)
          have ⟨o1, o2, o3⟩ := or_z (M := M) hM zk.2
          rw [if_neg (fun z => by cases (vJ_d (some v)).mp z), gX9_1 S2 t3, Option.bind_some, e1, vJ_32, zk.1, o1]
          rw [t2'] at eI
          refine ih (i + 1) z H2 _ _ (by omega) (by omega) fr2 (by rw [show 16 * b + (i + 1) = 16 * b + i + 1 by omega]; exact eS) o2 (fun k' hk' => ?_)
          rw [o3, qz k' hk', show 16 * b + (i + 1) = 16 * b + i + 1 by omega, zmB_s, hg, Bool.true_and, eI]
          congr 1
          by_cases d : (dZ D t).toNatClampNeg = k'
          · rw [decide_eq_true d, decide_eq_true (by omega)]
          · rw [decide_eq_false d, decide_eq_false (by omega)]
      · rw [if_neg (fun z => c0 (i0.mp z)), Option.bind_some, if_pos rfl]
        exact skip (gdC_f (fun z => c0 (by rw [eix] at z; exact z.2)))
    · rw [if_neg c, if_pos rfl, Option.bind_some, if_pos rfl]
      exact skip (gdC_f (fun z => c (by rw [eix] at z; exact z.1)))
theorem withWhyX {h : IH} (S : ShX h A n) (hN : 2000 ≤ N) (hn : n = dn D) (qL : XgL h A D) (w : WgL D) (wy : WyX h A D) {s : Nat} (hs : s < dn D) {y : Nat} (hy : y < 100) : s_X9_contactsWithWhy N h (A (100 + s)) (nI y) = some (nI (wyN D s y 48)) := by
  subst hn
  have wn := S.1
  have L1 : ∀ b, b < 3 → ∀ (x3 : Option Nat) (x4 x5 : Int32) (r i z : Nat), i + r = dsz D (3 * s + b) → r < z → s_X9_contactsWithWhy_L30 N z (nI y) (nI (wyN D s y (16 * b + i))) x3 x4 x5 (some (A (200 + (3 * s + b)))) (nI i) h = some (nI (wyN D s y (16 * (b + 1)))) := by
    intro b hb x3 x4 x5 r
    have hq : 3 * s + b < 3 * dn D := by omega
    have w16 := (w.1 (3 * s + b) (by omega)).1
    have lq : lvQ (dn D) (3 * s + b) := Or.inl hq
    induction r with
    | zero =>
      intro i z hi hz
      obtain ⟨z, rfl⟩ : ∃ y, z = y + 1 := ⟨z - 1, by omega⟩
      rw [s_X9_contactsWithWhy_L30.eq_2, gX4_1 S lq, Option.bind_some, (qL _ hq).2.1, if_pos (nI_le (by omega) (by omega))]
      have e : wyN D s y (16 * b + i + (16 - i)) = wyN D s y (16 * b + i) := cnt_ext (16 - i) (fun k h1 h2 => by
        have cf : ctB D (48 * s + k) = false := by
          cases x : ctB D (48 * s + k) with
          | false => rfl
          | true =>
            have := (ct_in x).1
            rw [show (48 * s + k) / 16 = 3 * s + b by omega] at this
            omega
        rw [cf, Bool.false_and])
      rw [show 16 * b + i + (16 - i) = 16 * (b + 1) by omega] at e
      rw [e]
    | succ r ih =>
      intro i z hi hz
      obtain ⟨z, rfl⟩ : ∃ y, z = y + 1 := ⟨z - 1, by omega⟩
      have nx := ih (i + 1) z (by omega) (by omega)
      have eW : wyN D s y (16 * b + (i + 1)) = wyN D s y (16 * b + i) + (if (ctB D (16 * (3 * s + b) + i) && decide (whyF D (16 * (3 * s + b) + i) = y)) = true then 1 else 0) := by
        rw [show 16 * (3 * s + b) + i = 48 * s + (16 * b + i) by omega]
        exact wyN_s D s y (16 * b + i)
      have w6 := whyF_le D (16 * (3 * s + b) + i)
      rw [s_X9_contactsWithWhy_L30.eq_2, gX4_1 S lq, Option.bind_some, (qL _ hq).2.1, if_neg (nI_ge (by omega) (by omega)), vX4 S lq, contactX S qL w rfl hq (show i < 16 by omega), Option.bind_some, nI_1 i]
      by_cases c : ctB D (16 * (3 * s + b) + i) = true
      · have he : (16 * (3 * s + b) + i) / 16 < 3 * dn D := by omega
        have e9 : fI h (100 * 2 + 9) (A (1000 + (16 * (3 * s + b) + i))) = nI (whyF D (16 * (3 * s + b) + i)) := (wy _ he c).1
        rw [if_pos c, if_neg (show ¬ some (A (1000 + (16 * (3 * s + b) + i))) = none from fun z => by cases z), gI_ok (c := 2) 9 (kEn S he), Option.bind_some, e9]
        by_cases d : whyF D (16 * (3 * s + b) + i) = y
        · rw [if_pos (by rw [d]), Option.bind_some, nI_1]
          rw [c, decide_eq_true d, if_pos (by decide)] at eW
          rw [eW] at nx
          exact nx
        · rw [if_neg (fun z => d ((nI_eq (by omega) (by omega)).mp z)), Option.bind_some]
          rw [decide_eq_false d, Bool.and_false, if_neg (by decide)] at eW
          rw [eW] at nx
          exact nx
      · have cf : ctB D (16 * (3 * s + b) + i) = false := by
          cases x : ctB D (16 * (3 * s + b) + i) with
          | false => rfl
          | true => exact absurd x c
        rw [if_neg c, if_pos rfl, Option.bind_some]
        rw [cf, Bool.false_and, if_neg (by decide)] at eW
        rw [eW] at nx
        exact nx
  have L2 : ∀ (r b z : Nat), b + r = 3 → r < z → s_X9_contactsWithWhy_L14 N z (nI y) (nI (wyN D s y (16 * b))) (some (A (120 + s))) 3 (nI b) h = some (nI (wyN D s y 48)) := by
    intro r
    induction r with
    | zero =>
      intro b z hb hz
      obtain ⟨z, rfl⟩ : ∃ y, z = y + 1 := ⟨z - 1, by omega⟩
      have : b = 3 := by omega
      subst this
      rw [s_X9_contactsWithWhy_L14.eq_2, if_pos (by decide)]
    | succ r ih =>
      intro b z hb hz
      obtain ⟨z, rfl⟩ : ∃ y, z = y + 1 := ⟨z - 1, by omega⟩
      have a := L1 b (by omega) (some (A (120 + s))) 3 (nI b) (dsz D (3 * s + b)) 0 N (by omega) (by have := (w.1 (3 * s + b) (by omega)).1; omega)
      rw [Nat.add_zero, nI_0] at a
      rw [s_X9_contactsWithWhy_L14.eq_2, if_neg (show ¬ (3 : Int32) ≤ nI b from nI_ge (b := 3) (by omega) (by omega)), rX120 S hs (by omega), Option.bind_some, a, Option.bind_some, nI_1]
      exact ih (b + 1) z (by omega) (by omega)
  have e0 := L2 3 0 N (by omega) (by omega)
  rw [nI_0] at e0
  have e0 : s_X9_contactsWithWhy_L14 N N (nI y) 0 (some (A (120 + s))) 3 0 h = some (nI (wyN D s y 48)) := e0
  unfold s_X9_contactsWithWhy
  rw [gX9_5 S hs, Option.bind_some, lX120 S hs, Option.bind_some, e0, Option.bind_some]
theorem checkedX {h : IH} (S : ShX h A n) (hN : 2000 ≤ N) (hn : n = dn D) (gs : XgS h A D) (qL : XgL h A D) (qR : XgR h A D) (gP : XgP h A D) (wS : WgS D) (w : WgL D) (wR : WgR D) (ck : CkX h A D) (wy : WyX h A D) {s : Nat} (hs : s < dn D) (wt : Int32) : ∃ h', s_X8_checkedSum N h (A 24) (some (A (100 + s))) wt = some (vJ (csV D s wt), h') ∧ FrV A h h' := by
  subst hn
  have wn := S.1
  have L : ∀ (r b z : Nat) (H : IH) (x3 : Int32), b + r = 3 → r < z → FrV A h H → csO D s wt (16 * b) = some x3 → (∃ h', s_X8_checkedSum_L8 N z (A 24) (some (A (100 + s))) wt x3 (nI (cnt (fun x => zmB D s 48 x) (40 * b))) (nI b) H = some (.inl (1099511627776, h')) ∧ FrV A h h' ∧ csO D s wt 48 = none) ∨ (∃ y h', s_X8_checkedSum_L8 N z (A 24) (some (A (100 + s))) wt x3 (nI (cnt (fun x => zmB D s 48 x) (40 * b))) (nI b) H = some (.inr (y, nI (zN D s), h')) ∧ FrV A h h' ∧ csO D s wt 48 = some y) := by
    intro r
    induction r with
    | zero =>
      intro b z H x3 hb hz fr q
      obtain ⟨z, rfl⟩ : ∃ y, z = y + 1 := ⟨z - 1, by omega⟩
      have : b = 3 := by omega
      subst this
      rw [s_X8_checkedSum_L8.eq_2, if_pos (by decide)]
      exact Or.inr ⟨x3, H, rfl, fr, q⟩
    | succ r ih =>
      intro b z H x3 hb hz fr q
      obtain ⟨z, rfl⟩ : ∃ y, z = y + 1 := ⟨z - 1, by omega⟩
      have SH := fr.shX S
      have hb3 : b < 3 := by omega
      have z0 : ∀ k, k < 40 → Nat.testBit 0 k = zmB D s (16 * b + 0) (40 * b + k) := fun k hk => by
        have := zmB_out (D := D) wS (s := s) hb3 hk (16 * b) 0 (by omega) (fun i h1 h2 => by omega)
        rw [Nat.zero_add, zmB_0] at this
        rw [Nat.add_zero, this, Nat.zero_testBit]
      have a := sumLX (N := N) S hN rfl gs qL qR wS w wR ck wy hs hb3 wt (nI (cnt (fun x => zmB D s 48 x) (40 * b))) (dsz D (3 * s + b)) 0 N H x3 0 (by omega) (by have := (w.1 (3 * s + b) (by omega)).1; omega) fr (by rw [Nat.add_zero]; exact q) (by omega) z0
      rw [nI_0] at a
      rw [s_X8_checkedSum_L8.eq_2, if_neg (show ¬ (3 : Int32) ≤ nI b from nI_ge (b := 3) (by omega) (by omega)), vX9 SH hs, logOfX SH hs hb3, Option.bind_some]
      rcases a with ⟨h', a1, a2, a3⟩ | ⟨y, M', h', a1, a2, a3, a4, a5⟩
      · have a1 : s_X8_checkedSum_L28 N N (A 24) (some (A (100 + s))) wt x3 (nI (cnt (fun x => zmB D s 48 x) (40 * b))) (nI b) (some (A (200 + (3 * s + b)))) 0 0 H = some (.inl (1099511627776, h')) := a1
        rw [a1, Option.bind_some]
        exact Or.inl ⟨h', rfl, a2, a3⟩
      · have a1 : s_X8_checkedSum_L28 N N (A 24) (some (A (100 + s))) wt x3 (nI (cnt (fun x => zmB D s 48 x) (40 * b))) (nI b) (some (A (200 + (3 * s + b)))) 0 0 H = some (.inr (y, Int64.ofNat M', h')) := a1
        have ec : cnt (fun k => M'.testBit k) 40 = cnt (fun k => zmB D s 48 (40 * b + k)) 40 := cnt_congr 40 (fun k hk => a5 k hk)
        have e40 : nI (cnt (fun x => zmB D s 48 x) (40 * b)) + nI (cnt (fun k => M'.testBit k) 40) = nI (cnt (fun x => zmB D s 48 x) (40 * (b + 1))) := by
          rw [ec, nI_add, show 40 * (b + 1) = 40 * b + 40 by omega, cnt_add (fun x => zmB D s 48 x) (40 * b) 40]
        rw [a1, Option.bind_some, Sum.elim_inr]
        show (∃ h'', ((s_J13_bitCount_95d88 h' (Int64.ofNat M')).bind fun v24 => s_X8_checkedSum_L8 N z (A 24) (some (A (100 + s))) wt y (nI (cnt (fun x => zmB D s 48 x) (40 * b)) + v24) (nI b + 1) h') = some (.inl (1099511627776, h'')) ∧ FrV A h h'' ∧ csO D s wt 48 = none) ∨ (∃ y' h'', ((s_J13_bitCount_95d88 h' (Int64.ofNat M')).bind fun v24 => s_X8_checkedSum_L8 N z (A 24) (some (A (100 + s))) wt y (nI (cnt (fun x => zmB D s 48 x) (40 * b)) + v24) (nI b + 1) h') = some (.inr (y', nI (zN D s), h'')) ∧ FrV A h h'' ∧ csO D s wt 48 = some y')
        rw [bitsX h' a4, Option.bind_some, e40, nI_1]
        exact ih (b + 1) z h' y (by omega) (by omega) a2 a3
  have a := L 3 0 N h 0 (by omega) (by omega) (Fr.refl _) rfl
  rw [nI_0] at a
  unfold s_X8_checkedSum
  rcases a with ⟨h', a1, a2, a3⟩ | ⟨y, h', a1, a2, a3⟩
  · have a1 : s_X8_checkedSum_L8 N N (A 24) (some (A (100 + s))) wt 0 0 0 h = some (.inl (1099511627776, h')) := a1
    rw [a1, Option.bind_some]
    refine ⟨h', ?_, a2⟩
    unfold csV
    rw [a3]
    rfl
  · have a1 : s_X8_checkedSum_L8 N N (A 24) (some (A (100 + s))) wt 0 0 0 h = some (.inr (y, nI (zN D s), h')) := a1
    have S' := a2.shX S
    have gP' : XgP h' A D := gP.fr a2 (fun z => by cases z) (fun z => by cases z)
    have qL' : XgL h' A D := qL.fr a2 (fun f z => by cases z; omega) (fun f z => z.elim)
    have wy' : WyX h' A D := wy.fr a2 (fun z => by cases z) (fun z => by cases z)
    have ew := withWhyX (N := N) S' hN rfl qL' w wy' hs (y := 3) (by omega)
    have ew : s_X9_contactsWithWhy N h' (A (100 + s)) 3 = some (nI (wyN D s 3 48)) := ew
    rw [a1, Option.bind_some, Sum.elim_inr]
    show ∃ h'', ((gI h' 8 2 (some (A 24))).bind fun v28 => (cV h' 9 (some (A (100 + s))) fun a30 => s_X9_contactsWithWhy N h' a30 3).bind fun v29 => some (((y * nI (zN D s)) - (v28 * v29)).toInt64, h')) = some (vJ (csV D s wt), h'') ∧ FrV A h h''
    rw [gX8_2 S', Option.bind_some, gP'.2, vX9 S' hs, ew, Option.bind_some]
    refine ⟨h', ?_, a2⟩
    unfold csV
    rw [a3]
    rfl
end
