/-! ===== how a clock is off: the reference ===== -/
theorem apartM (h : IH) {a b : Int64} (h1 : -100000000000 ≤ a.toInt) (h2 : a.toInt ≤ 100000000000) (h3 : -100000000000 ≤ b.toInt) (h4 : b.toInt ≤ 100000000000) : ∃ y, s_X12_apart h a b = some y ∧ y.toInt = ((a.toInt - b.toInt).natAbs : Int) := by
  unfold s_X12_apart
  have e : (0 ≤ lg_cmp a b) ↔ ¬ a.toInt < b.toInt := by
    have e : (0 ≤ lg_cmp a b) ↔ ¬ (lg_cmp a b < 0) := by rw [iLe, iLt]; omega
    rw [e, lc_lt, lLt]
  by_cases c : a.toInt < b.toInt
  · rw [if_neg (fun z => e.mp z c), Option.bind_some]
    exact ⟨_, rfl, by rw [ls (by omega) (by omega)]; omega⟩
  · rw [if_pos (e.mpr c), Option.bind_some]
    exact ⟨_, rfl, by rw [ls (by omega) (by omega)]; omega⟩
/-- c and d name one another and fit -/
def dsB (D : Dt) (c d : Nat) : Bool := decide (c / 48 ≠ d / 48) && decide (tgO D c = some (d / 48)) && decide (tgO D d = some (c / 48)) && fitB D c d
theorem distOfM {h : IH} {m : Nat} {ar : Nat → Nat} (S : ShM h m ar) {D : Dt} (gL : MgL h m ar D) (gP : MgP h m ar D) (tg : TgM h ar D) (w : WgL D) (wn : dn D ≤ 12) (wP : WgP D) {c d : Nat} (hc : c < 576) (hd : d < 576) (o p : Int64) (o1 : -20000000000 ≤ o.toInt) (o2 : o.toInt ≤ 20000000000) (p1 : -20000000000 ≤ p.toInt) (p2 : p.toInt ≤ 20000000000) : ∃ v, s_X12_distanceOf h m (nI c) (nI d) o p = some v ∧ v.toInt = if dsB D c d = true ∧ ((((dmo D c).toInt + o.toInt) - ((dmo D d).toInt + p.toInt)).natAbs : Int) ≤ (dwin D).toInt then ((((dmo D c).toInt + o.toInt) - ((dmo D d).toInt + p.toInt)).natAbs : Int) else -1 := by
  have m1 : (-1 : Int64).toInt = -1 := rfl
  have inj : ∀ e t, t < 1000 → (oI (tgO D e) = nI t ↔ tgO D e = some t) := fun e t ht => oI_inj (fun u hu => by have := (tg_lt hu).1; omega) (by omega)
  unfold s_X12_distanceOf
  rw [show (48 : Int32) = nI 48 from rfl, nI_div (by omega) (by omega) (by omega), nI_div (by omega) (by omega) (by omega), mgR 18 S (by decide), Option.bind_some, maI 18 c S (by decide) (show c < 576 by omega), Option.bind_some, tg c hc, Option.bind_some, maI 18 d S (by decide) (show d < 576 by omega), Option.bind_some, tg d hd]
  by_cases c1 : c / 48 = d / 48
  · rw [if_pos (by rw [c1])]
    refine ⟨-1, rfl, ?_⟩
    have : dsB D c d = false := by unfold dsB; rw [decide_eq_false (fun z => z c1)]; rfl
    rw [this, if_neg (fun z => by cases z.1)]
    exact m1
  · rw [if_neg (fun z => c1 ((nI_eq (by omega) (by omega)).mp z))]
    by_cases c2 : tgO D c = some (d / 48)
    · rw [if_pos ((inj c _ (by omega)).mpr c2)]
      by_cases c3 : tgO D d = some (c / 48)
      · rw [if_pos ((inj d _ (by omega)).mpr c3)]
        have cc := (tg_lt c2).2
        have cd := (tg_lt c3).2
        have ec := enM gL hc cc
        have ed := enM gL hd cd
        obtain ⟨wc1, wc2⟩ := (ct_W w hc cc).2.1
        obtain ⟨wd1, wd2⟩ := (ct_W w hd cd).2.1
        rw [mV12 S, fitM S gL hc hd cc cd, Option.bind_some]
        have eb : dsB D c d = fitB D c d := by
          unfold dsB
          rw [decide_eq_true c1, decide_eq_true c2, decide_eq_true c3]
          rfl
        rw [eb]
        cases hf : fitB D c d with
        | false =>
          rw [if_pos (show bI false = 0 from rfl), if_neg (fun z => by cases z.1)]
          exact ⟨-1, rfl, m1⟩
        | true =>
          have ea1 : (dmo D c + o).toInt = (dmo D c).toInt + o.toInt := la (by omega) (by omega)
          have ea2 : (dmo D d + p).toInt = (dmo D d).toInt + p.toInt := la (by omega) (by omega)
          obtain ⟨y, ey, hy⟩ := apartM h (a := dmo D c + o) (b := dmo D d + p) (by omega) (by omega) (by omega) (by omega)
          rw [if_neg (show ¬ bI true = 0 by decide), mgR 11 S (by decide), Option.bind_some, maJ 11 c S (by decide) (show c < 576 by omega), Option.bind_some, ec.2.1, Option.bind_some, maJ 11 d S (by decide) (show d < 576 by omega), Option.bind_some, ed.2.1, ey, Option.bind_some, mgI 21 S.1, Option.bind_some]
          have eW : fI h (1200 + 21) m = dwin D := gP.1
          rw [eW]
          have eq : (lg_cmp y (dwin D).toInt64 ≤ 0) ↔ y.toInt ≤ (dwin D).toInt := by
            have e : (lg_cmp y (dwin D).toInt64 ≤ 0) ↔ ¬ (0 < lg_cmp y (dwin D).toInt64) := by rw [iLe, iLt]; omega
            rw [e, lc_gt, lLt, il]
            omega
          rw [← ea1, ← ea2, ← hy]
          by_cases c4 : y.toInt ≤ (dwin D).toInt
          · rw [if_pos (eq.mpr c4), Option.bind_some, if_pos ⟨rfl, c4⟩]
            exact ⟨y, rfl, rfl⟩
          · rw [if_neg (fun z => c4 (eq.mp z)), Option.bind_some, if_neg (fun z => c4 z.2)]
            exact ⟨-1, rfl, m1⟩
      · rw [if_neg (fun z => c3 ((inj d _ (by omega)).mp z))]
        refine ⟨-1, rfl, ?_⟩
        have : dsB D c d = false := by unfold dsB; rw [decide_eq_false c3]; simp
        rw [this, if_neg (fun z => by cases z.1)]
        exact m1
    · rw [if_neg (fun z => c2 ((inj c _ (by omega)).mp z))]
      refine ⟨-1, rfl, ?_⟩
      have : dsB D c d = false := by unfold dsB; rw [decide_eq_false c2]; simp
      rw [this, if_neg (fun z => by cases z.1)]
      exact m1
theorem gpJ_any {D : Dt} {s c t b : Nat} (p : Int64 → Bool) : ∀ j, (gpJ D s c t b j).any p = true ↔ ∃ k, k < j ∧ (ctB D (16 * (3 * t + b) + k) = true ∧ tgO D (16 * (3 * t + b) + k) = some s ∧ fitB D c (16 * (3 * t + b) + k) = true) ∧ p (dmo D (16 * (3 * t + b) + k) - dmo D c) = true := by
  intro j
  induction j with
  | zero => exact ⟨fun h => (by cases h), fun ⟨k, hk, _⟩ => (by omega)⟩
  | succ j ih =>
    unfold gpJ
    rw [List.any_append, Bool.or_eq_true, ih]
    constructor
    · intro h
      rcases h with ⟨k, hk, q⟩ | h
      · exact ⟨k, by omega, q⟩
      · split at h
        · rename_i q
          exact ⟨j, by omega, q, by simpa using h⟩
        · cases h
    · intro ⟨k, hk, q⟩
      by_cases e : k = j
      · subst e
        refine Or.inr ?_
        rw [if_pos q.1]
        simpa using q.2
      · exact Or.inl ⟨k, by omega, q⟩
section
variable {h : IH} {m : Nat} {ar : Nat → Nat} {D : Dt} {N s : Nat}
theorem band48 {s j : Nat} (hj : j < 48) : (48 * s + j) / 48 = s ∧ (48 * s + j) / 16 / 3 = s ∧ (48 * s + j) / 16 % 3 = j / 16 := by omega
/-- the first line of the called station's log of the same band -/
theorem firstM {c t : Nat} (hc : c < 576) (ht : t < 12) : (48 * nI t) + (((nI c / 16) - (nI c / 16) / 3 * 3) * 16) = nI (16 * (3 * t + c / 16 % 3)) := by
  rw [show (16 : Int32) = nI 16 from rfl, show (3 : Int32) = nI 3 from rfl, show (48 : Int32) = nI 48 from rfl, nI_div (by omega) (by omega) (by omega), nI_div (by omega) (by omega) (by omega), nI_mul, nI_mul, nI_sub (by omega), nI_mul, nI_add]
  congr 1
  omega
theorem agreeM (S : ShM h m ar) (hN : 2000 ≤ N) (gL : MgL h m ar D) (gP : MgP h m ar D) (tg : TgM h ar D) (w : WgL D) (wn : dn D ≤ 12) (wP : WgP D) (hs : s < dn D) (o : Int64) (o1 : -20000000000 ≤ o.toInt) (o2 : o.toInt ≤ 20000000000) : s_X12_agreeing N h m (nI s) o = some (nI (agr D s o.toInt)) := by
  have z0 : (0 : Int64).toInt = 0 := rfl
  -- one contact: is there a line that agrees
  have L1 : ∀ (c t : Nat) (x4 : Int32), c < 576 → c / 48 = s → t < dn D → tgO D c = some t → ∀ (r k z : Nat), k + r = 16 → r < z → ∃ x : Bool, s_X12_agreeing_L70 N z m (nI s) o x4 (nI c) 0 (nI (16 * (3 * t + c / 16 % 3))) (nI (16 * (3 * t + c / 16 % 3) + k)) h = some (bI x) ∧ (x = true ↔ (t ≠ s ∧ ∃ k', k ≤ k' ∧ k' < 16 ∧ (ctB D (16 * (3 * t + c / 16 % 3) + k') = true ∧ tgO D (16 * (3 * t + c / 16 % 3) + k') = some s ∧ fitB D c (16 * (3 * t + c / 16 % 3) + k') = true) ∧ agw (dwin D).toInt o.toInt (dmo D (16 * (3 * t + c / 16 % 3) + k') - dmo D c) = true)) := by
    intro c t x4 hc hcs ht htc r
    have cc := (tg_lt htc).2
    have fin1 : ∀ k z, 0 < z → s_X12_agreeing_L70 N z m (nI s) o x4 (nI c) 1 (nI (16 * (3 * t + c / 16 % 3))) (nI (16 * (3 * t + c / 16 % 3) + k)) h = some 1 := by
      intro k z hz
      obtain ⟨z, rfl⟩ : ∃ y, z = y + 1 := ⟨z - 1, by omega⟩
      rw [s_X12_agreeing_L70.eq_2, if_neg (show ¬ (1 : Int32) = 0 by decide)]
      split <;> rfl
    induction r with
    | zero =>
      intro k z hk hz
      obtain ⟨z, rfl⟩ : ∃ y, z = y + 1 := ⟨z - 1, by omega⟩
      rw [s_X12_agreeing_L70.eq_2, show (16 : Int32) = nI 16 from rfl, nI_add, if_pos (nI_le (by omega) (by omega))]
      exact ⟨false, rfl, fun z => (by cases z), fun ⟨_, k', h1, h2, _⟩ => (by omega)⟩
    | succ r ih =>
      intro k z hk hz
      obtain ⟨z, rfl⟩ : ∃ y, z = y + 1 := ⟨z - 1, by omega⟩
      have hd : 16 * (3 * t + c / 16 % 3) + k < 576 := by omega
      have hd48 : (16 * (3 * t + c / 16 % 3) + k) / 48 = t := by omega
      rw [s_X12_agreeing_L70.eq_2, show (16 : Int32) = nI 16 from rfl, nI_add, if_neg (nI_ge (by omega) (by omega)), if_pos rfl, mV12 S, isContactM S gL w hd, Option.bind_some]
      obtain ⟨v, ev, hv⟩ := distOfM S gL gP tg w wn wP hc hd o 0 o1 o2 (by decide) (by decide)
      -- what this line says
      have one : ((if bI (ctB D (16 * (3 * t + c / 16 % 3) + k)) = 0 then some 0 else (cV h 12 (some m) fun a15 => s_X12_distanceOf h a15 (nI c) (nI (16 * (3 * t + c / 16 % 3) + k)) o 0).bind fun v13 => if (lg_cmp v13 0) < 0 then some 0 else some 1) : Option Int32) = some (if t ≠ s ∧ (ctB D (16 * (3 * t + c / 16 % 3) + k) = true ∧ tgO D (16 * (3 * t + c / 16 % 3) + k) = some s ∧ fitB D c (16 * (3 * t + c / 16 % 3) + k) = true) ∧ agw (dwin D).toInt o.toInt (dmo D (16 * (3 * t + c / 16 % 3) + k) - dmo D c) = true then 1 else 0) := by
        cases hcd : ctB D (16 * (3 * t + c / 16 % 3) + k) with
        | false =>
          rw [if_pos (show bI false = 0 from rfl), if_neg (fun z => by cases z.2.1.1)]
        | true =>
          have gb := gap_bd w hc hd cc hcd
          rw [if_neg (show ¬ bI true = 0 by decide), mV12 S, ev, Option.bind_some]
          have e0 : (lg_cmp v 0 < 0) ↔ v.toInt < 0 := by rw [lc_lt, lLt, z0]
          have ds : dsB D c (16 * (3 * t + c / 16 % 3) + k) = true ↔ (t ≠ s ∧ tgO D (16 * (3 * t + c / 16 % 3) + k) = some s ∧ fitB D c (16 * (3 * t + c / 16 % 3) + k) = true) := by
            unfold dsB
            rw [hd48, hcs, htc, Bool.and_eq_true, Bool.and_eq_true, Bool.and_eq_true, decide_eq_true_iff, decide_eq_true_iff, decide_eq_true_iff]
            constructor
            · intro ⟨⟨⟨a, _⟩, b⟩, c⟩
              exact ⟨fun z => a z.symm, b, c⟩
            · intro ⟨a, b, c⟩
              exact ⟨⟨⟨fun z => a z.symm, rfl⟩, b⟩, c⟩
          have aw : agw (dwin D).toInt o.toInt (dmo D (16 * (3 * t + c / 16 % 3) + k) - dmo D c) = true ↔ ((((dmo D c).toInt + o.toInt) - ((dmo D (16 * (3 * t + c / 16 % 3) + k)).toInt + (0 : Int64).toInt)).natAbs : Int) ≤ (dwin D).toInt := by
            rw [agw_iff, gb.1, z0]
            omega
          by_cases q : t ≠ s ∧ (true = true ∧ tgO D (16 * (3 * t + c / 16 % 3) + k) = some s ∧ fitB D c (16 * (3 * t + c / 16 % 3) + k) = true) ∧ agw (dwin D).toInt o.toInt (dmo D (16 * (3 * t + c / 16 % 3) + k) - dmo D c) = true
          · rw [if_pos ⟨ds.mpr ⟨q.1, q.2.1.2.1, q.2.1.2.2⟩, aw.mp q.2.2⟩] at hv
            rw [if_neg (fun z => by have := e0.mp z; omega), if_pos q]
          · rw [if_neg (fun z => q ⟨(ds.mp z.1).1, ⟨rfl, (ds.mp z.1).2⟩, aw.mpr z.2⟩)] at hv
            rw [if_pos (e0.mpr (by omega)), if_neg q]
      rw [one, Option.bind_some, nI_1]
      by_cases q : t ≠ s ∧ (ctB D (16 * (3 * t + c / 16 % 3) + k) = true ∧ tgO D (16 * (3 * t + c / 16 % 3) + k) = some s ∧ fitB D c (16 * (3 * t + c / 16 % 3) + k) = true) ∧ agw (dwin D).toInt o.toInt (dmo D (16 * (3 * t + c / 16 % 3) + k) - dmo D c) = true
      · rw [if_pos q, show 16 * (3 * t + c / 16 % 3) + k + 1 = 16 * (3 * t + c / 16 % 3) + (k + 1) by omega, fin1 (k + 1) z (by omega)]
        exact ⟨true, rfl, fun _ => ⟨q.1, k, by omega, by omega, q.2⟩, fun _ => rfl⟩
      · rw [if_neg q, show 16 * (3 * t + c / 16 % 3) + k + 1 = 16 * (3 * t + c / 16 % 3) + (k + 1) by omega]
        obtain ⟨x, e1, e2⟩ := ih (k + 1) z (by omega) (by omega)
        refine ⟨x, e1, fun hx => ?_, fun ⟨p1, k', p2, p3, p4⟩ => e2.mpr ?_⟩
        · obtain ⟨p1, k', p2, p3, p4⟩ := e2.mp hx
          exact ⟨p1, k', by omega, p3, p4⟩
        · by_cases e : k' = k
          · subst e
            exact absurd ⟨p1, p4⟩ q
          · exact ⟨p1, k', by omega, p3, p4⟩
  have L2 : ∀ (r j z : Nat), j + r = 48 → r < z → s_X12_agreeing_L9 N z m (nI s) o (nI (cnt (fun j => agB D s (48 * s + j) o.toInt) j)) (nI (48 * s + j)) h = some (nI (agr D s o.toInt)) := by
    intro r
    induction r with
    | zero =>
      intro j z hj hz
      obtain ⟨z, rfl⟩ : ∃ y, z = y + 1 := ⟨z - 1, by omega⟩
      have : j = 48 := by omega
      subst this
      rw [s_X12_agreeing_L9.eq_2, show (48 : Int32) = nI 48 from rfl, nI_mul, nI_add, if_pos (nI_le (Nat.le_refl _) (by omega))]
      rfl
    | succ r ih =>
      intro j z hj hz
      obtain ⟨z, rfl⟩ : ∃ y, z = y + 1 := ⟨z - 1, by omega⟩
      have hc : 48 * s + j < 576 := by omega
      have hb := band48 (s := s) (j := j) (by omega)
      have one : ∃ x : Bool, ((if bI (ctB D (48 * s + j)) = 0 then some 0 else (gR h 12 18 (some m)).bind fun v4 => (aI h v4 (nI (48 * s + j))).bind fun v5 => if v5 < 0 then some 0 else (gR h 12 18 (some m)).bind fun v7 => (aI h v7 (nI (48 * s + j))).bind fun v8 => (s_X12_agreeing_L70 N N m (nI s) o (nI (cnt (fun j => agB D s (48 * s + j) o.toInt) j)) (nI (48 * s + j)) 0 ((48 * v8) + (((nI (48 * s + j) / 16) - (nI (48 * s + j) / 16) / 3 * 3) * 16)) ((48 * v8) + (((nI (48 * s + j) / 16) - (nI (48 * s + j) / 16) / 3 * 3) * 16)) h).bind fun q18 => some q18) : Option Int32) = some (bI x) ∧ x = agB D s (48 * s + j) o.toInt := by
        cases hcc : ctB D (48 * s + j) with
        | false =>
          refine ⟨false, rfl, ?_⟩
          unfold agB gpC tgO
          rw [hcc]
          rfl
        | true =>
          rw [if_neg (show ¬ bI true = 0 by decide), mgR 18 S (by decide), Option.bind_some, maI 18 _ S (by decide) (show 48 * s + j < 576 by omega), Option.bind_some, tg _ hc]
          cases ht : tgO D (48 * s + j) with
          | none =>
            rw [if_pos oI_none]
            refine ⟨false, rfl, ?_⟩
            unfold agB gpC
            rw [ht]
            rfl
          | some t =>
            have htn := (tg_lt ht).1
            have et : oI (some t) = nI t := rfl
            rw [et, if_neg (nI_pos (by omega)), Option.bind_some, maI 18 _ S (by decide) (show 48 * s + j < 576 by omega), Option.bind_some, tg _ hc, ht, et, firstM hc (by omega)]
            obtain ⟨x, e, ex⟩ := L1 (48 * s + j) t (nI (cnt (fun j => agB D s (48 * s + j) o.toInt) j)) hc hb.1 htn ht 16 0 N (by omega) (by omega)
            rw [Nat.add_zero] at e
            rw [e, Option.bind_some]
            refine ⟨x, rfl, ?_⟩
            have ea : agB D s (48 * s + j) o.toInt = true ↔ (t ≠ s ∧ ∃ k', 0 ≤ k' ∧ k' < 16 ∧ (ctB D (16 * (3 * t + (48 * s + j) / 16 % 3) + k') = true ∧ tgO D (16 * (3 * t + (48 * s + j) / 16 % 3) + k') = some s ∧ fitB D (48 * s + j) (16 * (3 * t + (48 * s + j) / 16 % 3) + k') = true) ∧ agw (dwin D).toInt o.toInt (dmo D (16 * (3 * t + (48 * s + j) / 16 % 3) + k') - dmo D (48 * s + j)) = true) := by
              unfold agB gpC
              rw [ht]
              dsimp only
              by_cases c : t = s
              · rw [if_pos c]
                exact ⟨fun z => (by cases z), fun z => absurd c z.1⟩
              · rw [if_neg c, gpJ_any]
                exact ⟨fun ⟨k, h1, h2, h3⟩ => ⟨c, k, by omega, h1, h2, h3⟩, fun ⟨_, k, _, h1, h2, h3⟩ => ⟨k, h1, h2, h3⟩⟩
            exact Bool.eq_iff_iff.mpr (ex.trans ea.symm)
      obtain ⟨x, e1, e2⟩ := one
      rw [s_X12_agreeing_L9.eq_2]
      have c1 : ¬ ((48 * nI s) + 48) ≤ nI (48 * s + j) := by
        rw [show (48 : Int32) = nI 48 from rfl, nI_mul, nI_add]
        exact nI_ge (by omega) (by omega)
      rw [if_neg c1, mV12 S, isContactM S gL w hc, Option.bind_some, e1, Option.bind_some, e2]
      have e3 : ((if bI (agB D s (48 * s + j) o.toInt) = 0 then some 0 else some 1) : Option Int32) = some (nI (if agB D s (48 * s + j) o.toInt then 1 else 0)) := by
        cases agB D s (48 * s + j) o.toInt <;> rfl
      rw [e3, Option.bind_some, nI_add, nI_1, show 48 * s + j + 1 = 48 * s + (j + 1) by omega]
      exact ih (j + 1) z (by omega) (by omega)
  unfold s_X12_agreeing
  have e := L2 48 0 N (by omega) (by omega)
  rw [Nat.add_zero] at e
  have e : s_X12_agreeing_L9 N N m (nI s) o 0 (nI (48 * s)) h = some (nI (agr D s o.toInt)) := e
  rw [show (48 : Int32) = nI 48 from rfl, nI_mul, e, Option.bind_some]
theorem manyM (S : ShM h m ar) (hN : 2000 ≤ N) (g : MgS h m ar D) (gL : MgL h m ar D) (tg : TgM h ar D) (wS : WgS D) (w : WgL D) (hs : s < dn D) : s_X12_offsetOf_L7 N N m (nI s) 0 (48 * nI s) h = some (nI (mny D s)) := by
  have wn := wS.1
  have L2 : ∀ (r j z : Nat), j + r = 48 → r < z → s_X12_offsetOf_L7 N z m (nI s) (nI (cnt (fun k => mnB D s (48 * s + k)) j)) (nI (48 * s + j)) h = some (nI (mny D s)) := by
    intro r
    induction r with
    | zero =>
      intro j z hj hz
      obtain ⟨z, rfl⟩ : ∃ y, z = y + 1 := ⟨z - 1, by omega⟩
      have : j = 48 := by omega
      subst this
      rw [s_X12_offsetOf_L7.eq_2, show (48 : Int32) = nI 48 from rfl, nI_mul, nI_add, if_pos (nI_le (Nat.le_refl _) (by omega))]
      rfl
    | succ r ih =>
      intro j z hj hz
      obtain ⟨z, rfl⟩ : ∃ y, z = y + 1 := ⟨z - 1, by omega⟩
      have hc : 48 * s + j < 576 := by omega
      have c1 : ¬ ((48 * nI s) + 48) ≤ nI (48 * s + j) := by
        rw [show (48 : Int32) = nI 48 from rfl, nI_mul, nI_add]
        exact nI_ge (by omega) (by omega)
      have one : ((if bI (ctB D (48 * s + j)) = 0 then some 0 else (gR h 12 18 (some m)).bind fun v4 => (aI h v4 (nI (48 * s + j))).bind fun v5 => if v5 < 0 then some 0 else (gR h 12 18 (some m)).bind fun v7 => (aI h v7 (nI (48 * s + j))).bind fun v8 => if v8 = nI s then some 0 else (gR h 12 18 (some m)).bind fun v10 => (aI h v10 (nI (48 * s + j))).bind fun v11 => (cV h 12 (some m) fun a14 => s_X12_hasLog h a14 v11).bind fun v12 => if v12 = 0 then some 0 else some 1) : Option Int32) = some (nI (if mnB D s (48 * s + j) then 1 else 0)) := by
        cases hcc : ctB D (48 * s + j) with
        | false =>
          have : mnB D s (48 * s + j) = false := by unfold mnB tgO; rw [hcc]; rfl
          rw [this]
          rfl
        | true =>
          rw [if_neg (show ¬ bI true = 0 by decide), mgR 18 S (by decide), Option.bind_some, maI 18 _ S (by decide) (show 48 * s + j < 576 by omega), Option.bind_some, tg _ hc]
          cases ht : tgO D (48 * s + j) with
          | none =>
            rw [if_pos oI_none]
            have : mnB D s (48 * s + j) = false := by unfold mnB; rw [ht]
            rw [this]
            rfl
          | some t =>
            have htn := (tg_lt ht).1
            have et : oI (some t) = nI t := rfl
            have em : mnB D s (48 * s + j) = (decide (t ≠ s) && hlB D t) := by unfold mnB; rw [ht]
            rw [et, if_neg (nI_pos (by omega)), Option.bind_some, maI 18 _ S (by decide) (show 48 * s + j < 576 by omega), Option.bind_some, tg _ hc, ht, et, em]
            by_cases c : t = s
            · rw [if_pos (show nI t = nI s by rw [c]), decide_eq_false (show ¬ t ≠ s from fun z => z c)]
              rfl
            · rw [if_neg (fun z => c ((nI_eq (by omega) (by omega)).mp z)), Option.bind_some, maI 18 _ S (by decide) (show 48 * s + j < 576 by omega), Option.bind_some, tg _ hc, ht, et, mV12 S, hasLogM S g gL wS w htn, Option.bind_some, decide_eq_true c, Bool.true_and]
              cases hlB D t <;> rfl
      rw [s_X12_offsetOf_L7.eq_2, if_neg c1, mV12 S, isContactM S gL w hc, Option.bind_some, one, Option.bind_some, nI_add, nI_1, show 48 * s + j + 1 = 48 * s + (j + 1) by omega]
      exact ih (j + 1) z (by omega) (by omega)
  have e := L2 48 0 N (by omega) (by omega)
  rw [Nat.add_zero] at e
  rw [show (48 : Int32) = nI 48 from rfl, nI_mul]
  exact e
end
