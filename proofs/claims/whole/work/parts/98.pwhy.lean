/-! ===== why: what both work out ===== -/
def anB (p : Nat → Bool) : Nat → Bool
  | 0 => false
  | k + 1 => anB p k || p k
theorem anB_iff {p : Nat → Bool} : ∀ {n : Nat}, anB p n = true ↔ ∃ k, k < n ∧ p k = true := by
  intro n
  induction n with
  | zero => exact ⟨fun z => (by cases z), fun ⟨k, h, _⟩ => absurd h (by omega)⟩
  | succ n ih =>
    show (anB p n || p n) = true ↔ _
    rw [Bool.or_eq_true, ih]
    constructor
    · rintro (⟨k, h1, h2⟩ | h)
      · exact ⟨k, by omega, h2⟩
      · exact ⟨n, by omega, h⟩
    · rintro ⟨k, h1, h2⟩
      by_cases c : k = n
      · rw [c] at h2; exact Or.inr h2
      · exact Or.inl ⟨k, by omega, h2⟩
theorem anB_false {p : Nat → Bool} {n : Nat} : anB p n = false ↔ ∀ k, k < n → p k = false := by
  constructor
  · intro h k hk
    cases c : p k with
    | false => rfl
    | true => rw [anB_iff.mpr ⟨k, hk, c⟩] at h; cases h
  · intro h
    cases c : anB p n with
    | false => rfl
    | true =>
      obtain ⟨k, h1, h2⟩ := anB_iff.mp c
      rw [h k h1] at h2
      cases h2
theorem Bool_ext {a b : Bool} (h : a = true ↔ b = true) : a = b := by cases a <;> cases b <;> first | rfl | (exact absurd (h.mpr rfl) (by decide)) | (exact absurd (h.mp rfl) (by decide))
/-- an earlier pair of the same two stations on the band -/
noncomputable def dpB (D : Dt) (e c : Nat) : Bool := ctB D c && (decide (parF D c ≠ none) && (decide (tgO D c = tgO D e) && decide ((dmo D c).toInt < (dmo D e).toInt ∨ (dmo D c).toInt = (dmo D e).toInt ∧ c < e)))
theorem dpB_iff {D : Dt} {e c : Nat} : dpB D e c = true ↔ ctB D c = true ∧ parF D c ≠ none ∧ tgO D c = tgO D e ∧ ((dmo D c).toInt < (dmo D e).toInt ∨ (dmo D c).toInt = (dmo D e).toInt ∧ c < e) := by
  unfold dpB
  rw [Bool.and_eq_true, Bool.and_eq_true, Bool.and_eq_true, decide_eq_true_iff, decide_eq_true_iff, decide_eq_true_iff]
noncomputable def dupB (D : Dt) (e : Nat) : Bool := anB (fun i => dpB D e (16 * (e / 16) + i)) 16
def smB (D : Dt) (e c : Nat) : Bool := ctB D c && decide (calV (dtb D c) (dtl D c) 0 0 = calV (dtb D e) (dtl D e) 0 0)
def snB (D : Dt) (e s : Nat) : Bool := anB (fun k => smB D e (48 * s + k)) 48
def stN (D : Dt) (e : Nat) : Nat := cnt (fun s => snB D e s) (dn D)
noncomputable def whyF (D : Dt) (e : Nat) : Nat := match parF D e with
  | some _ => if dupB D e = true then 1 else 0
  | none => if whB D e = true then (match tgO D e with
      | none => (match meaF D e with
        | some _ => 3
        | none => if stN D e < 3 then 4 else 6)
      | some t => if t ≠ e / 48 ∧ hlB D t = true then 5 else 6) else 2
theorem whyF_le (D : Dt) (e : Nat) : whyF D e ≤ 6 := by
  unfold whyF
  split
  · split <;> omega
  · split
    · split
      · split
        · omega
        · split <;> omega
      · split <;> omega
    · omega
section
variable {m : Nat} {ar : Nat → Nat} {N : Nat} {D : Dt}
theorem isDupeM {h : IH} (S : ShM h m ar) (hN : 2000 ≤ N) (gL : MgL h m ar D) (w : WgL D) (wn : dn D ≤ 12) (ck : CkM h ar D) {e : Nat} (he : e < 576) (ce : ctB D e = true) : s_X12_isDupe N h m (nI e) = some (bI (dupB D e)) := by
  have ee := enM gL he ce
  have te : rI h (ar 18) e = oI (tgO D e) := ck.1 e he
  have tinj : ∀ c, oI (tgO D c) = oI (tgO D e) ↔ tgO D c = tgO D e := fun c => by
    refine ⟨fun z => ?_, fun z => by rw [z]⟩
    cases h1 : tgO D e with
    | none => rw [h1] at z; exact (oI_m1 (fun u hu => by have := (tg_lt hu).1; omega)).mp z
    | some t => rw [h1] at z; exact (oI_inj (fun u hu => by have := (tg_lt hu).1; omega) (by have := (tg_lt h1).1; omega)).mp z
  have L : ∀ (r k z : Nat), k + r = 16 → r < z → s_X12_isDupe_L13 N z m (nI e) (nI (16 * (e / 16))) (bI (anB (fun i => dpB D e (16 * (e / 16) + i)) k)) (nI (16 * (e / 16) + k)) h = some (bI (dupB D e)) := by
    intro r
    induction r with
    | zero =>
      intro k z hk hz
      obtain ⟨z, rfl⟩ : ∃ y, z = y + 1 := ⟨z - 1, by omega⟩
      have : k = 16 := by omega
      subst this
      rw [s_X12_isDupe_L13.eq_2, show (16 : Int32) = nI 16 from rfl, nI_add, if_pos (nI_le (by omega) (by omega))]
      rfl
    | succ r ih =>
      intro k z hk hz
      obtain ⟨z, rfl⟩ : ∃ y, z = y + 1 := ⟨z - 1, by omega⟩
      have hc : 16 * (e / 16) + k < 576 := by omega
      have nx : nI (16 * (e / 16) + k) + 1 = nI (16 * (e / 16) + (k + 1)) := by rw [nI_1]; rfl
      have eA : anB (fun i => dpB D e (16 * (e / 16) + i)) (k + 1) = (anB (fun i => dpB D e (16 * (e / 16) + i)) k || dpB D e (16 * (e / 16) + k)) := rfl
      have step : ∀ x : Bool, x = anB (fun i => dpB D e (16 * (e / 16) + i)) (k + 1) → s_X12_isDupe_L13 N z m (nI e) (nI (16 * (e / 16))) (bI x) (nI (16 * (e / 16) + (k + 1))) h = some (bI (dupB D e)) := fun x hx => by rw [hx]; exact ih (k + 1) z (by omega) (by omega)
      rw [s_X12_isDupe_L13.eq_2, show (16 : Int32) = nI 16 from rfl, nI_add, if_neg (nI_ge (by omega) (by omega)), nx]
      have q14 : ((if nI (16 * (e / 16) + k) = nI e then some 0 else (cV h 12 (some m) fun a13 => s_X12_isContactAt h a13 (nI (16 * (e / 16) + k))).bind fun v3 => if v3 = 0 then some 0 else (gR h 12 19 (some m)).bind fun v5 => (aI h v5 (nI (16 * (e / 16) + k))).bind fun v6 => if v6 < 0 then some 0 else (gR h 12 18 (some m)).bind fun v8 => (aI h v8 (nI (16 * (e / 16) + k))).bind fun v9 => (gR h 12 18 (some m)).bind fun v10 => (aI h v10 (nI e)).bind fun v11 => if v9 = v11 then some 1 else some 0) : Option (Int32)) = some (bI (decide (16 * (e / 16) + k ≠ e ∧ ctB D (16 * (e / 16) + k) = true ∧ parF D (16 * (e / 16) + k) ≠ none ∧ tgO D (16 * (e / 16) + k) = tgO D e))) := by
        by_cases c1 : 16 * (e / 16) + k = e
        · rw [if_pos (by rw [c1]), decide_eq_false (fun z => z.1 c1)]; rfl
        · rw [if_neg (fun z => c1 ((nI_eq (by omega) (by omega)).mp z)), mV12 S, isContactM S gL w hc, Option.bind_some]
          cases c2 : ctB D (16 * (e / 16) + k) with
          | false => rw [if_pos (show bI false = 0 from rfl), decide_eq_false (fun z => by cases z.2.1)]; rfl
          | true =>
            rw [if_neg (show ¬ bI true = 0 by decide), mgR 19 S (by decide), Option.bind_some, maI 19 _ S (by decide) (show 16 * (e / 16) + k < 576 from hc), Option.bind_some, ck.2.2 _ hc]
            cases c3 : parF D (16 * (e / 16) + k) with
            | none => rw [if_pos oI_none, decide_eq_false (fun z => z.2.2.1 rfl)]; rfl
            | some d =>
              have := parF_lt wn c3
              rw [if_neg (oI_some (by omega)), mgR 18 S (by decide), Option.bind_some, maI 18 _ S (by decide) (show 16 * (e / 16) + k < 576 from hc), Option.bind_some, Option.bind_some, maI 18 _ S (by decide) (show e < 576 from he), Option.bind_some, ck.1 _ hc, te]
              by_cases c4 : tgO D (16 * (e / 16) + k) = tgO D e
              · rw [if_pos ((tinj _).mpr c4), decide_eq_true ⟨c1, rfl, (fun z => by cases z), c4⟩]; rfl
              · rw [if_neg (fun z => c4 ((tinj _).mp z)), decide_eq_false (fun z => c4 z.2.2.2)]; rfl
      rw [q14, Option.bind_some]
      cases hx : anB (fun i => dpB D e (16 * (e / 16) + i)) k with
      | true =>
        rw [if_neg (show ¬ bI true = 0 by decide), Option.bind_some]
        exact step true (by rw [eA, hx]; rfl)
      | false =>
        rw [hx, Bool.false_or] at eA
        rw [if_pos (show bI false = 0 from rfl)]
        by_cases c : 16 * (e / 16) + k ≠ e ∧ ctB D (16 * (e / 16) + k) = true ∧ parF D (16 * (e / 16) + k) ≠ none ∧ tgO D (16 * (e / 16) + k) = tgO D e
        · have ec := enM gL hc c.2.1
          have l1 : lg_cmp (dmo D (16 * (e / 16) + k)) (dmo D e) < 0 ↔ (dmo D (16 * (e / 16) + k)).toInt < (dmo D e).toInt := by rw [lc_lt, lLt]
          have l2 : lg_cmp (dmo D (16 * (e / 16) + k)) (dmo D e) = 0 ↔ (dmo D (16 * (e / 16) + k)).toInt = (dmo D e).toInt := by rw [lc_eq, ← Int64.toInt_inj]
          rw [decide_eq_true c, if_neg (show ¬ bI true = 0 by decide), mgR 11 S (by decide), Option.bind_some, maJ 11 _ S (by decide) (show 16 * (e / 16) + k < 576 from hc), Option.bind_some, Option.bind_some, maJ 11 e S (by decide) (show e < 576 from he), Option.bind_some, ec.2.1, ee.2.1]
          by_cases d1 : (dmo D (16 * (e / 16) + k)).toInt < (dmo D e).toInt
          · rw [if_pos (l1.mpr d1), Option.bind_some]
            exact step true (by rw [eA, dpB_iff.mpr ⟨c.2.1, c.2.2.1, c.2.2.2, Or.inl d1⟩])
          · rw [if_neg (fun z => d1 (l1.mp z)), Option.bind_some, maJ 11 _ S (by decide) (show 16 * (e / 16) + k < 576 from hc), Option.bind_some, Option.bind_some, maJ 11 e S (by decide) (show e < 576 from he), Option.bind_some, ec.2.1, ee.2.1]
            by_cases d2 : (dmo D (16 * (e / 16) + k)).toInt = (dmo D e).toInt
            · rw [if_pos (l2.mpr d2)]
              by_cases d3 : 16 * (e / 16) + k < e
              · rw [if_neg (nI_ge d3 (by omega)), Option.bind_some]
                exact step true (by rw [eA, dpB_iff.mpr ⟨c.2.1, c.2.2.1, c.2.2.2, Or.inr ⟨d2, d3⟩⟩])
              · rw [if_pos (nI_le (by omega) (by omega)), Option.bind_some]
                exact step false (by
                  rw [eA]
                  cases x : dpB D e (16 * (e / 16) + k) with
                  | false => rfl
                  | true => have := (dpB_iff.mp x).2.2.2; omega)
            · rw [if_neg (fun z => d2 (l2.mp z)), Option.bind_some]
              exact step false (by
                rw [eA]
                cases x : dpB D e (16 * (e / 16) + k) with
                | false => rfl
                | true => have := (dpB_iff.mp x).2.2.2; omega)
        · rw [decide_eq_false c, if_pos (show bI false = 0 from rfl), Option.bind_some]
          exact step false (by
            rw [eA]
            cases x : dpB D e (16 * (e / 16) + k) with
            | false => rfl
            | true =>
              have y := dpB_iff.mp x
              exact absurd ⟨(fun z => by have := y.2.2.2; rw [z] at this; omega), y.1, y.2.1, y.2.2.1⟩ c)
  have e0 := L 16 0 N (by omega) (by omega)
  rw [Nat.add_zero] at e0
  have e1 : bI (anB (fun i => dpB D e (16 * (e / 16) + i)) 0) = 0 := rfl
  rw [e1] at e0
  unfold s_X12_isDupe
  rw [show (16 : Int32) = nI 16 from rfl, nI_div (by omega) (by omega) (by omega), nI_mul, Nat.mul_comm, e0, Option.bind_some, if_pos (bI_01 _)]
theorem isSameM {h : IH} (S : ShM h m ar) (hN : 2000 ≤ N) (gL : MgL h m ar D) (w : WgL D) {e c : Nat} (he : e < 576) (ce : ctB D e = true) (hc : c < 576) (cc : ctB D c = true) : s_X12_isSameCall N h m (nI e) (nI c) = some (bI (decide (calV (dtb D c) (dtl D c) 0 0 = calV (dtb D e) (dtl D e) 0 0))) := by
  have we := ct_W w he ce
  have wc := ct_W w hc cc
  have ge := enM gL he ce
  have gc := enM gL hc cc
  have l6 := we.2.2.2.1
  have l6' := wc.2.2.2.1
  have ci := calV_inj l6' l6 (wc.2.2.2.2.1 (ct_in cc).2).2 (we.2.2.2.2.1 (ct_in ce).2).2
  unfold s_X12_isSameCall
  rw [mgR 13 S (by decide), Option.bind_some, maI 13 e S (by decide) (show e < 576 from he), Option.bind_some, Option.bind_some, maI 13 c S (by decide) (show c < 576 from hc), Option.bind_some, ge.2.2.2.1, gc.2.2.2.1]
  have L : ∀ (r k z : Nat) (x : Bool), k + r = dtl D e → r < z → (x = true ↔ dtl D c = dtl D e ∧ ∀ j, j < k → dtb D c j = dtb D e j) → s_X12_isSameCall_L24 N z m (nI e) (nI c) (bI x) (nI k) h = some (bI (decide (calV (dtb D c) (dtl D c) 0 0 = calV (dtb D e) (dtl D e) 0 0))) := by
    intro r
    induction r with
    | zero =>
      intro k z x hk hz hx
      obtain ⟨z, rfl⟩ : ∃ y, z = y + 1 := ⟨z - 1, by omega⟩
      rw [s_X12_isSameCall_L24.eq_2, mgR 13 S (by decide), Option.bind_some, maI 13 e S (by decide) (show e < 576 from he), Option.bind_some, ge.2.2.2.1, if_pos (nI_le (by omega) (by omega))]
      have : x = decide (calV (dtb D c) (dtl D c) 0 0 = calV (dtb D e) (dtl D e) 0 0) := Bool_ext (by
        rw [hx, decide_eq_true_iff, ci]
        exact ⟨fun y => ⟨y.1, fun j hj => y.2 j (by omega)⟩, fun y => ⟨y.1, fun j hj => y.2 j (by have := y.1; omega)⟩⟩)
      rw [this]
    | succ r ih =>
      intro k z x hk hz hx
      obtain ⟨z, rfl⟩ : ∃ y, z = y + 1 := ⟨z - 1, by omega⟩
      rw [s_X12_isSameCall_L24.eq_2, mgR 13 S (by decide), Option.bind_some, maI 13 e S (by decide) (show e < 576 from he), Option.bind_some, ge.2.2.2.1, if_neg (nI_ge (by omega) (by omega))]
      cases x with
      | false =>
        rw [if_pos (show bI false = 0 from rfl), decide_eq_false (fun y => by
          have y := ci.mp y
          have := hx.mpr ⟨y.1, fun j hj => y.2 j (by have := y.1; omega)⟩
          cases this)]
      | true =>
        obtain ⟨y1, y2⟩ := hx.mp rfl
        rw [if_neg (show ¬ bI true = 0 by decide), mgR 14 S (by decide), Option.bind_some, show (6 : Int32) = nI 6 from rfl, nI_mul, nI_add, maI 14 _ S (by decide) (show 6 * e + k < 3456 by omega), Option.bind_some, Option.bind_some, nI_mul, nI_add, maI 14 _ S (by decide) (show 6 * c + k < 3456 by omega), Option.bind_some, ge.2.2.2.2.1 k (by omega), gc.2.2.2.2.1 k (by omega), nI_1]
        by_cases d : dtb D e k = dtb D c k
        · rw [if_pos d, Option.bind_some]
          refine ih (k + 1) z true (by omega) (by omega) ⟨fun _ => ⟨y1, fun j hj => ?_⟩, fun _ => rfl⟩
          by_cases f : j = k
          · rw [f, d]
          · exact y2 j (by omega)
        · rw [if_neg d, Option.bind_some]
          exact ih (k + 1) z false (by omega) (by omega) ⟨fun z => (by cases z), fun z => absurd (z.2 k (by omega)).symm d⟩
  by_cases d : dtl D e = dtl D c
  · have e0 := L (dtl D e) 0 N true (by omega) (by omega) ⟨fun _ => ⟨d.symm, fun j hj => absurd hj (by omega)⟩, fun _ => rfl⟩
    rw [nI_0] at e0
    have e0 : s_X12_isSameCall_L24 N N m (nI e) (nI c) 1 0 h = _ := e0
    rw [if_pos (by rw [d]), Option.bind_some, e0, Option.bind_some, if_pos (bI_01 _)]
  · have e0 := L (dtl D e) 0 N false (by omega) (by omega) ⟨fun z => (by cases z), fun z => absurd z.1.symm d⟩
    rw [nI_0] at e0
    have e0 : s_X12_isSameCall_L24 N N m (nI e) (nI c) 0 0 h = _ := e0
    rw [if_neg (fun z => d ((nI_eq (by omega) (by omega)).mp z)), Option.bind_some, e0, Option.bind_some, if_pos (bI_01 _)]
theorem standsM {h : IH} (S : ShM h m ar) (hN : 2000 ≤ N) (gs : MgS h m ar D) (gL : MgL h m ar D) (w : WgL D) (wn : dn D ≤ 12) {e : Nat} (he : e < 576) (ce : ctB D e = true) : s_X12_standsIn N h m (nI e) = some (nI (stN D e)) := by
  have L1 : ∀ s, s < dn D → ∀ (y : Int32) (r k z : Nat), k + r = 48 → r < z → s_X12_standsIn_L21 N z m (nI e) y (nI s) (bI (anB (fun k => smB D e (48 * s + k)) k)) (nI (48 * s + k)) h = some (bI (snB D e s)) := by
    intro s hs y r
    induction r with
    | zero =>
      intro k z hk hz
      obtain ⟨z, rfl⟩ : ∃ y, z = y + 1 := ⟨z - 1, by omega⟩
      have : k = 48 := by omega
      subst this
      rw [s_X12_standsIn_L21.eq_2, show (48 : Int32) = nI 48 from rfl, nI_mul, nI_add, if_pos (nI_le (by omega) (by omega))]
      rfl
    | succ r ih =>
      intro k z hk hz
      obtain ⟨z, rfl⟩ : ∃ y, z = y + 1 := ⟨z - 1, by omega⟩
      have hc : 48 * s + k < 576 := by omega
      have nx : nI (48 * s + k) + 1 = nI (48 * s + (k + 1)) := by rw [nI_1]; rfl
      have eA : anB (fun k => smB D e (48 * s + k)) (k + 1) = (anB (fun k => smB D e (48 * s + k)) k || smB D e (48 * s + k)) := rfl
      have step : ∀ x : Bool, x = anB (fun k => smB D e (48 * s + k)) (k + 1) → s_X12_standsIn_L21 N z m (nI e) y (nI s) (bI x) (nI (48 * s + (k + 1))) h = some (bI (snB D e s)) := fun x hx => by rw [hx]; exact ih (k + 1) z (by omega) (by omega)
      rw [s_X12_standsIn_L21.eq_2, show (48 : Int32) = nI 48 from rfl, nI_mul, nI_add, if_neg (nI_ge (by omega) (by omega)), nx]
      cases hx : anB (fun k => smB D e (48 * s + k)) k with
      | true =>
        rw [if_neg (show ¬ bI true = 0 by decide), Option.bind_some]
        exact step true (by rw [eA, hx]; rfl)
      | false =>
        rw [hx, Bool.false_or] at eA
        rw [if_pos (show bI false = 0 from rfl), mV12 S, isContactM S gL w hc, Option.bind_some]
        cases c2 : ctB D (48 * s + k) with
        | false =>
          rw [if_pos (show bI false = 0 from rfl), Option.bind_some]
          exact step false (by rw [eA]; unfold smB; rw [c2]; rfl)
        | true =>
          rw [if_neg (show ¬ bI true = 0 by decide), mV12 S, isSameM S hN gL w he ce hc c2, Option.bind_some]
          have e2 : smB D e (48 * s + k) = decide (calV (dtb D (48 * s + k)) (dtl D (48 * s + k)) 0 0 = calV (dtb D e) (dtl D e) 0 0) := by unfold smB; rw [c2]; rfl
          rw [← e2] 
          cases c3 : smB D e (48 * s + k) with
          | false =>
            rw [if_pos (show bI false = 0 from rfl), Option.bind_some]
            exact step false (by rw [eA, c3])
          | true =>
            rw [if_neg (show ¬ bI true = 0 by decide), Option.bind_some]
            exact step true (by rw [eA, c3])
  have L2 : ∀ (r s z : Nat), s + r = dn D → r < z → s_X12_standsIn_L4 N z m (nI e) (nI (cnt (fun s => snB D e s) s)) (nI s) h = some (nI (stN D e)) := by
    intro r
    induction r with
    | zero =>
      intro s z hs hz
      obtain ⟨z, rfl⟩ : ∃ y, z = y + 1 := ⟨z - 1, by omega⟩
      have e1 : fI h (1200 + 1) m = nI (dn D) := gs.1
      rw [s_X12_standsIn_L4.eq_2, mgI 1 S.1, Option.bind_some, e1, if_pos (nI_le (by omega) (by omega))]
      unfold stN
      rw [show s = dn D by omega]
    | succ r ih =>
      intro s z hs hz
      obtain ⟨z, rfl⟩ : ∃ y, z = y + 1 := ⟨z - 1, by omega⟩
      have e1 : fI h (1200 + 1) m = nI (dn D) := gs.1
      have a := L1 s (by omega) (nI (cnt (fun s => snB D e s) s)) 48 0 N (by omega) (by omega)
      rw [Nat.add_zero] at a
      have a : s_X12_standsIn_L21 N N m (nI e) (nI (cnt (fun s => snB D e s) s)) (nI s) 0 (nI (48 * s)) h = some (bI (snB D e s)) := a
      have eC : cnt (fun s => snB D e s) (s + 1) = cnt (fun s => snB D e s) s + (if snB D e s then 1 else 0) := rfl
      have nx := ih (s + 1) z (by omega) (by omega)
      rw [s_X12_standsIn_L4.eq_2, mgI 1 S.1, Option.bind_some, e1, if_neg (nI_ge (by omega) (by omega)), show (48 : Int32) = nI 48 from rfl, nI_mul, a, Option.bind_some, nI_1]
      cases hx : snB D e s with
      | false =>
        rw [hx] at eC
        rw [eC] at nx
        rw [if_pos (show bI false = 0 from rfl), Option.bind_some, Int32.add_zero]
        exact nx
      | true =>
        rw [hx] at eC
        rw [eC] at nx
        rw [if_neg (show ¬ bI true = 0 by decide), Option.bind_some, nI_1]
        exact nx
  have e0 := L2 (dn D) 0 N (by omega) (by omega)
  have e1 : nI (cnt (fun s => snB D e s) 0) = 0 := rfl
  rw [e1, nI_0] at e0
  unfold s_X12_standsIn
  rw [e0, Option.bind_some]
theorem whyM {h : IH} (S : ShM h m ar) (hN : 2000 ≤ N) (gs : MgS h m ar D) (gL : MgL h m ar D) (gP : MgP h m ar D) (wS : WgS D) (w : WgL D) (wP : WgP D) (ck : CkM h ar D) {e : Nat} (he : e < 576) (ce : ctB D e = true) : s_X12_whyOf N h m (nI e) = some (nI (whyF D e)) := by
  have wn := wS.1
  have e48 : e / 48 < dn D := by have := ct_lt w wn he ce; omega
  have sl : stN D e ≤ dn D := cnt_le _ _
  unfold s_X12_whyOf whyF
  rw [mgR 19 S (by decide), Option.bind_some, maI 19 e S (by decide) (show e < 576 from he), Option.bind_some, ck.2.2 e he]
  cases c1 : parF D e with
  | some d =>
    have := parF_lt wn c1
    rw [if_neg (oI_some (by omega)), mV12 S, isDupeM S hN gL w wn ck he ce, Option.bind_some]
    cases dupB D e <;> rfl
  | none =>
    rw [if_pos oI_none, mV12 S, isWholeM S gL he ce, Option.bind_some]
    cases c2 : whB D e with
    | false => rfl
    | true =>
      rw [if_neg (show ¬ bI true = 0 by decide), mgR 18 S (by decide), Option.bind_some, maI 18 e S (by decide) (show e < 576 from he), Option.bind_some, ck.1 e he]
      dsimp only
      rw [if_pos rfl]
      cases c3 : tgO D e with
      | none =>
        rw [if_neg (show ¬ 0 ≤ oI none by decide), mV12 S, meantM S hN gs gL gP wS w wP ck he ce, Option.bind_some]
        dsimp only
        cases c4 : meaF D e with
        | none =>
          rw [if_pos oI_none, mV12 S, standsM S hN gs gL w wn he ce, Option.bind_some]
          dsimp only
          by_cases c5 : stN D e < 3
          · rw [if_neg (show ¬ (3 : Int32) ≤ nI (stN D e) from nI_ge (b := 3) c5 (by omega)), if_pos c5]
            rfl
          · rw [if_pos (show (3 : Int32) ≤ nI (stN D e) from nI_le (a := 3) (by omega) (by omega)), if_neg c5]
            rfl
        | some t =>
          have := meaF_lt w wn ck.ok c4
          rw [if_neg (oI_some (by omega))]
          rfl
      | some t =>
        have ht := (tg_lt c3).1
        rw [if_pos (show 0 ≤ oI (some t) from nI_pos' (by omega)), Option.bind_some, maI 18 e S (by decide) (show e < 576 from he), Option.bind_some, ck.1 e he, c3, show oI (some t) = nI t from rfl, show (48 : Int32) = nI 48 from rfl, nI_div (by omega) (by omega) (by omega)]
        dsimp only
        by_cases c4 : t = e / 48
        · rw [if_pos (by rw [c4]), if_neg (fun z => z.1 c4)]
          rfl
        · rw [if_neg (fun z => c4 ((nI_eq (by omega) (by omega)).mp z)), Option.bind_some, maI 18 e S (by decide) (show e < 576 from he), Option.bind_some, ck.1 e he, c3, show oI (some t) = nI t from rfl, mV12 S, hasLogM S gs gL wS w ht, Option.bind_some]
          cases c5 : hlB D t with
          | false =>
            rw [if_pos (show bI false = 0 from rfl), if_neg (fun z => by cases z.2)]
            rfl
          | true =>
            rw [if_neg (show ¬ bI true = 0 by decide), if_pos ⟨c4, rfl⟩]
            rfl
end
