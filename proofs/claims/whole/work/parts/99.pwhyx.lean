/-! ===== why: the class ===== -/
theorem FX.mo {A : Nat → Nat} {F G R Q F' G' R' Q' : Nat → Prop} {h h' : IH} (x : FX A F G R Q h h') (cF : ∀ f, F f → F' f) (cG : ∀ f, G f → G' f) (cR : ∀ i, R i → R' i) (cQ : ∀ i, Q i → Q' i) : FX A F' G' R' Q' h h' := Fr.mono x (fun f _ z => cF f z) (fun f _ z => cG f z) (fun _ ⟨i, q, y⟩ => ⟨i, cR i q, y⟩) (fun _ ⟨i, q, y⟩ => ⟨i, cQ i q, y⟩)
theorem FM.mo {m : Nat} {ar : Nat → Nat} {F G R Q F' G' R' Q' : Nat → Prop} {h h' : IH} (x : FM m ar F G R Q h h') (cF : ∀ f, F f → F' f) (cG : ∀ f, G f → G' f) (cR : ∀ i, R i → R' i) (cQ : ∀ i, Q i → Q' i) : FM m ar F' G' R' Q' h h' := Fr.mono x (fun f _ z => ⟨cF f z.1, z.2⟩) (fun f _ z => ⟨cG f z.1, z.2⟩) (fun _ ⟨i, q, y⟩ => ⟨i, cR i q, y⟩) (fun _ ⟨i, q, y⟩ => ⟨i, cQ i q, y⟩)
section
variable {A : Nat → Nat} {n N : Nat} {D : Dt}
theorem whyF_p {e : Nat} (h : parF D e ≠ none) : whyF D e = if dupB D e = true then 1 else 0 := by
  unfold whyF
  cases c : parF D e with
  | none => exact absurd c h
  | some d => rfl
theorem whyF_2 {e : Nat} (h : parF D e = none) (h2 : whB D e = false) : whyF D e = 2 := by
  unfold whyF
  rw [h, h2] <;> rfl
theorem whyF_3 {e t : Nat} (h : parF D e = none) (h2 : whB D e = true) (h3 : tgO D e = none) (h4 : meaF D e = some t) : whyF D e = 3 := by
  unfold whyF
  rw [h, h2, h3, h4] <;> rfl
theorem whyF_4 {e : Nat} (h : parF D e = none) (h2 : whB D e = true) (h3 : tgO D e = none) (h4 : meaF D e = none) : whyF D e = if stN D e < 3 then 4 else 6 := by
  unfold whyF
  rw [h, h2, h3, h4] <;> rfl
theorem whyF_5 {e t : Nat} (h : parF D e = none) (h2 : whB D e = true) (h3 : tgO D e = some t) : whyF D e = if t ≠ e / 48 ∧ hlB D t = true then 5 else 6 := by
  unfold whyF
  rw [h, h2, h3] <;> rfl
theorem mate_iff (wn : dn D ≤ 12) {c e : Nat} (hp : parF D e ≠ none) : oI ((parF D c).map (fun d => d / 48)) = oI ((parF D e).map (fun d => d / 48)) ↔ parF D c ≠ none ∧ tgO D c = tgO D e := by
  cases he : parF D e with
  | none => exact absurd he hp
  | some d =>
    obtain ⟨t, t1, t2, t3, _⟩ := parF_some he
    have hd := parF_lt wn he
    cases hc : parF D c with
    | none =>
      constructor
      · intro z
        exact absurd (show nI (d / 48) = -1 from z.symm) (nI_nm1 (by omega))
      · intro z
        exact absurd rfl z.1
    | some d' =>
      obtain ⟨t', u1, u2, u3, _⟩ := parF_some hc
      have hd' := parF_lt wn hc
      show nI (d' / 48) = nI (d / 48) ↔ _
      rw [nI_eq (by omega) (by omega), t3, u3, t1, u1]
      constructor
      · intro z
        exact ⟨fun y => (by cases y), by rw [z]⟩
      · intro z
        have z := z.2
        cases z
        rfl
theorem isDupeX {h : IH} (S : ShX h A n) (hN : 2000 ≤ N) (hn : n = dn D) (gL : XgL h A D) (w : WgL D) (mt : MtX h A D) {q i : Nat} (hq : q < 3 * dn D) (hi : i < 16) (ce : ctB D (16 * q + i) = true) (hp : parF D (16 * q + i) ≠ none) : s_X0_isDupe N h (some (A (1000 + (16 * q + i)))) (some (A (200 + q))) (nI i) = some (bI (dupB D (16 * q + i))) := by
  subst hn
  have wn := S.1
  have w16 := (w.1 q (by omega)).1
  have lq : lvQ (dn D) q := Or.inl hq
  have he : (16 * q + i) / 16 < 3 * dn D := by omega
  have eq16 : (16 * q + i) / 16 = q := by omega
  have e7' : fI h (100 * 2 + 7) (A (1000 + (16 * q + i))) = oI ((parF D (16 * q + i)).map (fun d => d / 48)) := (mt _ he ce).1
  have m2 : fL h (100 * 2 + 1) (A (1000 + (16 * q + i))) = dmo D (16 * q + i) := (enX gL he ce).2.1 (by rw [(ct_in ce).2]; decide)
  have L : ∀ (r k z : Nat), k + r = dsz D q → r < z → (∀ j, j < k → dpB D (16 * q + i) (16 * q + j) = false) → (s_X0_isDupe_L2 N z (some (A (1000 + (16 * q + i)))) (some (A (200 + q))) (nI i) (nI k) h).bind (fun q16 => Sum.elim (fun (v : Int32) => some v) (fun (_ : Unit) => some (0 : Int32)) q16) = some (bI (dupB D (16 * q + i))) := by
    intro r
    induction r with
    | zero =>
      intro k z hk hz inv
      obtain ⟨z, rfl⟩ : ∃ y, z = y + 1 := ⟨z - 1, by omega⟩
      have ef : dupB D (16 * q + i) = false := by
        unfold dupB
        rw [eq16]
        refine anB_false.mpr (fun j hj => ?_)
        show dpB D (16 * q + i) (16 * q + j) = false
        by_cases d : j < k
        · exact inv j d
        · cases x : dpB D (16 * q + i) (16 * q + j) with
          | false => rfl
          | true =>
            have := ((ct_16 hj).mp (dpB_iff.mp x).1).1
            omega
      rw [s_X0_isDupe_L2.eq_2, gX4_1 S lq, Option.bind_some, (gL q hq).2.1, if_pos (nI_le (by omega) (by omega)), Option.bind_some, ef]
      rfl
    | succ r ih =>
      intro k z hk hz inv
      obtain ⟨z, rfl⟩ : ∃ y, z = y + 1 := ⟨z - 1, by omega⟩
      have hc : (16 * q + k) / 16 < 3 * dn D := by omega
      have next : dpB D (16 * q + i) (16 * q + k) = false → (s_X0_isDupe_L2 N z (some (A (1000 + (16 * q + i)))) (some (A (200 + q))) (nI i) (nI (k + 1)) h).bind (fun q16 => Sum.elim (fun (v : Int32) => some v) (fun (_ : Unit) => some (0 : Int32)) q16) = some (bI (dupB D (16 * q + i))) := fun x => ih (k + 1) z (by omega) (by omega) (fun j hj => by
        by_cases d : j = k
        · rw [d]; exact x
        · exact inv j (by omega))
      have hit : dpB D (16 * q + i) (16 * q + k) = true → dupB D (16 * q + i) = true := fun x => by
        unfold dupB
        rw [eq16]
        exact anB_iff.mpr ⟨k, by omega, x⟩
      have nodp : ∀ (p : Prop), (dpB D (16 * q + i) (16 * q + k) = true → p) → ¬ p → dpB D (16 * q + i) (16 * q + k) = false := fun p h1 h2 => by
        cases c : dpB D (16 * q + i) (16 * q + k) with
        | false => rfl
        | true => exact absurd (h1 c) h2
      rw [s_X0_isDupe_L2.eq_2, gX4_1 S lq, Option.bind_some, (gL q hq).2.1, if_neg (nI_ge (by omega) (by omega)), vX4 S lq, contactX S gL w rfl hq (show k < 16 by omega), Option.bind_some, nI_1]
      by_cases c1 : ctB D (16 * q + k) = true
      · have e7 : fI h (100 * 2 + 7) (A (1000 + (16 * q + k))) = oI ((parF D (16 * q + k)).map (fun d => d / 48)) := (mt _ hc c1).1
        have m1 : fL h (100 * 2 + 1) (A (1000 + (16 * q + k))) = dmo D (16 * q + k) := (enX gL hc c1).2.1 (by rw [(ct_in c1).2]; decide)
        have l1 : lg_cmp (dmo D (16 * q + k)) (dmo D (16 * q + i)) < 0 ↔ (dmo D (16 * q + k)).toInt < (dmo D (16 * q + i)).toInt := by rw [lc_lt, lLt]
        have l2 : lg_cmp (dmo D (16 * q + k)) (dmo D (16 * q + i)) = 0 ↔ (dmo D (16 * q + k)).toInt = (dmo D (16 * q + i)).toInt := by rw [lc_eq, ← Int64.toInt_inj]
        rw [if_pos c1, if_neg (show ¬ some (A (1000 + (16 * q + k))) = none from fun z => by cases z), gI_ok (c := 2) 7 (kEn S hc), Option.bind_some, gI_ok (c := 2) 7 (kEn S he), Option.bind_some, e7, e7']
        by_cases c2 : parF D (16 * q + k) ≠ none ∧ tgO D (16 * q + k) = tgO D (16 * q + i)
        · rw [if_pos ((mate_iff wn hp).mpr c2), gL_ok (c := 2) 1 (kEn S hc), Option.bind_some, gL_ok (c := 2) 1 (kEn S he), Option.bind_some, m1, m2]
          by_cases d1 : (dmo D (16 * q + k)).toInt < (dmo D (16 * q + i)).toInt
          · rw [if_pos (l1.mpr d1), Option.bind_some, hit (dpB_iff.mpr ⟨c1, c2.1, c2.2, Or.inl d1⟩)]
            rfl
          · rw [if_neg (fun z => d1 (l1.mp z)), Option.bind_some, Option.bind_some]
            by_cases d2 : (dmo D (16 * q + k)).toInt = (dmo D (16 * q + i)).toInt
            · rw [if_pos (l2.mpr d2)]
              by_cases d3 : k < i
              · rw [if_neg (nI_ge d3 (by omega)), Option.bind_some, hit (dpB_iff.mpr ⟨c1, c2.1, c2.2, Or.inr ⟨d2, by omega⟩⟩)]
                rfl
              · rw [if_pos (nI_le (by omega) (by omega))]
                exact next (nodp _ (fun z => (dpB_iff.mp z).2.2.2) (by omega))
            · rw [if_neg (fun z => d2 (l2.mp z))]
              exact next (nodp _ (fun z => (dpB_iff.mp z).2.2.2) (by omega))
        · rw [if_neg (fun z => c2 ((mate_iff wn hp).mp z))]
          exact next (nodp _ (fun z => ⟨(dpB_iff.mp z).2.1, (dpB_iff.mp z).2.2.1⟩) c2)
      · rw [if_neg c1, if_pos rfl]
        exact next (nodp _ (fun z => (dpB_iff.mp z).1) c1)
  have e0 := L (dsz D q) 0 N (by omega) (by omega) (fun j hj => absurd hj (by omega))
  rw [nI_0] at e0
  unfold s_X0_isDupe
  exact e0
theorem holds4X {h : IH} (S : ShX h A n) (hN : 2000 ≤ N) (hn : n = dn D) (gL : XgL h A D) (w : WgL D) (e : Nat) {q : Nat} (hq : q < 3 * dn D) : s_X4_holdsCall N h (A (200 + q)) (calV (dtb D e) (dtl D e) 0 0) = some (bI (anB (fun i => smB D e (16 * q + i)) 16)) := by
  subst hn
  have wn := S.1
  have w16 := (w.1 q (by omega)).1
  have lq : lvQ (dn D) q := Or.inl hq
  have L : ∀ (r k z : Nat), k + r = dsz D q → r < z → (∀ j, j < k → smB D e (16 * q + j) = false) → (s_X4_holdsCall_L2 N z (A (200 + q)) (calV (dtb D e) (dtl D e) 0 0) (nI k) h).bind (fun q11 => Sum.elim (fun (v : Int32) => some v) (fun (_ : Unit) => some (0 : Int32)) q11) = some (bI (anB (fun i => smB D e (16 * q + i)) 16)) := by
    intro r
    induction r with
    | zero =>
      intro k z hk hz inv
      obtain ⟨z, rfl⟩ : ∃ y, z = y + 1 := ⟨z - 1, by omega⟩
      have ef : anB (fun i => smB D e (16 * q + i)) 16 = false := anB_false.mpr (fun j hj => by
        show smB D e (16 * q + j) = false
        by_cases d : j < k
        · exact inv j d
        · have c : ctB D (16 * q + j) = false := by
            cases x : ctB D (16 * q + j) with
            | false => rfl
            | true =>
              have := ((ct_16 hj).mp x).1
              omega
          unfold smB
          rw [c]
          rfl)
      rw [s_X4_holdsCall_L2.eq_2, gX4_1 S lq, Option.bind_some, (gL q hq).2.1, if_pos (nI_le (by omega) (by omega)), Option.bind_some, ef]
      rfl
    | succ r ih =>
      intro k z hk hz inv
      obtain ⟨z, rfl⟩ : ∃ y, z = y + 1 := ⟨z - 1, by omega⟩
      have he : (16 * q + k) / 16 < 3 * dn D := by omega
      have en := (gL q hq).2.2 k (by omega)
      have e0 : fI h (100 * 2 + 0) (A (1000 + (16 * q + k))) = dso D (16 * q + k) := en.1
      have next : smB D e (16 * q + k) = false → (s_X4_holdsCall_L2 N z (A (200 + q)) (calV (dtb D e) (dtl D e) 0 0) (nI (k + 1)) h).bind (fun q11 => Sum.elim (fun (v : Int32) => some v) (fun (_ : Unit) => some (0 : Int32)) q11) = some (bI (anB (fun i => smB D e (16 * q + i)) 16)) := fun x => ih (k + 1) z (by omega) (by omega) (fun j hj => by
        by_cases d : j = k
        · rw [d]; exact x
        · exact inv j (by omega))
      rw [s_X4_holdsCall_L2.eq_2, gX4_1 S lq, Option.bind_some, (gL q hq).2.1, if_neg (nI_ge (by omega) (by omega)), gX4_0 S lq, Option.bind_some, rX300 S lq (show k < 16 by omega), Option.bind_some, gI_ok (c := 2) 0 (kEn S he), Option.bind_some, e0, nI_1]
      by_cases c : dso D (16 * q + k) = 0
      · have ct : ctB D (16 * q + k) = true := (ct_16 (by omega)).mpr ⟨by omega, c⟩
        have ec : fL h (100 * 2 + 3) (A (1000 + (16 * q + k))) = calV (dtb D (16 * q + k)) (dtl D (16 * q + k)) 0 0 := (en.2.2.2 c).1
        rw [if_pos c, Option.bind_some, rX300 S lq (show k < 16 by omega), Option.bind_some, gL_ok (c := 2) 3 (kEn S he), Option.bind_some, ec]
        by_cases d : calV (dtb D (16 * q + k)) (dtl D (16 * q + k)) 0 0 = calV (dtb D e) (dtl D e) 0 0
        · have sm : smB D e (16 * q + k) = true := by
            unfold smB
            rw [ct, decide_eq_true d]
            rfl
          rw [if_pos ((lc_eq _ _).mpr d), Option.bind_some, anB_iff.mpr ⟨k, by omega, sm⟩]
          rfl
        · rw [if_neg (fun z => d ((lc_eq _ _).mp z))]
          refine next ?_
          unfold smB
          rw [ct, decide_eq_false d]
          rfl
      · rw [if_neg c]
        refine next ?_
        have ct : ctB D (16 * q + k) = false := by
          cases x : ctB D (16 * q + k) with
          | false => rfl
          | true => exact absurd (ct_in x).2 c
        unfold smB
        rw [ct]
        rfl
  have e0 := L (dsz D q) 0 N (by omega) (by omega) (fun j hj => absurd hj (by omega))
  rw [nI_0] at e0
  unfold s_X4_holdsCall
  exact e0
theorem holds9X {h : IH} (S : ShX h A n) (hN : 2000 ≤ N) (hn : n = dn D) (gL : XgL h A D) (w : WgL D) (e : Nat) {s : Nat} (hs : s < dn D) : s_X9_holdsCall N h (A (100 + s)) (calV (dtb D e) (dtl D e) 0 0) = some (bI (snB D e s)) := by
  subst hn
  have wn := S.1
  have L : ∀ (r b z : Nat), b + r = 3 → r < z → (∀ j, j < 16 * b → smB D e (48 * s + j) = false) → (s_X9_holdsCall_L12 N z (calV (dtb D e) (dtl D e) 0 0) (some (A (120 + s))) 3 (nI b) h).bind (fun q8 => Sum.elim (fun (v : Int32) => some v) (fun (_ : Unit) => some (0 : Int32)) q8) = some (bI (snB D e s)) := by
    intro r
    induction r with
    | zero =>
      intro b z hb hz inv
      obtain ⟨z, rfl⟩ : ∃ y, z = y + 1 := ⟨z - 1, by omega⟩
      have : b = 3 := by omega
      subst this
      have ef : snB D e s = false := anB_false.mpr (fun j hj => inv j (by omega))
      rw [s_X9_holdsCall_L12.eq_2, if_pos (by decide), Option.bind_some, ef]
      rfl
    | succ r ih =>
      intro b z hb hz inv
      obtain ⟨z, rfl⟩ : ∃ y, z = y + 1 := ⟨z - 1, by omega⟩
      have lq : lvQ (dn D) (3 * s + b) := Or.inl (by omega)
      rw [s_X9_holdsCall_L12.eq_2, if_neg (show ¬ (3 : Int32) ≤ nI b from nI_ge (b := 3) (by omega) (by omega)), rX120 S hs (by omega), Option.bind_some, vX4 S lq, holds4X S hN rfl gL w e (show 3 * s + b < 3 * dn D by omega), Option.bind_some, nI_1]
      cases c : anB (fun i => smB D e (16 * (3 * s + b) + i)) 16 with
      | false =>
        rw [if_pos (show bI false = 0 from rfl)]
        refine ih (b + 1) z (by omega) (by omega) (fun j hj => ?_)
        by_cases d : j < 16 * b
        · exact inv j d
        · have this : smB D e (16 * (3 * s + b) + (j - 16 * b)) = false := anB_false.mp c (j - 16 * b) (by omega)
          rw [show 16 * (3 * s + b) + (j - 16 * b) = 48 * s + j by omega] at this
          exact this
      | true =>
        obtain ⟨i, hi, hx⟩ := anB_iff.mp c
        have hx : smB D e (16 * (3 * s + b) + i) = true := hx
        have et : snB D e s = true := anB_iff.mpr ⟨16 * b + i, by omega, by
          show smB D e (48 * s + (16 * b + i)) = true
          rw [show 48 * s + (16 * b + i) = 16 * (3 * s + b) + i by omega]
          exact hx⟩
        rw [if_neg (show ¬ bI true = 0 by decide), Option.bind_some, et]
        rfl
  have e0 := L 3 0 N (by omega) (by omega) (fun j hj => absurd hj (by omega))
  rw [nI_0] at e0
  unfold s_X9_holdsCall
  rw [gX9_5 S hs, Option.bind_some, lX120 S hs, Option.bind_some]
  exact e0
theorem uniqX {h : IH} (S : ShX h A n) (hN : 2000 ≤ N) (hn : n = dn D) (gs : XgS h A D) (gL : XgL h A D) (w : WgL D) (e : Nat) : s_X0_isUnique N h (A 13) (calV (dtb D e) (dtl D e) 0 0) = some (if stN D e < 3 then 1 else 0) := by
  subst hn
  have wn := S.1
  have sl : stN D e ≤ dn D := cnt_le _ _
  have L : ∀ (r s z : Nat), s + r = dn D → r < z → s_X0_isUnique_L5 N z (A 13) (calV (dtb D e) (dtl D e) 0 0) (nI (cnt (fun s => snB D e s) s)) (nI s) h = some (nI (stN D e)) := by
    intro r
    induction r with
    | zero =>
      intro s z hs hz
      obtain ⟨z, rfl⟩ : ∃ y, z = y + 1 := ⟨z - 1, by omega⟩
      rw [s_X0_isUnique_L5.eq_2, gX0_0 S, Option.bind_some, gX7_1 S, Option.bind_some, gs.1, if_pos (nI_le (by omega) (by omega))]
      unfold stN
      rw [show s = dn D by omega]
    | succ r ih =>
      intro s z hs hz
      obtain ⟨z, rfl⟩ : ∃ y, z = y + 1 := ⟨z - 1, by omega⟩
      have hs' : s < dn D := by omega
      have eC : cnt (fun s => snB D e s) (s + 1) = cnt (fun s => snB D e s) s + (if snB D e s then 1 else 0) := rfl
      have nx := ih (s + 1) z (by omega) (by omega)
      rw [s_X0_isUnique_L5.eq_2, gX0_0 S, Option.bind_some, gX7_1 S, Option.bind_some, gs.1, if_neg (nI_ge (by omega) (by omega)), Option.bind_some, vX7 S, atX S gs rfl hs', Option.bind_some, if_neg (show ¬ some (A (100 + s)) = none from fun z => by cases z), vX9 S hs', holds9X S hN rfl gL w e hs', Option.bind_some]
      cases hx : snB D e s with
      | false =>
        rw [hx] at eC
        rw [eC] at nx
        rw [if_pos (show bI false = 0 from rfl), Option.bind_some, nI_1]
        exact nx
      | true =>
        rw [hx] at eC
        rw [eC] at nx
        rw [if_neg (show ¬ bI true = 0 by decide), Option.bind_some, nI_1, nI_1]
        exact nx
  have e0 := L (dn D) 0 N (by omega) (by omega)
  have e1 : nI (cnt (fun s => snB D e s) 0) = 0 := rfl
  rw [e1, nI_0] at e0
  unfold s_X0_isUnique
  rw [e0, Option.bind_some]
  by_cases c : stN D e < 3
  · rw [if_neg (show ¬ (3 : Int32) ≤ nI (stN D e) from nI_ge (b := 3) c (by omega)), Option.bind_some, if_pos (Or.inr rfl), if_pos c]
  · rw [if_pos (show (3 : Int32) ≤ nI (stN D e) from nI_le (a := 3) (by omega) (by omega)), Option.bind_some, if_pos (Or.inl rfl), if_neg c]
theorem mayX {h : IH} (S : ShX h A n) (hn : n = dn D) (gL : XgL h A D) (w : WgL D) (tg : TgX h A D) {e : Nat} (he : e / 16 < 3 * dn D) (ce : ctB D e = true) : s_X0_mayBeMisheard h (some (A (1000 + e))) = some (bI (decide (tgO D e = none) && whB D e)) := by
  subst hn
  have wn := S.1
  have e6 : fI h (100 * 2 + 6) (A (1000 + e)) = oI (tgO D e) := tg e he ce
  have m1 := oI_m1 (o := tgO D e) (fun u hu => by have := (tg_lt hu).1; omega)
  unfold s_X0_mayBeMisheard
  rw [gI_ok (c := 2) 6 (kEn S he), Option.bind_some, e6]
  by_cases c : tgO D e = none
  · rw [if_pos (m1.mpr c), cV_ok (c := 2) _ (kEn S he), complX S gL w rfl he ce, Option.bind_some, decide_eq_true c]
    cases whB D e with
    | false =>
      rw [if_pos (show bI false = 0 from rfl), Option.bind_some, if_pos (Or.inl rfl)]
      rfl
    | true =>
      rw [if_neg (show ¬ bI true = 0 by decide), Option.bind_some, if_pos (Or.inr rfl)]
      rfl
  · rw [if_neg (fun z => c (m1.mp z)), Option.bind_some, if_pos (Or.inl rfl), decide_eq_false c]
    rfl
noncomputable def meX (D : Dt) (e : Nat) : Option Nat := if tgO D e = none ∧ whB D e = true then meaF D e else none
theorem explainX {h : IH} (S : ShX h A n) (hN : 2000 ≤ N) (hn : n = dn D) (gs : XgS h A D) (gL : XgL h A D) (w : WgL D) (ck : CkX h A D) {e : Nat} (he : e / 16 < 3 * dn D) (ce : ctB D e = true) (hm : fI h 210 (A (1000 + e)) = oI (meX D e)) : s_X0_explain N h (A 13) (some (A (1000 + e))) (nI (e / 48)) = some (nI (if parF D e = none then whyF D e else 0)) := by
  subst hn
  have wn := S.1
  have k := kEn S he
  have e6 : fI h (100 * 2 + 6) (A (1000 + e)) = oI (tgO D e) := ck.1 e he ce
  have e10 : fI h (100 * 2 + 10) (A (1000 + e)) = oI (meX D e) := hm
  have ec : fL h (100 * 2 + 3) (A (1000 + e)) = calV (dtb D e) (dtl D e) 0 0 := ((enX gL he ce).2.2.2 (ct_in ce).2).1
  have e48 : e / 48 < dn D := by omega
  unfold s_X0_explain
  rw [cV_ok (c := 2) _ k, pairedX S rfl ck.2.2 he ce, Option.bind_some]
  by_cases c1 : parF D e = none
  · rw [if_pos c1, decide_eq_false (fun z => z c1), if_pos (show bI false = 0 from rfl), cV_ok (c := 2) _ k, complX S gL w rfl he ce, Option.bind_some]
    cases c2 : whB D e with
    | false =>
      rw [if_pos (show bI false = 0 from rfl), whyF_2 c1 c2]
      rfl
    | true =>
      rw [if_neg (show ¬ bI true = 0 by decide), gI_ok (c := 2) 6 k, Option.bind_some, e6]
      cases c3 : tgO D e with
      | none =>
        have em : meX D e = meaF D e := by
          unfold meX
          rw [if_pos ⟨c3, c2⟩]
        rw [if_pos (show oI none = -1 from rfl), gI_ok (c := 2) 10 k, Option.bind_some, e10, em]
        cases c4 : meaF D e with
        | none =>
          rw [if_pos (show oI none = -1 from rfl), gL_ok (c := 2) 3 k, Option.bind_some, ec, vX0 S, uniqX S hN rfl gs gL w e, Option.bind_some, whyF_4 c1 c2 c3 c4]
          by_cases c5 : stN D e < 3
          · rw [if_pos c5, if_pos c5, if_neg (show ¬ (1 : Int32) = 0 by decide), Option.bind_some]
            rfl
          · rw [if_neg c5, if_neg c5, if_pos rfl, Option.bind_some]
            rfl
        | some t =>
          have := meaF_lt w wn ck.ok c4
          rw [if_neg (show ¬ oI (some t) = -1 from nI_nm1 (k := t) (by omega)), Option.bind_some, whyF_3 c1 c2 c3 c4]
          rfl
      | some t =>
        have ht := (tg_lt c3).1
        rw [if_neg (show ¬ oI (some t) = -1 from nI_nm1 (k := t) (by omega)), Option.bind_some, whyF_5 c1 c2 c3]
        by_cases c4 : t = e / 48
        · rw [if_pos (show oI (some t) = nI (e / 48) by rw [c4]; rfl), Option.bind_some, if_neg (fun z => z.1 c4)]
          rfl
        · rw [if_neg (show ¬ oI (some t) = nI (e / 48) from fun z => c4 ((nI_eq (a := t) (by omega) (by omega)).mp z)), gX0_0 S, Option.bind_some, Option.bind_some, vX7 S, withLogX S hN gs gL rfl (some t) (fun u hu => by cases hu; exact ht), Option.bind_some]
          have ew : wlA D A (some t) = if hlB D t = true then some (A (100 + t)) else none := rfl
          rw [ew]
          cases c5 : hlB D t with
          | false =>
            rw [if_neg (show ¬ false = true by decide), if_pos rfl, Option.bind_some, if_neg (fun z => by cases z.2)]
            rfl
          | true =>
            rw [if_pos rfl, if_neg (show ¬ some (A (100 + t)) = none from fun z => by cases z), Option.bind_some, if_pos ⟨c4, rfl⟩]
            rfl
  · rw [if_neg c1, decide_eq_true c1, if_neg (show ¬ bI true = 0 by decide)]
    rfl
def exF (f : Nat) : Prop := f = 209 ∨ f = 210
def exI (H : IH) (A : Nat → Nat) (D : Dt) (k : Nat) : Prop := ∀ e, e < k → e / 16 < 3 * dn D → ctB D e = true → fI H 209 (A (1000 + e)) = nI (whyF D e) ∧ fI H 210 (A (1000 + e)) = oI (meX D e)
def WyX (H : IH) (A : Nat → Nat) (D : Dt) : Prop := ∀ e, e / 16 < 3 * dn D → ctB D e = true → fI H 209 (A (1000 + e)) = nI (whyF D e) ∧ fI H 210 (A (1000 + e)) = oI (meX D e)
theorem exI_q {H : IH} (w : WgL D) {q k : Nat} (hq : q < 36) (hk : dsz D q ≤ k) (i : exI H A D (16 * q + k)) : exI H A D (16 * (q + 1)) := by
  intro e h1 h2 h3
  by_cases c : e < 16 * q + k
  · exact i e c h2 h3
  · have := (ct_in h3).1
    have e1 : e / 16 = q := by omega
    rw [e1] at this
    omega
theorem explX {h : IH} (S : ShX h A n) (hN : 2000 ≤ N) (hn : n = dn D) (gs : XgS h A D) (gL : XgL h A D) (gP : XgP h A D) (w : WgL D) (wS : WgS D) (ck : CkX h A D) : ∃ h', s_X0_refresh_L158 N N (A 13) 0 h = some h' ∧ FX A exF no1 no1 no1 h h' ∧ WyX h' A D := by
  subst hn
  have wn := S.1
  have gsF : ∀ {H : IH}, FX A exF no1 no1 no1 h H → XgS H A D := fun fr => gs.fr fr (fun f z => by rcases z with z | z <;> subst z <;> omega) (fun z => z)
  have gLF : ∀ {H : IH}, FX A exF no1 no1 no1 h H → XgL H A D := fun fr => gL.fr fr (fun f z => by rcases z with z | z <;> subst z <;> omega) (fun f z => z.elim)
  have gPF : ∀ {H : IH}, FX A exF no1 no1 no1 h H → XgP H A D := fun fr => gP.fr fr (by unfold exF; omega) (by unfold exF; omega)
  have ckF : ∀ {H : IH}, FX A exF no1 no1 no1 h H → CkX H A D := fun fr => ck.fr fr (by unfold exF; omega) (by unfold exF; omega) (by unfold exF; omega) (fun z => z)
  have L1 : ∀ s b, s < dn D → b < 3 → ∀ (r i z : Nat) (H : IH), i + r = dsz D (3 * s + b) → r < z → FX A exF no1 no1 no1 h H → exI H A D (16 * (3 * s + b) + i) → ∃ h', s_X0_explainContacts_L30 N z (A 13) (nI s) (some (A (100 + s))) (nI b) (some (A (200 + (3 * s + b)))) (nI i) H = some h' ∧ FX A exF no1 no1 no1 h h' ∧ exI h' A D (16 * (3 * s + b + 1)) := by
    intro s b hs hb r
    have hq : 3 * s + b < 3 * dn D := by omega
    have w16 := (w.1 (3 * s + b) (by omega)).1
    have lq : lvQ (dn D) (3 * s + b) := Or.inl hq
    induction r with
    | zero =>
      intro i z H hi hz fr inv
      obtain ⟨z, rfl⟩ : ∃ y, z = y + 1 := ⟨z - 1, by omega⟩
      have SH := fr.shX S
      rw [s_X0_explainContacts_L30.eq_2, if_neg (show ¬ some (A (200 + (3 * s + b))) = none from fun z => by cases z), gX4_1 SH lq, Option.bind_some, (gLF fr _ hq).2.1, if_pos (nI_le (by omega) (by omega))]
      exact ⟨H, rfl, fr, exI_q w (by omega) (by omega) inv⟩
    | succ r ih =>
      intro i z H hi hz fr inv
      obtain ⟨z, rfl⟩ : ∃ y, z = y + 1 := ⟨z - 1, by omega⟩
      have SH := fr.shX S
      have gH := gLF fr
      rw [s_X0_explainContacts_L30.eq_2, if_neg (show ¬ some (A (200 + (3 * s + b))) = none from fun z => by cases z), gX4_1 SH lq, Option.bind_some, (gH _ hq).2.1, if_neg (nI_ge (by omega) (by omega)), vX4 SH lq, contactX SH gH w rfl hq (show i < 16 by omega), Option.bind_some, nI_1]
      by_cases c : ctB D (16 * (3 * s + b) + i) = true
      · have he : (16 * (3 * s + b) + i) / 16 < 3 * dn D := by omega
        have k := kEn SH he
        have e48 : (16 * (3 * s + b) + i) / 48 = s := by omega
        have eb : (16 * (3 * s + b) + i) / 16 % 3 = b := by omega
        have cH := ckF fr
        have mm := meantX (N := N) SH hN rfl (gsF fr) gH (gPF fr) w wS cH he c
        rw [e48, eb] at mm
        rw [if_pos c, if_neg (show ¬ some (A (1000 + (16 * (3 * s + b) + i))) = none from fun z => by cases z), mayX SH rfl gH w cH.1 he c, Option.bind_some]
        have q15 : ((if bI (decide (tgO D (16 * (3 * s + b) + i) = none) && whB D (16 * (3 * s + b) + i)) = 0 then some (-1) else (cV H 0 (some (A 13)) fun a14 => s_X0_stationMeant N H a14 (some (A (1000 + (16 * (3 * s + b) + i)))) (nI s) (nI b)).bind fun v13 => some v13) : Option (Int32)) = some (oI (meX D (16 * (3 * s + b) + i))) := by
          unfold meX
          by_cases d : tgO D (16 * (3 * s + b) + i) = none ∧ whB D (16 * (3 * s + b) + i) = true
          · rw [if_pos d, decide_eq_true d.1, d.2, if_neg (show ¬ bI (true && true) = 0 by decide), vX0 SH, mm, Option.bind_some]
          · have ef : (decide (tgO D (16 * (3 * s + b) + i) = none) && whB D (16 * (3 * s + b) + i)) = false := by
              cases x : whB D (16 * (3 * s + b) + i) with
              | false => exact Bool.and_false _
              | true =>
                rw [decide_eq_false (fun y => d ⟨y, x⟩)]
                rfl
            rw [if_neg d, ef, if_pos (show bI false = 0 from rfl)]
            rfl
        rw [q15, Option.bind_some, pI_ok (c := 2) 10 _ k, Option.bind_some]
        have f16 : FX A exF no1 no1 no1 H (wfI H (100 * 2 + 10) (A (1000 + (16 * (3 * s + b) + i))) (oI (meX D (16 * (3 * s + b) + i)))) := Fr.wI _ _ _ _ (Or.inr rfl)
        generalize hg : wfI H (100 * 2 + 10) (A (1000 + (16 * (3 * s + b) + i))) (oI (meX D (16 * (3 * s + b) + i))) = H2 at f16 ⊢
        have fr2 := fr.trans f16
        have S2 := fr2.shX S
        have c2 := ckF fr2
        have k2 := kEn S2 he
        have hm : fI H2 210 (A (1000 + (16 * (3 * s + b) + i))) = oI (meX D (16 * (3 * s + b) + i)) := by
          rw [← hg]
          exact fI_wfI _ _ _ _
        have ee := explainX (N := N) S2 hN rfl (gsF fr2) (gLF fr2) w c2 he c hm
        rw [e48] at ee
        rw [cV_ok (c := 2) _ k2, pairedX S2 rfl c2.2.2 he c, Option.bind_some]
        have q25 : ((if bI (decide (parF D (16 * (3 * s + b) + i) ≠ none)) = 0 then (cV H2 0 (some (A 13)) fun a20 => s_X0_explain N H2 a20 (some (A (1000 + (16 * (3 * s + b) + i)))) (nI s)).bind fun v19 => some v19 else (s_X0_isDupe N H2 (some (A (1000 + (16 * (3 * s + b) + i)))) (some (A (200 + (3 * s + b)))) (nI i)).bind fun v21 => if v21 = 0 then (cV H2 0 (some (A 13)) fun a24 => s_X0_explain N H2 a24 (some (A (1000 + (16 * (3 * s + b) + i)))) (nI s)).bind fun v23 => some v23 else some 1) : Option (Int32)) = some (nI (whyF D (16 * (3 * s + b) + i))) := by
          by_cases d : parF D (16 * (3 * s + b) + i) = none
          · rw [decide_eq_false (fun z => z d), if_pos (show bI false = 0 from rfl), vX0 S2, ee, Option.bind_some, if_pos d]
          · rw [decide_eq_true d, if_neg (show ¬ bI true = 0 by decide), isDupeX S2 hN rfl (gLF fr2) w c2.2.2 hq (show i < 16 by omega) c d, Option.bind_some, whyF_p d]
            cases dupB D (16 * (3 * s + b) + i) with
            | false =>
              rw [if_pos (show bI false = 0 from rfl), vX0 S2, ee, Option.bind_some, if_neg d]
              rfl
            | true =>
              rw [if_neg (show ¬ bI true = 0 by decide)]
              rfl
        rw [q25, Option.bind_some, pI_ok (c := 2) 9 _ k2, Option.bind_some, Option.bind_some]
        refine ih (i + 1) z _ (by omega) (by omega) (fr2.trans (Fr.wI _ _ _ _ (Or.inl rfl))) ?_
        intro e h1 h2 h3
        by_cases d : e = 16 * (3 * s + b) + i
        · subst d
          refine ⟨fI_wfI _ _ _ _, Eq.trans ?_ hm⟩
          exact fI_wfI_ne _ _ (by decide)
        · have ne := neEn S h2 he d
          have o := inv e (by omega) h2 h3
          refine ⟨(fI_wfI_na _ _ ne).trans (Eq.trans ?_ o.1), (fI_wfI_na _ _ ne).trans (Eq.trans ?_ o.2)⟩
          · rw [← hg]; exact fI_wfI_na _ _ ne
          · rw [← hg]; exact fI_wfI_na _ _ ne
      · rw [if_neg c, if_pos rfl, Option.bind_some]
        refine ih (i + 1) z H (by omega) (by omega) fr ?_
        intro e h1 h2 h3
        by_cases d : e = 16 * (3 * s + b) + i
        · rw [d] at h3
          exact absurd h3 c
        · exact inv e (by omega) h2 h3
  have L2 : ∀ (s : Nat), s < dn D → ∀ (r b z : Nat) (H : IH), b + r = 3 → r < z → FX A exF no1 no1 no1 h H → exI H A D (16 * (3 * s + b)) → ∃ h', s_X0_explainContacts_L11 N z (A 13) (nI s) (some (A (100 + s))) (nI b) H = some h' ∧ FX A exF no1 no1 no1 h h' ∧ exI h' A D (48 * (s + 1)) := by
    intro s hs r
    induction r with
    | zero =>
      intro b z H hb hz fr inv
      obtain ⟨z, rfl⟩ : ∃ y, z = y + 1 := ⟨z - 1, by omega⟩
      rw [s_X0_explainContacts_L11.eq_2, if_pos (show (3 : Int32) ≤ nI b from nI_le (a := 3) (by omega) (by omega))]
      refine ⟨H, rfl, fr, ?_⟩
      rw [show 48 * (s + 1) = 16 * (3 * s + b) by omega]
      exact inv
    | succ r ih =>
      intro b z H hb hz fr inv
      obtain ⟨z, rfl⟩ : ∃ y, z = y + 1 := ⟨z - 1, by omega⟩
      have SH := fr.shX S
      obtain ⟨h', a1, a2, a3⟩ := L1 s b hs (by omega) (dsz D (3 * s + b)) 0 N H (by omega) (by have := (w.1 (3 * s + b) (by omega)).1; omega) fr (by rw [Nat.add_zero]; exact inv)
      rw [nI_0] at a1
      rw [s_X0_explainContacts_L11.eq_2, if_neg (show ¬ (3 : Int32) ≤ nI b from nI_ge (b := 3) (by omega) (by omega)), if_neg (show ¬ some (A (100 + s)) = none from fun z => by cases z), vX9 SH hs, logOfX SH hs (by omega), Option.bind_some, a1, Option.bind_some, nI_1]
      exact ih (b + 1) z h' (by omega) (by omega) a2 (by rw [show 3 * s + (b + 1) = 3 * s + b + 1 by omega]; exact a3)
  have L3 : ∀ (r s z : Nat) (H : IH), s + r = dn D → r < z → FX A exF no1 no1 no1 h H → exI H A D (48 * s) → ∃ h', s_X0_refresh_L158 N z (A 13) (nI s) H = some h' ∧ FX A exF no1 no1 no1 h h' ∧ exI h' A D (48 * dn D) := by
    intro r
    induction r with
    | zero =>
      intro s z H hs hz fr inv
      obtain ⟨z, rfl⟩ : ∃ y, z = y + 1 := ⟨z - 1, by omega⟩
      have SH := fr.shX S
      rw [s_X0_refresh_L158.eq_2, gX0_0 SH, Option.bind_some, gX7_1 SH, Option.bind_some, (gsF fr).1, if_pos (nI_le (by omega) (by omega))]
      have : s = dn D := by omega
      subst this
      exact ⟨H, rfl, fr, inv⟩
    | succ r ih =>
      intro s z H hs hz fr inv
      obtain ⟨z, rfl⟩ : ∃ y, z = y + 1 := ⟨z - 1, by omega⟩
      have SH := fr.shX S
      obtain ⟨h', a1, a2, a3⟩ := L2 s (by omega) 3 0 N H (by omega) (by omega) fr (by rw [show 16 * (3 * s + 0) = 48 * s by omega]; exact inv)
      rw [nI_0] at a1
      rw [s_X0_refresh_L158.eq_2, gX0_0 SH, Option.bind_some, gX7_1 SH, Option.bind_some, (gsF fr).1, if_neg (nI_ge (by omega) (by omega)), vX0 SH]
      unfold s_X0_explainContacts
      rw [gX0_0 SH, Option.bind_some, vX7 SH, atX SH (gsF fr) rfl (by omega), Option.bind_some, a1, Option.bind_some, Option.bind_some, nI_1]
      exact ih (s + 1) z h' (by omega) (by omega) a2 a3
  obtain ⟨h', a1, a2, a3⟩ := L3 (dn D) 0 N h (by omega) (by omega) (Fr.refl _) (fun e h1 => absurd h1 (by omega))
  rw [nI_0] at a1
  exact ⟨h', a1, a2, fun e he ce => a3 e (by omega) he ce⟩
/-! the whole check -/
def rfF (f : Nat) : Prop := f = 4 ∨ f = 103 ∨ f = 104 ∨ (206 ≤ f ∧ f ≤ 210) ∨ f = 604 ∨ f = 605
def rfR (i : Nat) : Prop := i = 16 ∨ puR i
abbrev FrRF (A : Nat → Nat) : IH → IH → Prop := FX A rfF (e1 908) rfR (e1 15)
theorem rfR_lv : lvR n rfR := fun i h => by
  rcases h with h | h
  · subst h
    exact lv_lit (by decide) (by decide)
  · exact puR_lv i h
def ChX (h : IH) (A : Nat → Nat) (D : Dt) : Prop := fI h 4 (A 13) ≠ 0 → CkX h A D ∧ WyX h A D
theorem WyX.fr {h h' : IH} {F G R Q : Nat → Prop} (x : FX A F G R Q h h') (c : WyX h A D) (f1 : ¬ F 209) (f2 : ¬ F 210) : WyX h' A D := fun e he ce => by
  rw [x.fI f1, x.fI f2]
  exact c e he ce
theorem refreshX {h : IH} (S : ShX h A n) (hN : 2000 ≤ N) (hn : n = dn D) (gs : XgS h A D) (gL : XgL h A D) (gP : XgP h A D) (wS : WgS D) (w : WgL D) (wP : WgP D) (ch : ChX h A D) : ∃ h', s_X0_refresh N h (A 13) = some h' ∧ FrRF A h h' ∧ CkX h' A D ∧ WyX h' A D := by
  subst hn
  unfold s_X0_refresh
  rw [gX0_4 S, Option.bind_some]
  by_cases c : fI h 4 (A 13) = 0
  · rw [if_pos c, pX0_4z S (Or.inr rfl), Option.bind_some]
    have f0 : FX A (e1 4) no1 no1 no1 h (wfI h 4 (A 13) 1) := Fr.wI _ _ _ _ rfl
    generalize wfI h 4 (A 13) 1 = h3 at f0 ⊢
    have S3 := f0.shX S
    have s3 : XgS h3 A D := gs.fr f0 (fun f z => by cases z; omega) (fun z => z)
    have l3 : XgL h3 A D := gL.fr f0 (fun f z => by cases z; omega) (fun f z => z.elim)
    have p3 : XgP h3 A D := gP.fr f0 (fun z => by cases z) (fun z => by cases z)
    obtain ⟨h1, e1', f1, i1⟩ := clearX (N := N) S3 hN s3 l3 w rfl (dn D) 0 N h3 (by omega) (by have := S.1; omega) (Fr.refl _) (fun e h1 => absurd h1 (by omega))
    rw [nI_0] at e1'
    have S1 := f1.shX S3
    have s1 : XgS h1 A D := s3.fr f1 (fun f z => by rcases z with z | z <;> subst z <;> omega) (fun z => z)
    have l1 : XgL h1 A D := l3.fr f1 (fun f z => by rcases z with z | z <;> subst z <;> omega) (fun f z => z.elim)
    have p1 : XgP h1 A D := p3.fr f1 (by unfold clF; omega) (by unfold clF; omega)
    have t1 : TgX h1 A D := fun e he ce => (i1 e (by omega) he ce).1
    have m1 : ∀ e, e / 16 < 3 * dn D → ctB D e = true → MaE h1 A e none := fun e he ce => ⟨(i1 e (by omega) he ce).2, fun d hd => by cases hd⟩
    obtain ⟨h2, e2, f2, o2⟩ := offsX (N := N) S1 hN rfl s1 l1 p1 w wP t1
    have S2 := f2.shX S1
    have s2 : XgS h2 A D := s1.fr f2 (fun f z => by unfold gaF at z; omega) (fun z => by cases z)
    have l2 : XgL h2 A D := l1.fr f2 (fun f z => by unfold gaF at z; omega) (fun f z => by cases z; omega)
    have p2 : XgP h2 A D := p1.fr f2 (by unfold gaF; omega) (by unfold gaF; omega)
    have t2 : TgX h2 A D := t1.fr f2 (by unfold gaF; omega)
    have m2 : ∀ e, e / 16 < 3 * dn D → ctB D e = true → MaE h2 A e none := fun e he ce => MaE.fr f2 (m1 e he ce) (by unfold gaF; omega) (by unfold gaF; omega)
    obtain ⟨h4, e4, f4, q4⟩ := pairsX (N := N) S2 hN rfl s2 l2 p2 w wP t2 o2 m2
    have S4 := f4.shX S2
    have s4 : XgS h4 A D := s2.fr f4 (fun f z => by unfold puF at z; omega) (fun z => z)
    have l4 : XgL h4 A D := l2.fr f4 (fun f z => by unfold puF at z; omega) (fun f z => z.elim)
    have p4 : XgP h4 A D := p2.fr f4 (by unfold puF; omega) (by unfold puF; omega)
    have ck4 : CkX h4 A D := ⟨t2.fr f4 (by unfold puF; omega), fun s hs => by rw [f4.fL (fun z => z)]; exact o2 s hs, q4⟩
    obtain ⟨h5, e5, f5, y5⟩ := explX (N := N) S4 hN rfl s4 l4 p4 w wS ck4
    rw [e1', Option.bind_some, e2, Option.bind_some, e4, Option.bind_some, e5, Option.bind_some]
    refine ⟨h5, rfl, ?_, ck4.fr f5 (by unfold exF; omega) (by unfold exF; omega) (by unfold exF; omega) (fun z => z), y5⟩
    have g0 : FrRF A h h3 := FX.mo f0 (fun f z => Or.inl z) (fun _ z => z.elim) (fun _ z => z.elim) (fun _ z => z.elim)
    have g1 : FrRF A h3 h1 := FX.mo f1 (fun f z => by unfold clF at z; unfold rfF; omega) (fun _ z => z.elim) (fun _ z => z.elim) (fun _ z => z.elim)
    have g2 : FrRF A h1 h2 := FX.mo f2 (fun f z => by unfold gaF at z; unfold rfF; omega) (fun _ z => z) (fun _ z => Or.inl z) (fun _ z => z)
    have g4 : FrRF A h2 h4 := FX.mo f4 (fun f z => by unfold puF at z; unfold rfF; omega) (fun _ z => z.elim) (fun _ z => Or.inr z) (fun _ z => z.elim)
    have g5 : FrRF A h4 h5 := FX.mo f5 (fun f z => by unfold exF at z; unfold rfF; omega) (fun _ z => z.elim) (fun _ z => z.elim) (fun _ z => z.elim)
    exact (((g0.trans g1).trans g2).trans g4).trans g5
  · rw [if_neg c]
    exact ⟨h, rfl, Fr.refl _, (ch c).1, (ch c).2⟩
end
