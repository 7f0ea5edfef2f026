/-! ===== the station that was meant: the class ===== -/
def nvr : Int := 1099511627776
section
variable {A : Nat → Nat} {n N : Nat} {D : Dt}
def MtX (h : IH) (A : Nat → Nat) (D : Dt) : Prop := ∀ e, e / 16 < 3 * dn D → ctB D e = true → MaE h A e (parF D e)
def CkX (h : IH) (A : Nat → Nat) (D : Dt) : Prop := TgX h A D ∧ OfX h A D ∧ MtX h A D
theorem CkX.ok {h : IH} (ck : CkX h A D) : fOK D := fun s hs => (ck.2.1 s hs).2
theorem CkX.fr {h h' : IH} {F G R Q : Nat → Prop} (x : FX A F G R Q h h') (c : CkX h A D) (f1 : ¬ F 206) (f2 : ¬ F 207) (f3 : ¬ F 208) (g1 : ¬ G 908) : CkX h' A D := ⟨c.1.fr x f1, fun s hs => by rw [x.fL g1]; exact c.2.1 s hs, fun e he ce => MaE.fr x (c.2.2 e he ce) f2 f3⟩
theorem pairedX {h : IH} (S : ShX h A n) (hn : n = dn D) (mt : MtX h A D) {e : Nat} (he : e / 16 < 3 * dn D) (ce : ctB D e = true) : s_X2_isPaired h (A (1000 + e)) = some (bI (decide (parF D e ≠ none))) := by
  subst hn
  have h12 := S.1
  have e7 : fI h (100 * 2 + 7) (A (1000 + e)) = oI ((parF D e).map (fun d => d / 48)) := (mt e he ce).1
  unfold s_X2_isPaired
  rw [gI_ok (c := 2) 7 (kEn S he), Option.bind_some, e7]
  cases c : parF D e with
  | none =>
    rw [if_pos (show oI (Option.map (fun d => d / 48) none) = -1 from rfl), Option.bind_some, if_pos (Or.inl rfl), decide_eq_false (fun z => z rfl)]
    rfl
  | some d =>
    have := parF_lt h12 c
    rw [if_neg (show ¬ oI (Option.map (fun d => d / 48) (some d)) = -1 from nI_nm1 (k := d / 48) (by omega)), Option.bind_some, if_pos (Or.inr rfl), decide_eq_true (fun z => by cases z)]
    rfl
theorem minJ (h : IH) (a b : Int64) : ∃ v, s_J9_min_f86c9 h a b = some v ∧ v.toInt = if b.toInt < a.toInt then b.toInt else a.toInt := by
  unfold s_J9_min_f86c9
  have e : 0 < lg_cmp a b ↔ b.toInt < a.toInt := by rw [lc_gt, lLt]
  by_cases c : b.toInt < a.toInt
  · rw [if_pos (e.mpr c), if_pos c, Option.bind_some]
    exact ⟨b, rfl, rfl⟩
  · rw [if_neg (fun z => c (e.mp z)), if_neg c, Option.bind_some]
    exact ⟨a, rfl, rfl⟩
theorem answerX {h : IH} (S : ShX h A n) (hN : 2000 ≤ N) (hn : n = dn D) (gs : XgS h A D) (gL : XgL h A D) (gP : XgP h A D) (w : WgL D) (ck : CkX h A D) {e t : Nat} (he : e / 16 < 3 * dn D) (ce : ctB D e = true) (ht : t < dn D) : ∃ v, s_X0_earliestAnswer N h (A 13) (some (A (1000 + e))) (nI (e / 48)) (some (A (100 + t))) (nI (e / 16 % 3)) = some v ∧ v.toInt = (mnJ D e t 16).getD nvr := by
  subst hn
  have wn := S.1
  have fo := ck.ok
  have e48 : e / 48 < dn D := by omega
  have b3 : e / 16 % 3 < 3 := by omega
  have w16 := (w.1 (3 * t + e / 16 % 3) (by omega)).1
  have lq : lvQ (dn D) (3 * t + e / 16 % 3) := Or.inl (by omega)
  have inj : ∀ d, oI (tgO D d) = nI (e / 48) ↔ tgO D d = some (e / 48) := fun d => oI_inj (fun u hu => by have := (tg_lt hu).1; omega) (by omega)
  have nocd0 : ∀ j, dsz D (3 * t + e / 16 % 3) ≤ j → j < 16 → cdB D e (eX t (e / 16 % 3) j) = false := fun j h1 h2 => by
    cases c : cdB D e (eX t (e / 16 % 3) j) with
    | false => rfl
    | true =>
      have := ct_in (cdB_iff.mp c).1
      have e1 : eX t (e / 16 % 3) j % 16 = j := by unfold eX; omega
      have e2 : eX t (e / 16 % 3) j / 16 = 3 * t + e / 16 % 3 := by unfold eX; omega
      rw [e1, e2] at this
      omega
  have last : ∀ r j, j + r = 16 → dsz D (3 * t + e / 16 % 3) ≤ j → mnJ D e t 16 = mnJ D e t j := by
    intro r
    induction r with
    | zero => intro j hj _; rw [show j = 16 by omega]
    | succ r ih =>
      intro j hj h1
      rw [ih (j + 1) (by omega) (by omega)]
      show (if cdB D e (eX t (e / 16 % 3) j) = true then _ else _) = _
      rw [nocd0 j h1 (by omega), if_neg (by decide)]
  have L : ∀ (r j z : Nat) (x7 : Int64), j + r = dsz D (3 * t + e / 16 % 3) → r < z → x7.toInt = (mnJ D e t j).getD nvr → ∃ v, s_X0_earliestAnswer_L26 N z (A 13) (some (A (1000 + e))) (nI (e / 48)) (some (A (100 + t))) (some (A (100 + e / 48))) (some (A (200 + (3 * t + e / 16 % 3)))) x7 (nI j) h = some v ∧ v.toInt = (mnJ D e t 16).getD nvr := by
    intro r
    induction r with
    | zero =>
      intro j z x7 hj hz q
      obtain ⟨z, rfl⟩ : ∃ y, z = y + 1 := ⟨z - 1, by omega⟩
      rw [s_X0_earliestAnswer_L26.eq_2, if_neg (fun z => by cases z), if_neg (fun z => by cases z), gX4_1 S lq, Option.bind_some, (gL _ (by omega)).2.1, if_pos (nI_le (by omega) (by omega))]
      refine ⟨x7, rfl, ?_⟩
      rw [q, last (16 - j) j (by omega) (by omega)]
    | succ r ih =>
      intro j z x7 hj hz q
      obtain ⟨z, rfl⟩ : ∃ y, z = y + 1 := ⟨z - 1, by omega⟩
      have eJ : mnJ D e t (j + 1) = if cdB D e (eX t (e / 16 % 3) j) = true then some (omn (mnJ D e t j) (rgt D (eX t (e / 16 % 3) j))) else mnJ D e t j := rfl
      have hd : eX t (e / 16 % 3) j / 16 < 3 * dn D := by unfold eX; omega
      have d48 : eX t (e / 16 % 3) j / 48 = t := by unfold eX; omega
      rw [s_X0_earliestAnswer_L26.eq_2, if_neg (fun z => by cases z), if_neg (fun z => by cases z), gX4_1 S lq, Option.bind_some, (gL _ (by omega)).2.1, if_neg (nI_ge (by omega) (by omega)), vX4 S lq, contactX S gL w rfl (show 3 * t + e / 16 % 3 < 3 * dn D by omega) (show j < 16 by omega), Option.bind_some, nI_1]
      have skip : cdB D e (eX t (e / 16 % 3) j) = false → ∃ v, s_X0_earliestAnswer_L26 N z (A 13) (some (A (1000 + e))) (nI (e / 48)) (some (A (100 + t))) (some (A (100 + e / 48))) (some (A (200 + (3 * t + e / 16 % 3)))) x7 (nI (j + 1)) h = some v ∧ v.toInt = (mnJ D e t 16).getD nvr := fun hx => by
        rw [hx, if_neg (by decide)] at eJ
        exact ih (j + 1) z x7 (by omega) (by omega) (by rw [eJ]; exact q)
      have nocd : ∀ (p : Prop), (cdB D e (eX t (e / 16 % 3) j) = true → p) → ¬ p → cdB D e (eX t (e / 16 % 3) j) = false := fun p h1 h2 => by
        cases c : cdB D e (eX t (e / 16 % 3) j) with
        | false => rfl
        | true => exact absurd (h1 c) h2
      by_cases c1 : ctB D (16 * (3 * t + e / 16 % 3) + j) = true
      · have c1' : ctB D (eX t (e / 16 % 3) j) = true := c1
        have e6 : fI h (100 * 2 + 6) (A (1000 + eX t (e / 16 % 3) j)) = oI (tgO D (eX t (e / 16 % 3) j)) := ck.1 _ hd c1'
        rw [if_pos c1, if_neg (show ¬ some (A (1000 + (16 * (3 * t + e / 16 % 3) + j))) = none from fun z => by cases z)]
        show ∃ v, (((gI h 2 6 (some (A (1000 + eX t (e / 16 % 3) j)))).bind fun v10 => if v10 = nI (e / 48) then (cV h 2 (some (A (1000 + eX t (e / 16 % 3) j))) fun a25 => s_X2_isPaired h a25).bind fun v12 => if v12 = 0 then (cV h 2 (some (A (1000 + e))) fun a24 => s_X2_answersTo h a24 (some (A (1000 + eX t (e / 16 % 3) j)))).bind fun v14 => if v14 = 0 then some x7 else (cV h 9 (some (A (100 + t))) fun a23 => s_X9_putRight h a23 (some (A (1000 + eX t (e / 16 % 3) j)))).bind fun v16 => (cV h 9 (some (A (100 + e / 48))) fun a22 => s_X9_putRight h a22 (some (A (1000 + e)))).bind fun v17 => (s_J9_abs_067f4 h (v17 - v16)).bind fun v18 => (gI h 0 3 (some (A 13))).bind fun v19 => if 0 < (lg_cmp v18 v19.toInt64) then some x7 else (s_J9_min_f86c9 h x7 v16).bind fun v21 => some v21 else some x7 else some x7).bind _) = _ ∧ _
        rw [gI_ok (c := 2) 6 (kEn S hd), Option.bind_some, e6]
        by_cases c3 : tgO D (eX t (e / 16 % 3) j) = some (e / 48)
        · rw [if_pos ((inj _).mpr c3), cV_ok (c := 2) _ (kEn S hd), pairedX S rfl ck.2.2 hd c1', Option.bind_some]
          by_cases c2 : parF D (eX t (e / 16 % 3) j) = none
          · rw [decide_eq_false (fun z => z c2), if_pos (show bI false = 0 from rfl), cV_ok (c := 2) _ (kEn S he), ansX S gL w rfl he hd ce c1', Option.bind_some]
            cases c4 : fitB D e (eX t (e / 16 % 3) j) with
            | false =>
              rw [if_pos (show bI false = 0 from rfl), Option.bind_some]
              exact skip (nocd _ (fun z => (cdB_iff.mp z).2.2.2.1) (by rw [c4]; decide))
            | true =>
              obtain ⟨v2, ev2, hv2, bb1, bb2⟩ := rightX S rfl gL w ck.2.1 ht hd c1'
              obtain ⟨v1, ev1, hv1, bb3, bb4⟩ := rightX S rfl gL w ck.2.1 e48 he ce
              have o1 := fo t ht
              have o2 := fo (e / 48) e48
              have sb : (v1 - v2).toInt = v1.toInt - v2.toInt := ls (by rw [hv1, hv2]; omega) (by rw [hv1, hv2]; omega)
              obtain ⟨d, ed, hdd⟩ := absJ h (x := v1 - v2) (by rw [sb, hv1, hv2]; omega)
              have hdI : d.toInt = (dsI D e (eX t (e / 16 % 3) j) : Int) := by
                rw [hdd, sb, hv1, hv2]
                unfold dsI
                rw [d48]
              have hr : v2.toInt = rgt D (eX t (e / 16 % 3) j) := by
                rw [hv2]
                unfold rgt
                rw [d48]
              rw [if_neg (show ¬ bI true = 0 by decide), vX9 S ht, ev2, Option.bind_some, vX9 S e48, ev1, Option.bind_some, ed, Option.bind_some, gX0_3 S, Option.bind_some, gP.1]
              have cmp : 0 < lg_cmp d (dwin D).toInt64 ↔ (dwin D).toInt < (dsI D e (eX t (e / 16 % 3) j) : Int) := by rw [lc_gt, lLt, il, hdI]
              by_cases c5 : (dwin D).toInt < (dsI D e (eX t (e / 16 % 3) j) : Int)
              · rw [if_pos (cmp.mpr c5), Option.bind_some]
                exact skip (nocd _ (fun z => (cdB_iff.mp z).2.2.2.2) (by omega))
              · have hcd : cdB D e (eX t (e / 16 % 3) j) = true := cdB_iff.mpr ⟨c1', c2, c3, c4, by omega⟩
                rw [hcd, if_pos rfl] at eJ
                obtain ⟨v, ev, hv⟩ := minJ h x7 v2
                rw [if_neg (fun z => c5 (cmp.mp z)), ev, Option.bind_some, Option.bind_some]
                refine ih (j + 1) z v (by omega) (by omega) ?_
                rw [hv, eJ, q, hr]
                cases hm : mnJ D e t j with
                | none =>
                  have rb := rgt_bd w wn fo (show eX t (e / 16 % 3) j < 576 by omega) c1'
                  show (if rgt D (eX t (e / 16 % 3) j) < nvr then rgt D (eX t (e / 16 % 3) j) else nvr) = rgt D (eX t (e / 16 % 3) j)
                  rw [if_pos (by unfold nvr; omega)]
                | some q => rfl
          · rw [decide_eq_true c2, if_neg (show ¬ bI true = 0 by decide), Option.bind_some]
            exact skip (nocd _ (fun z => (cdB_iff.mp z).2.1) c2)
        · rw [if_neg (fun z => c3 ((inj _).mp z)), Option.bind_some]
          exact skip (nocd _ (fun z => (cdB_iff.mp z).2.2.1) c3)
      · rw [if_neg c1, if_pos rfl, Option.bind_some]
        exact skip (nocd _ (fun z => (cdB_iff.mp z).1) c1)
  obtain ⟨v, ev, hv⟩ := L (dsz D (3 * t + e / 16 % 3)) 0 N 1099511627776 (by omega) (by omega) rfl
  rw [nI_0] at ev
  unfold s_X0_earliestAnswer
  rw [gX0_0 S, Option.bind_some, vX7 S, atX S gs rfl e48, Option.bind_some, vX9 S ht, logOfX S ht b3, Option.bind_some, ev, Option.bind_some]
  exact ⟨v, rfl, hv⟩
theorem meantX {h : IH} (S : ShX h A n) (hN : 2000 ≤ N) (hn : n = dn D) (gs : XgS h A D) (gL : XgL h A D) (gP : XgP h A D) (w : WgL D) (wS : WgS D) (ck : CkX h A D) {e : Nat} (he : e / 16 < 3 * dn D) (ce : ctB D e = true) : s_X0_stationMeant N h (A 13) (some (A (1000 + e))) (nI (e / 48)) (nI (e / 16 % 3)) = some (oI (meaF D e)) := by
  subst hn
  have wn := S.1
  have fo := ck.ok
  have e48 : e / 48 < dn D := by omega
  have L : ∀ (r t z : Nat) (x4 : Int32) (x5 : Int64), t + r = dn D → r < z → x4 = oI ((mnT D e t).map Prod.fst) → x5.toInt = ((mnT D e t).map Prod.snd).getD nvr → s_X0_stationMeant_L11 N z (A 13) (some (A (1000 + e))) (nI (e / 48)) (nI (e / 16 % 3)) x4 x5 (nI t) h = some (oI (meaF D e)) := by
    intro r
    induction r with
    | zero =>
      intro t z x4 x5 ht hz q1 q2
      obtain ⟨z, rfl⟩ : ∃ y, z = y + 1 := ⟨z - 1, by omega⟩
      rw [s_X0_stationMeant_L11.eq_2, gX0_0 S, Option.bind_some, gX7_1 S, Option.bind_some, gs.1, if_pos (nI_le (by omega) (by omega)), q1]
      unfold meaF
      rw [show t = dn D by omega]
    | succ r ih =>
      intro t z x4 x5 ht hz q1 q2
      obtain ⟨z, rfl⟩ : ∃ y, z = y + 1 := ⟨z - 1, by omega⟩
      have eT : mnT D e (t + 1) = if t ≠ e / 48 ∧ nearB D e t = true then cmb t (mnT D e t) (mnJ D e t 16) else mnT D e t := rfl
      have ht' : t < dn D := by omega
      rw [s_X0_stationMeant_L11.eq_2, gX0_0 S, Option.bind_some, gX7_1 S, Option.bind_some, gs.1, if_neg (nI_ge (by omega) (by omega)), Option.bind_some, vX7 S, atX S gs rfl ht', Option.bind_some, nI_1]
      by_cases c1 : t = e / 48
      · rw [if_pos (by rw [c1]), Option.bind_some]
        rw [if_neg (fun z => z.1 c1)] at eT
        exact ih (t + 1) z x4 x5 (by omega) (by omega) (by rw [eT]; exact q1) (by rw [eT]; exact q2)
      · have e4 : fL h 904 (A (100 + t)) = calV (dcb D t) (dcl D t) 0 0 := (gs.2 t ht').2.2.2.2.1
        rw [if_neg (fun z => c1 ((nI_eq (by omega) (by omega)).mp z)), if_neg (show ¬ some (A (100 + t)) = none from fun z => by cases z), gX9_4 S ht', Option.bind_some, e4, cV_ok (c := 2) _ (kEn S he), misheardX S hN rfl gL w wS he ce ht', Option.bind_some]
        cases c2 : nearB D e t with
        | false =>
          rw [if_pos (show bI false = 0 from rfl), Option.bind_some]
          rw [if_neg (fun z => by rw [c2] at z; cases z.2)] at eT
          exact ih (t + 1) z x4 x5 (by omega) (by omega) (by rw [eT]; exact q1) (by rw [eT]; exact q2)
        | true =>
          obtain ⟨v, ev, hv⟩ := answerX (N := N) S hN rfl gs gL gP w ck he ce ht'
          rw [if_pos ⟨c1, c2⟩] at eT
          rw [if_neg (show ¬ bI true = 0 by decide), vX0 S, ev, Option.bind_some]
          have cmp : 0 ≤ lg_cmp v x5 ↔ ¬ v.toInt < x5.toInt := by
            have e : 0 ≤ lg_cmp v x5 ↔ ¬ (lg_cmp v x5 < 0) := by rw [iLe, iLt]; omega
            rw [e, lc_lt, lLt]
          cases hj : mnJ D e t 16 with
          | none =>
            rw [hj] at hv eT
            have eT : mnT D e (t + 1) = mnT D e t := eT
            have hv : v.toInt = nvr := hv
            have : ¬ v.toInt < x5.toInt := by
              rw [hv, q2]
              cases hm : mnT D e t with
              | none => show ¬ nvr < nvr; omega
              | some y =>
                have := (mnT_bd w wn fo t (by omega) y hm).2.2
                show ¬ nvr < y.2
                unfold nvr
                omega
            rw [if_pos (cmp.mpr this), Option.bind_some]
            exact ih (t + 1) z x4 x5 (by omega) (by omega) (by rw [eT]; exact q1) (by rw [eT]; exact q2)
          | some r' =>
            have rb := mnJ_bd w wn fo ht' 16 (by omega) r' hj
            rw [hj] at hv eT
            have hv : v.toInt = r' := hv
            cases hm : mnT D e t with
            | none =>
              rw [hm] at q2 eT
              have eT : mnT D e (t + 1) = some (t, r') := eT
              have q2 : x5.toInt = nvr := q2
              rw [if_neg (fun z => cmp.mp z (by rw [hv, q2]; unfold nvr; omega)), Option.bind_some]
              exact ih (t + 1) z _ _ (by omega) (by omega) (by rw [eT]; rfl) (by rw [eT]; exact hv)
            | some y =>
              rw [hm] at q1 q2 eT
              have eT : mnT D e (t + 1) = if r' < y.2 then some (t, r') else some y := eT
              have q2 : x5.toInt = y.2 := q2
              by_cases c5 : r' < y.2
              · rw [if_pos c5] at eT
                rw [if_neg (fun z => cmp.mp z (by rw [hv, q2]; exact c5)), Option.bind_some]
                exact ih (t + 1) z _ _ (by omega) (by omega) (by rw [eT]; rfl) (by rw [eT]; exact hv)
              · rw [if_neg c5] at eT
                rw [if_pos (cmp.mpr (by rw [hv, q2]; exact c5)), Option.bind_some]
                exact ih (t + 1) z x4 x5 (by omega) (by omega) (by rw [eT]; exact q1) (by rw [eT]; exact q2)
  have e0 := L (dn D) 0 N (-1) 1099511627776 (by omega) (by omega) rfl rfl
  rw [nI_0] at e0
  unfold s_X0_stationMeant
  rw [e0, Option.bind_some]
end
