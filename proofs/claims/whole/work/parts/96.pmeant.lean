/-! ===== the station that was meant ===== -/
theorem parF_some {D : Dt} {e d : Nat} (h : parF D e = some d) : ∃ t, tgO D e = some t ∧ t < dn D ∧ d / 48 = t ∧ d / 16 = 3 * t + e / 16 % 3 ∧ t ≠ e / 48 := by
  unfold parF at h
  cases c : tgO D e with
  | none => rw [c] at h; cases h
  | some t =>
    rw [c] at h
    have h : (if e / 48 < t then (mtF D (e / 48) t (e / 16 % 3) (e % 16)).map (eX t (e / 16 % 3)) else if t < e / 48 then (invC (mtF D t (e / 48) (e / 16 % 3)) (e % 16)).map (eX t (e / 16 % 3)) else none) = some d := h
    have fin : ∀ j, j < 16 → eX t (e / 16 % 3) j / 48 = t ∧ eX t (e / 16 % 3) j / 16 = 3 * t + e / 16 % 3 := fun j hj => by unfold eX; omega
    have ht := (tg_lt c).1
    by_cases c1 : e / 48 < t
    · rw [if_pos c1] at h
      cases c2 : mtF D (e / 48) t (e / 16 % 3) (e % 16) with
      | none => rw [c2] at h; cases h
      | some j =>
        rw [c2] at h
        cases h
        have hj := ((gS_inv _ 16).1 _ _ c2).2.1
        exact ⟨t, rfl, ht, (fin j hj).1, (fin j hj).2, by omega⟩
    · rw [if_neg c1] at h
      by_cases c3 : t < e / 48
      · rw [if_pos c3] at h
        cases c2 : invC (mtF D t (e / 48) (e / 16 % 3)) (e % 16) with
        | none => rw [c2] at h; cases h
        | some j =>
          rw [c2] at h
          cases h
          have hj := (fsM_some.mp c2).1
          exact ⟨t, rfl, ht, (fin j hj).1, (fin j hj).2, by omega⟩
      · rw [if_neg c3] at h
        cases h
theorem parF_lt {D : Dt} (wn : dn D ≤ 12) {e d : Nat} (h : parF D e = some d) : d < 576 := by
  obtain ⟨t, _, h2, h3, _⟩ := parF_some h
  omega
/-- one that answers e, if its call was misheard -/
noncomputable def cdB (D : Dt) (e d : Nat) : Bool := ctB D d && (decide (parF D d = none) && (decide (tgO D d = some (e / 48)) && (fitB D e d && decide ((dsI D e d : Int) ≤ (dwin D).toInt))))
theorem cdB_iff {D : Dt} {e d : Nat} : cdB D e d = true ↔ ctB D d = true ∧ parF D d = none ∧ tgO D d = some (e / 48) ∧ fitB D e d = true ∧ (dsI D e d : Int) ≤ (dwin D).toInt := by
  unfold cdB
  rw [Bool.and_eq_true, Bool.and_eq_true, Bool.and_eq_true, Bool.and_eq_true, decide_eq_true_iff, decide_eq_true_iff, decide_eq_true_iff]
def rgt (D : Dt) (d : Nat) : Int := (dmo D d).toInt + offX D (d / 48)
def omn (o : Option Int) (r : Int) : Int := match o with
  | none => r
  | some q => if r < q then r else q
noncomputable def mnJ (D : Dt) (e t : Nat) : Nat → Option Int
  | 0 => none
  | j + 1 => if cdB D e (eX t (e / 16 % 3) j) = true then some (omn (mnJ D e t j) (rgt D (eX t (e / 16 % 3) j))) else mnJ D e t j
def cmb (t : Nat) (st : Option (Nat × Int)) (o : Option Int) : Option (Nat × Int) := match o with
  | none => st
  | some r => match st with
    | none => some (t, r)
    | some x => if r < x.2 then some (t, r) else some x
theorem cmb_omn (t : Nat) (st : Option (Nat × Int)) (o : Option Int) (r : Int) : cmb t st (some (omn o r)) = cmb t (cmb t st o) (some r) := by
  cases o with
  | none => rfl
  | some q =>
    cases st with
    | none =>
      show some (t, if r < q then r else q) = if r < q then some (t, r) else some (t, q)
      by_cases c : r < q
      · rw [if_pos c, if_pos c]
      · rw [if_neg c, if_neg c]
    | some x =>
      show (if (if r < q then r else q) < x.2 then some (t, if r < q then r else q) else some x) = cmb t (if q < x.2 then some (t, q) else some x) (some r)
      by_cases c : r < q
      · rw [if_pos c]
        by_cases d : q < x.2
        · rw [if_pos d, if_pos (show r < x.2 by omega)]
          show _ = if r < q then some (t, r) else some (t, q)
          rw [if_pos c]
        · rw [if_neg d]
          rfl
      · rw [if_neg c]
        by_cases d : q < x.2
        · rw [if_pos d]
          show _ = if r < q then some (t, r) else some (t, q)
          rw [if_neg c]
        · rw [if_neg d]
          show _ = if r < x.2 then some (t, r) else some x
          rw [if_neg (by omega)]
noncomputable def mnT (D : Dt) (e : Nat) : Nat → Option (Nat × Int)
  | 0 => none
  | t + 1 => if t ≠ e / 48 ∧ nearB D e t = true then cmb t (mnT D e t) (mnJ D e t 16) else mnT D e t
noncomputable def meaF (D : Dt) (e : Nat) : Option Nat := (mnT D e (dn D)).map Prod.fst
def fOK (D : Dt) : Prop := ∀ s, s < dn D → -11000000000 ≤ offX D s ∧ offX D s ≤ 11000000000
theorem rgt_bd {D : Dt} (w : WgL D) (wn : dn D ≤ 12) (of : fOK D) {d : Nat} (hd : d < 576) (c : ctB D d = true) : -20000000000 ≤ rgt D d ∧ rgt D d ≤ 21000000000 := by
  obtain ⟨w1, w2⟩ := (ct_W w hd c).2.1
  have := ct_lt w wn hd c
  have := of (d / 48) (by omega)
  unfold rgt
  omega
theorem mnJ_bd {D : Dt} (w : WgL D) (wn : dn D ≤ 12) (of : fOK D) {e t : Nat} (ht : t < dn D) : ∀ j, j ≤ 16 → ∀ r, mnJ D e t j = some r → -20000000000 ≤ r ∧ r ≤ 21000000000 := by
  intro j
  induction j with
  | zero => intro _ r h; cases h
  | succ j ih =>
    intro hj r h
    have h : (if cdB D e (eX t (e / 16 % 3) j) = true then some (omn (mnJ D e t j) (rgt D (eX t (e / 16 % 3) j))) else mnJ D e t j) = some r := h
    by_cases c : cdB D e (eX t (e / 16 % 3) j) = true
    · rw [if_pos c] at h
      have b := rgt_bd w wn of (show eX t (e / 16 % 3) j < 576 by unfold eX; omega) (cdB_iff.mp c).1
      cases h
      cases hq : mnJ D e t j with
      | none => exact b
      | some q =>
        have b2 := ih (by omega) q hq
        unfold omn
        dsimp only
        split
        · exact b
        · exact b2
    · rw [if_neg c] at h
      exact ih (by omega) r h
theorem mnT_bd {D : Dt} (w : WgL D) (wn : dn D ≤ 12) (of : fOK D) {e : Nat} : ∀ t, t ≤ dn D → ∀ x, mnT D e t = some x → x.1 < t ∧ -20000000000 ≤ x.2 ∧ x.2 ≤ 21000000000 := by
  intro t
  induction t with
  | zero => intro _ x h; cases h
  | succ t ih =>
    intro ht x h
    have h : (if t ≠ e / 48 ∧ nearB D e t = true then cmb t (mnT D e t) (mnJ D e t 16) else mnT D e t) = some x := h
    have old : mnT D e t = some x → x.1 < t + 1 ∧ -20000000000 ≤ x.2 ∧ x.2 ≤ 21000000000 := fun z => by have := ih (by omega) x z; omega
    by_cases c : t ≠ e / 48 ∧ nearB D e t = true
    · rw [if_pos c] at h
      cases hj : mnJ D e t 16 with
      | none => rw [hj] at h; exact old h
      | some r =>
        have b := mnJ_bd w wn of (show t < dn D by omega) 16 (by omega) r hj
        rw [hj] at h
        cases hm : mnT D e t with
        | none =>
          rw [hm] at h
          cases h
          exact ⟨Nat.lt_succ_self _, b⟩
        | some y =>
          rw [hm] at h
          have h : (if r < y.2 then some (t, r) else some y) = some x := h
          by_cases d : r < y.2
          · rw [if_pos d] at h
            cases h
            exact ⟨Nat.lt_succ_self _, b⟩
          · rw [if_neg d] at h
            exact old (by rw [hm, h])
    · rw [if_neg c] at h
      exact old h
theorem meaF_lt {D : Dt} (w : WgL D) (wn : dn D ≤ 12) (of : fOK D) {e t : Nat} (h : meaF D e = some t) : t < dn D := by
  unfold meaF at h
  cases hm : mnT D e (dn D) with
  | none => rw [hm] at h; cases h
  | some x =>
    rw [hm] at h
    cases h
    exact (mnT_bd w wn of (dn D) (Nat.le_refl _) x hm).1
/-! the reference -/
def MsM (x3 : Int32) (x4 : Int64) (st : Option (Nat × Int)) : Prop := x3 = oI (st.map Prod.fst) ∧ ∀ y, st = some y → x4.toInt = y.2 ∧ y.1 < 12
section
variable {m : Nat} {ar : Nat → Nat} {N : Nat} {D : Dt}
theorem CkM.ok {h : IH} (ck : CkM h ar D) : fOK D := fun s hs => (ck.2.1 s hs).2
theorem meantM {h : IH} (S : ShM h m ar) (hN : 2000 ≤ N) (gs : MgS h m ar D) (gL : MgL h m ar D) (gP : MgP h m ar D) (wS : WgS D) (w : WgL D) (wP : WgP D) (ck : CkM h ar D) {e : Nat} (he : e < 576) (ce : ctB D e = true) : s_X12_meantBy N h m (nI e) = some (oI (meaF D e)) := by
  have wn := wS.1
  have fo := ck.ok
  have e48 : e / 48 < dn D := by have := ct_lt w wn he ce; omega
  have be := (ct_W w he ce).2.1
  obtain ⟨be1, be2⟩ := be
  have oe := ck.2.1 (e / 48) e48
  have ee := enM gL he ce
  have eW : fI h (1200 + 21) m = dwin D := gP.1
  have inj : ∀ d, oI (tgO D d) = nI (e / 48) ↔ tgO D d = some (e / 48) := fun d => oI_inj (fun u hu => by have := (tg_lt hu).1; omega) (by omega)
  have L1 : ∀ t, t < dn D → ∀ (st : Option (Nat × Int)) (r j z : Nat) (x3 : Int32) (x4 : Int64), (∀ y, st = some y → y.1 < 12) → j + r = 16 → r < z → MsM x3 x4 (cmb t st (mnJ D e t j)) → ∃ y, s_X12_meantBy_L62 N z m (nI e) (nI (e / 48)) x3 x4 (nI t) (nI (eX t (e / 16 % 3) 0)) (nI (eX t (e / 16 % 3) j)) h = some y ∧ MsM y.1 y.2 (cmb t st (mnJ D e t 16)) := by
    intro t ht st r
    have ot := ck.2.1 t ht
    induction r with
    | zero =>
      intro j z x3 x4 hst hj hz q
      obtain ⟨z, rfl⟩ : ∃ y, z = y + 1 := ⟨z - 1, by omega⟩
      have : j = 16 := by omega
      subst this
      rw [s_X12_meantBy_L62.eq_2, show (16 : Int32) = nI 16 from rfl, nI_add, if_pos (show nI (eX t (e / 16 % 3) 0 + 16) ≤ nI (eX t (e / 16 % 3) 16) from nI_le (by unfold eX; omega) (by unfold eX; omega))]
      exact ⟨(x3, x4), rfl, q⟩
    | succ r ih =>
      intro j z x3 x4 hst hj hz q
      obtain ⟨z, rfl⟩ : ∃ y, z = y + 1 := ⟨z - 1, by omega⟩
      have hd : eX t (e / 16 % 3) j < 576 := by unfold eX; omega
      have d48 : eX t (e / 16 % 3) j / 48 = t := by unfold eX; omega
      have nx : nI (eX t (e / 16 % 3) j) + 1 = nI (eX t (e / 16 % 3) (j + 1)) := by rw [nI_1]; rfl
      have eJ : mnJ D e t (j + 1) = if cdB D e (eX t (e / 16 % 3) j) = true then some (omn (mnJ D e t j) (rgt D (eX t (e / 16 % 3) j))) else mnJ D e t j := rfl
      have skip : cdB D e (eX t (e / 16 % 3) j) = false → ∃ y, s_X12_meantBy_L62 N z m (nI e) (nI (e / 48)) x3 x4 (nI t) (nI (eX t (e / 16 % 3) 0)) (nI (eX t (e / 16 % 3) (j + 1))) h = some y ∧ MsM y.1 y.2 (cmb t st (mnJ D e t 16)) := fun hx => by
        rw [hx, if_neg (by decide)] at eJ
        exact ih (j + 1) z x3 x4 hst (by omega) (by omega) (by rw [eJ]; exact q)
      have nocd : ∀ (p : Prop), (cdB D e (eX t (e / 16 % 3) j) = true → p) → ¬ p → cdB D e (eX t (e / 16 % 3) j) = false := fun p h1 h2 => by
        cases c : cdB D e (eX t (e / 16 % 3) j) with
        | false => rfl
        | true => exact absurd (h1 c) h2
      rw [s_X12_meantBy_L62.eq_2, show (16 : Int32) = nI 16 from rfl, nI_add, if_neg (show ¬ nI (eX t (e / 16 % 3) 0 + 16) ≤ nI (eX t (e / 16 % 3) j) from nI_ge (by unfold eX; omega) (by unfold eX; omega)), mV12 S, isContactM S gL w hd, Option.bind_some, nx]
      cases c1 : ctB D (eX t (e / 16 % 3) j) with
      | false =>
        rw [if_pos (show bI false = 0 from rfl), Option.bind_some]
        exact skip (nocd _ (fun z => (cdB_iff.mp z).1) (by rw [c1]; decide))
      | true =>
        have ed := enM gL hd c1
        obtain ⟨bd1, bd2⟩ := (ct_W w hd c1).2.1
        rw [if_neg (show ¬ bI true = 0 by decide), mgR 19 S (by decide), Option.bind_some, maI 19 _ S (by decide) (show eX t (e / 16 % 3) j < 576 from hd), Option.bind_some, ck.2.2 _ hd]
        cases c2 : parF D (eX t (e / 16 % 3) j) with
        | some d' =>
          have := parF_lt wn c2
          rw [if_pos (show 0 ≤ oI (some d') from nI_pos' (by omega)), Option.bind_some]
          exact skip (nocd _ (fun z => (cdB_iff.mp z).2.1) (by rw [c2]; exact fun z => by cases z))
        | none =>
          rw [if_neg (show ¬ 0 ≤ oI none by decide), mgR 18 S (by decide), Option.bind_some, maI 18 _ S (by decide) (show eX t (e / 16 % 3) j < 576 from hd), Option.bind_some, ck.1 _ hd]
          by_cases c3 : tgO D (eX t (e / 16 % 3) j) = some (e / 48)
          · rw [if_pos ((inj _).mpr c3), mV12 S, fitM S gL he hd ce c1, Option.bind_some]
            cases c4 : fitB D e (eX t (e / 16 % 3) j) with
            | false =>
              rw [if_pos (show bI false = 0 from rfl), Option.bind_some]
              exact skip (nocd _ (fun z => (cdB_iff.mp z).2.2.2.1) (by rw [c4]; decide))
            | true =>
              have ea1 : (dmo D e + rL h (ar 20) (e / 48)).toInt = (dmo D e).toInt + offX D (e / 48) := by rw [la (by rw [oe.1]; omega) (by rw [oe.1]; omega), oe.1]
              have ea2 : (dmo D (eX t (e / 16 % 3) j) + rL h (ar 20) t).toInt = rgt D (eX t (e / 16 % 3) j) := by
                unfold rgt
                rw [d48, la (by rw [ot.1]; omega) (by rw [ot.1]; omega), ot.1]
              have rb := rgt_bd w wn fo hd c1
              obtain ⟨y, ey, hy⟩ := apartM h (a := dmo D e + rL h (ar 20) (e / 48)) (b := dmo D (eX t (e / 16 % 3) j) + rL h (ar 20) t) (by omega) (by omega) (by omega) (by omega)
              have hy' : y.toInt = (dsI D e (eX t (e / 16 % 3) j) : Int) := by
                rw [hy, ea1, ea2]
                rfl
              rw [if_neg (show ¬ bI true = 0 by decide), mgR 11 S (by decide), Option.bind_some, maJ 11 _ S (by decide) (show eX t (e / 16 % 3) j < 576 from hd), Option.bind_some, ed.2.1, mgR 20 S (by decide), Option.bind_some, maJ 20 t S (by decide) (show t < 12 by omega), Option.bind_some, Option.bind_some, maJ 11 e S (by decide) (show e < 576 from he), Option.bind_some, ee.2.1, Option.bind_some, maJ 20 (e / 48) S (by decide) (show e / 48 < 12 by omega), Option.bind_some, ey, Option.bind_some, mgI 21 S.1, Option.bind_some, eW]
              have cmp : 0 < lg_cmp y (dwin D).toInt64 ↔ (dwin D).toInt < (dsI D e (eX t (e / 16 % 3) j) : Int) := by rw [lc_gt, lLt, il, hy']
              by_cases c5 : (dwin D).toInt < (dsI D e (eX t (e / 16 % 3) j) : Int)
              · rw [if_pos (cmp.mpr c5), Option.bind_some]
                exact skip (nocd _ (fun z => (cdB_iff.mp z).2.2.2.2) (by omega))
              · have hcd : cdB D e (eX t (e / 16 % 3) j) = true := cdB_iff.mpr ⟨c1, c2, c3, c4, by omega⟩
                rw [hcd, if_pos rfl] at eJ
                rw [if_neg (fun z => c5 (cmp.mp z))]
                -- the new state
                have es := cmb_omn t st (mnJ D e t j) (rgt D (eX t (e / 16 % 3) j))
                cases hs : cmb t st (mnJ D e t j) with
                | none =>
                  rw [hs] at q es
                  have q1 : x3 = oI none := q.1
                  rw [q1, if_pos oI_none, Option.bind_some]
                  refine ih (j + 1) z _ _ hst (by omega) (by omega) ?_
                  rw [eJ, es]
                  exact ⟨rfl, fun y hy => by cases hy; exact ⟨ea2, by show t < 12; omega⟩⟩
                | some x =>
                  rw [hs] at q es
                  have q1 : x3 = nI x.1 := q.1
                  obtain ⟨q2, q3⟩ := q.2 x rfl
                  rw [q1, if_neg (nI_pos (by omega))]
                  have cm : lg_cmp (dmo D (eX t (e / 16 % 3) j) + rL h (ar 20) t) x4 < 0 ↔ rgt D (eX t (e / 16 % 3) j) < x.2 := by rw [lc_lt, lLt, ea2, q2]
                  have es : cmb t st (some (omn (mnJ D e t j) (rgt D (eX t (e / 16 % 3) j)))) = if rgt D (eX t (e / 16 % 3) j) < x.2 then some (t, rgt D (eX t (e / 16 % 3) j)) else some x := es
                  by_cases c6 : rgt D (eX t (e / 16 % 3) j) < x.2
                  · rw [if_pos (cm.mpr c6), Option.bind_some]
                    rw [if_pos c6] at es
                    refine ih (j + 1) z _ _ hst (by omega) (by omega) ?_
                    rw [eJ, es]
                    exact ⟨rfl, fun y hy => by cases hy; exact ⟨ea2, by show t < 12; omega⟩⟩
                  · rw [if_neg (fun z => c6 (cm.mp z)), Option.bind_some]
                    rw [if_neg c6] at es
                    refine ih (j + 1) z _ _ hst (by omega) (by omega) ?_
                    rw [eJ, es]
                    exact ⟨rfl, fun y hy => by cases hy; exact ⟨q2, q3⟩⟩
          · rw [if_neg (fun z => c3 ((inj _).mp z)), Option.bind_some]
            exact skip (nocd _ (fun z => (cdB_iff.mp z).2.2.1) c3)
  have L2 : ∀ (r t z : Nat) (x3 : Int32) (x4 : Int64), t + r = dn D → r < z → MsM x3 x4 (mnT D e t) → s_X12_meantBy_L13 N z m (nI e) (nI (e / 48)) x3 x4 (nI t) h = some (oI (meaF D e)) := by
    intro r
    induction r with
    | zero =>
      intro t z x3 x4 ht hz q
      obtain ⟨z, rfl⟩ : ∃ y, z = y + 1 := ⟨z - 1, by omega⟩
      have e1 : fI h (1200 + 1) m = nI (dn D) := gs.1
      rw [s_X12_meantBy_L13.eq_2, mgI 1 S.1, Option.bind_some, e1, if_pos (nI_le (by omega) (by omega)), q.1]
      unfold meaF
      rw [show t = dn D by omega]
    | succ r ih =>
      intro t z x3 x4 ht hz q
      obtain ⟨z, rfl⟩ : ∃ y, z = y + 1 := ⟨z - 1, by omega⟩
      have e1 : fI h (1200 + 1) m = nI (dn D) := gs.1
      have eT : mnT D e (t + 1) = if t ≠ e / 48 ∧ nearB D e t = true then cmb t (mnT D e t) (mnJ D e t 16) else mnT D e t := rfl
      rw [s_X12_meantBy_L13.eq_2, mgI 1 S.1, Option.bind_some, e1, if_neg (nI_ge (by omega) (by omega)), nI_1]
      by_cases c1 : t = e / 48
      · rw [if_pos (by rw [c1]), Option.bind_some]
        rw [if_neg (fun z => z.1 c1)] at eT
        exact ih (t + 1) z x3 x4 (by omega) (by omega) (by rw [eT]; exact q)
      · rw [if_neg (fun z => c1 ((nI_eq (by omega) (by omega)).mp z)), mV12 S, isNearM S hN gs gL wS w he ce (show t < dn D by omega), Option.bind_some]
        cases c2 : nearB D e t with
        | false =>
          rw [if_pos (show bI false = 0 from rfl), Option.bind_some]
          rw [if_neg (fun z => by rw [c2] at z; cases z.2)] at eT
          exact ih (t + 1) z x3 x4 (by omega) (by omega) (by rw [eT]; exact q)
        | true =>
          rw [if_neg (show ¬ bI true = 0 by decide), firstM he (show t < 12 by omega)]
          rw [if_pos ⟨c1, c2⟩] at eT
          obtain ⟨y, ey, hy⟩ := L1 t (by omega) (mnT D e t) 16 0 N x3 x4 (fun y hy => by have := (mnT_bd w wn fo t (by omega) y hy).1; omega) (by omega) (by omega) q
          have ey : s_X12_meantBy_L62 N N m (nI e) (nI (e / 48)) x3 x4 (nI t) (nI (16 * (3 * t + e / 16 % 3))) (nI (16 * (3 * t + e / 16 % 3))) h = some y := ey
          rw [ey, Option.bind_some, Option.bind_some]
          exact ih (t + 1) z y.1 y.2 (by omega) (by omega) (by rw [eT]; exact hy)
  have e0 := L2 (dn D) 0 N (-1) 0 (by omega) (by omega) ⟨rfl, fun y hy => by cases hy⟩
  unfold s_X12_meantBy
  rw [show (48 : Int32) = nI 48 from rfl, nI_div (by omega) (by omega) (by omega)]
  rw [nI_0] at e0
  rw [e0, Option.bind_some]
end
