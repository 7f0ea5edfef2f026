/-- the best so far, in the reference's words: its number and whether there is one -/
def BsM (x3 : Int64) (x5 : Int32) (b : Option Int) : Prop := x3.toInt = b.getD 0 ∧ (b = none → x5 = 0) ∧ (∀ y, b = some y → x5 = 1) ∧ -11000000000 ≤ x3.toInt ∧ x3.toInt ≤ 11000000000
theorem plainM (h : IH) {x : Int64} (hx : -9223372036854775808 < x.toInt) : ∃ y, s_X12_plain h x = some y ∧ y.toInt = (x.toInt.natAbs : Int) := absJ h hx
section
variable {h : IH} {m : Nat} {ar : Nat → Nat} {D : Dt} {N s : Nat}
theorem sideM (S : ShM h m ar) (hN : 2000 ≤ N) (gL : MgL h m ar D) (gP : MgP h m ar D) (tg : TgM h ar D) (w : WgL D) (wn : dn D ≤ 12) (wP : WgP D) (hs : s < dn D) {c d : Nat} (hc : c < 576) (hd : d < 576) (cc : ctB D c = true) (cd : ctB D d = true) (x7 : Int32) (x3 : Int64) (x5 : Int32) (b : Option Int) (q : BsM x3 x5 b) : ∃ r, s_X12_offsetOf_L216 N N m (nI s) (nI (mny D s)) x3 x5 (nI c) x7 (nI d) (-1) h = some r ∧ BsM r.1 r.2 (([(dmo D d - dmo D c).toInt - (dwin D).toInt, (dmo D d - dmo D c).toInt + (dwin D).toInt] : List Int).foldl (scS (okO D s)) b) := by
  obtain ⟨w1, w2⟩ := wP.1
  have gb := gap_bd w hc hd cc cd
  have ec := enM gL hc cc
  have ed := enM gL hd cd
  have eW : fI h (1200 + 21) m = dwin D := gP.1
  obtain ⟨z, rfl⟩ : ∃ z, N = z + 1 + 1 + 1 := ⟨N - 3, by omega⟩
  -- one side
  have one : ∀ (y : Nat) (sd : Int32) (o : Int) (x3 : Int64) (x5 : Int32) (b : Option Int), sd = -1 ∨ sd = 1 → o = (dmo D d - dmo D c).toInt + sd.toInt * (dwin D).toInt → BsM x3 x5 b → ∃ x3' x5', s_X12_offsetOf_L216 (z + 1 + 1 + 1) (y + 1) m (nI s) (nI (mny D s)) x3 x5 (nI c) x7 (nI d) sd h = s_X12_offsetOf_L216 (z + 1 + 1 + 1) y m (nI s) (nI (mny D s)) x3' x5' (nI c) x7 (nI d) (sd + 2) h ∧ BsM x3' x5' (scS (okO D s) b o) := by
    intro y sd o x3 x5 b hsd ho q
    have hsi : sd.toInt = -1 ∨ sd.toInt = 1 := by rcases hsd with e | e <;> subst e <;> decide
    have hob : -10000003600 ≤ o ∧ o ≤ 10000003600 := by
      rcases hsi with e | e <;> rw [e] at ho <;> omega
    have em : (sd.toInt64 * (dwin D).toInt64).toInt = sd.toInt * (dwin D).toInt := by
      rw [lm (by rw [il, il]; rcases hsi with e | e <;> rw [e] <;> omega) (by rw [il, il]; rcases hsi with e | e <;> rw [e] <;> omega), il, il]
    generalize hO : (dmo D d - dmo D c) + (sd.toInt64 * (dwin D).toInt64) = O
    have eO : O.toInt = o := by
      rw [← hO, ho, ← em]
      apply la
      · rw [em]
        rcases hsi with e | e <;> rw [e] <;> omega
      · rw [em]
        rcases hsi with e | e <;> rw [e] <;> omega
    have c2 : ¬ (2 : Int32) ≤ sd := by rcases hsd with e | e <;> subst e <;> decide
    obtain ⟨ya, ea, ha⟩ := plainM h (x := O) (by omega)
    obtain ⟨yb, eb, hb⟩ := plainM h (x := x3) (by have := q.2.2.2.1; omega)
    rw [s_X12_offsetOf_L216.eq_2, if_neg c2, mgR 11 S (by decide), Option.bind_some, maJ 11 d S (by decide) (show d < 576 by omega), Option.bind_some, ed.2.1, Option.bind_some, maJ 11 c S (by decide) (show c < 576 by omega), Option.bind_some, ec.2.1, mgI 21 S.1, Option.bind_some, eW, hO, ea, eb, Option.bind_some, Option.bind_some, Option.bind_some, Option.bind_some]
    have e1 : (lg_cmp ya yb < 0) ↔ o.natAbs < (b.getD 0).natAbs := by rw [lc_lt, lLt, ha, hb, eO, q.1]; omega
    have e2 : (lg_cmp ya yb = 0) ↔ o.natAbs = (b.getD 0).natAbs := by rw [lc_eq, lEq, ha, hb, eO, q.1]; omega
    have e3 : (0 ≤ lg_cmp O x3) ↔ ¬ o < b.getD 0 := by
      have e : (0 ≤ lg_cmp O x3) ↔ ¬ (lg_cmp O x3 < 0) := by rw [iLe, iLt]; omega
      rw [e, lc_lt, lLt, eO, q.1]
    have less : ((if x5 = 0 then some 1 else if lg_cmp ya yb < 0 then some 1 else if lg_cmp ya yb = 0 then if 0 ≤ lg_cmp O x3 then some 0 else some 1 else some 0) : Option Int32) = some (bI (nrO b o)) := by
      cases hbb : b with
      | none =>
        rw [if_pos (q.2.1 hbb)]
        rfl
      | some y =>
        rw [if_neg (by rw [q.2.2.1 y hbb]; decide)]
        rw [hbb] at e1 e2 e3
        have en : nrO (some y) o = decide (o.natAbs < y.natAbs ∨ (o.natAbs = y.natAbs ∧ o < y)) := rfl
        rw [en]
        have e1 : (lg_cmp ya yb < 0) ↔ o.natAbs < y.natAbs := e1
        have e2 : (lg_cmp ya yb = 0) ↔ o.natAbs = y.natAbs := e2
        have e3 : (0 ≤ lg_cmp O x3) ↔ ¬ o < y := e3
        by_cases d1 : o.natAbs < y.natAbs
        · rw [if_pos (e1.mpr d1), decide_eq_true (Or.inl d1)]
          rfl
        · rw [if_neg (fun z => d1 (e1.mp z))]
          by_cases d2 : o.natAbs = y.natAbs
          · rw [if_pos (e2.mpr d2)]
            by_cases d3 : o < y
            · rw [if_neg (fun z => e3.mp z d3), decide_eq_true (Or.inr ⟨d2, d3⟩)]
              rfl
            · rw [if_pos (e3.mpr d3), decide_eq_false (fun z => by
                rcases z with z | z
                · exact d1 z
                · exact d3 z.2)]
              rfl
          · rw [if_neg (fun z => d2 (e2.mp z)), decide_eq_false (fun z => by
              rcases z with z | z
              · exact d1 z
              · exact d2 z.1)]
            rfl
    rw [less, Option.bind_some]
    have es : scS (okO D s) b o = if nrO b o && okO D s o then some o else b := rfl
    rw [es]
    have ag := agreeM S hN gL gP tg w wn wP hs O (by rw [eO]; omega) (by rw [eO]; omega)
    rw [eO] at ag
    have ha2 : agr D s o ≤ 48 := cnt_le (fun j => agB D s (48 * s + j) o) 48
    have hm2 : mny D s ≤ 48 := cnt_le (fun k => mnB D s (48 * s + k)) 48
    cases hno : nrO b o with
    | false =>
      rw [if_pos (show bI false = 0 from rfl), Option.bind_some, Bool.false_and, if_neg (by decide)]
      exact ⟨x3, x5, rfl, q⟩
    | true =>
      rw [if_neg (show ¬ bI true = 0 by decide), mV12 S, ag, Option.bind_some, show (2 : Int32) = nI 2 from rfl, nI_mul, Bool.true_and]
      unfold okO
      by_cases ck : mny D s < 2 * agr D s o
      · rw [if_neg (nI_ge ck (by omega)), Option.bind_some, decide_eq_true ck, if_pos rfl]
        exact ⟨O, 1, rfl, eO, fun z => (by cases z), fun y hy => rfl, by rw [eO]; omega, by rw [eO]; omega⟩
      · rw [if_pos (nI_le (by omega) (by omega)), Option.bind_some, decide_eq_false ck, if_neg (by decide)]
        exact ⟨x3, x5, rfl, q⟩
  obtain ⟨a1, a2, a3, a4⟩ := one (z + 1 + 1) (-1) ((dmo D d - dmo D c).toInt - (dwin D).toInt) x3 x5 b (Or.inl rfl) (by have : (-1 : Int32).toInt = -1 := rfl; rw [this]; omega) q
  have t1 : (-1 + 2 : Int32).toInt = 1 := by decide
  obtain ⟨b1, b2, b3, b4⟩ := one (z + 1) (-1 + 2) ((dmo D d - dmo D c).toInt + (dwin D).toInt) a1 a2 _ (Or.inr (by decide)) (by rw [t1]; omega) a4
  rw [a3, b3, s_X12_offsetOf_L216.eq_2, if_pos (by decide)]
  exact ⟨(b1, b2), rfl, b4⟩
theorem scanM (S : ShM h m ar) (hN : 2000 ≤ N) (gL : MgL h m ar D) (gP : MgP h m ar D) (tg : TgM h ar D) (w : WgL D) (wn : dn D ≤ 12) (wP : WgP D) (hs : s < dn D) : ∃ v, s_X12_offsetOf_L97 N N m (nI s) (nI (mny D s)) 0 0 (48 * nI s) h = some v ∧ v.toInt = ((lsM D s 48).foldl (scS (okO D s)) none).getD 0 ∧ -11000000000 ≤ v.toInt ∧ v.toInt ≤ 11000000000 := by
  have L1 : ∀ (c t : Nat), c < 576 → t < dn D → ctB D c = true → ∀ (r k z : Nat) (x3 : Int64) (x5 : Int32) (b : Option Int), k + r = 16 → r < z → BsM x3 x5 (((gpJ D s c t (c / 16 % 3) k).flatMap (fun g => [g.toInt - (dwin D).toInt, g.toInt + (dwin D).toInt])).foldl (scS (okO D s)) b) → ∃ y, s_X12_offsetOf_L169 N z m (nI s) (nI (mny D s)) x3 x5 (nI c) (nI (16 * (3 * t + c / 16 % 3))) (nI (16 * (3 * t + c / 16 % 3) + k)) h = some y ∧ BsM y.1 y.2 (((gpJ D s c t (c / 16 % 3) 16).flatMap (fun g => [g.toInt - (dwin D).toInt, g.toInt + (dwin D).toInt])).foldl (scS (okO D s)) b) := by
    intro c t hc ht cc r
    induction r with
    | zero =>
      intro k z x3 x5 b hk hz q
      obtain ⟨z, rfl⟩ : ∃ y, z = y + 1 := ⟨z - 1, by omega⟩
      have : k = 16 := by omega
      subst this
      rw [s_X12_offsetOf_L169.eq_2, show (16 : Int32) = nI 16 from rfl, nI_add, if_pos (nI_le (Nat.le_refl _) (by omega))]
      exact ⟨(x3, x5), rfl, q⟩
    | succ r ih =>
      intro k z x3 x5 b hk hz q
      obtain ⟨z, rfl⟩ : ∃ y, z = y + 1 := ⟨z - 1, by omega⟩
      have hd : 16 * (3 * t + c / 16 % 3) + k < 576 := by omega
      have nx : 16 * (3 * t + c / 16 % 3) + k + 1 = 16 * (3 * t + c / 16 % 3) + (k + 1) := by omega
      have inj := oI_inj (o := tgO D (16 * (3 * t + c / 16 % 3) + k)) (t := s) (fun u hu => by have := (tg_lt hu).1; omega) (by omega)
      rw [s_X12_offsetOf_L169.eq_2, show (16 : Int32) = nI 16 from rfl, nI_add, if_neg (nI_ge (by omega) (by omega)), mV12 S, isContactM S gL w hd, Option.bind_some, nI_1, nx]
      have skip : ¬ (ctB D (16 * (3 * t + c / 16 % 3) + k) = true ∧ tgO D (16 * (3 * t + c / 16 % 3) + k) = some s ∧ fitB D c (16 * (3 * t + c / 16 % 3) + k) = true) → ∃ y, s_X12_offsetOf_L169 N z m (nI s) (nI (mny D s)) x3 x5 (nI c) (nI (16 * (3 * t + c / 16 % 3))) (nI (16 * (3 * t + c / 16 % 3) + (k + 1))) h = some y ∧ BsM y.1 y.2 (((gpJ D s c t (c / 16 % 3) 16).flatMap (fun g => [g.toInt - (dwin D).toInt, g.toInt + (dwin D).toInt])).foldl (scS (okO D s)) b) := by
        intro p
        refine ih (k + 1) z x3 x5 b (by omega) (by omega) ?_
        have e0 : gpJ D s c t (c / 16 % 3) (k + 1) = gpJ D s c t (c / 16 % 3) k := by
          show gpJ D s c t (c / 16 % 3) k ++ _ = _
          rw [if_neg p, List.append_nil]
        rw [e0]
        exact q
      cases hcd : ctB D (16 * (3 * t + c / 16 % 3) + k) with
      | false =>
        rw [if_pos (show bI false = 0 from rfl), Option.bind_some]
        exact skip (fun z => by rw [hcd] at z; cases z.1)
      | true =>
        rw [if_neg (show ¬ bI true = 0 by decide), mgR 18 S (by decide), Option.bind_some, maI 18 _ S (by decide) (show 16 * (3 * t + c / 16 % 3) + k < 576 by omega), Option.bind_some, tg _ hd]
        by_cases c2 : tgO D (16 * (3 * t + c / 16 % 3) + k) = some s
        · rw [if_pos (inj.mpr c2), mV12 S, fitM S gL hc hd cc hcd, Option.bind_some]
          cases c3 : fitB D c (16 * (3 * t + c / 16 % 3) + k) with
          | false =>
            rw [if_pos (show bI false = 0 from rfl), Option.bind_some]
            exact skip (fun z => by rw [c3] at z; cases z.2.2)
          | true =>
            obtain ⟨y, e1, e2⟩ := sideM S hN gL gP tg w wn wP hs hc hd cc hcd (nI (16 * (3 * t + c / 16 % 3))) x3 x5 _ q
            rw [if_neg (show ¬ bI true = 0 by decide), e1, Option.bind_some, Option.bind_some]
            refine ih (k + 1) z _ _ b (by omega) (by omega) ?_
            have e0 : gpJ D s c t (c / 16 % 3) (k + 1) = gpJ D s c t (c / 16 % 3) k ++ [dmo D (16 * (3 * t + c / 16 % 3) + k) - dmo D c] := by
              show gpJ D s c t (c / 16 % 3) k ++ _ = _
              rw [if_pos ⟨hcd, c2, c3⟩]
            rw [e0, List.flatMap_append, List.foldl_append]
            simpa using e2
        · rw [if_neg (fun z => c2 (inj.mp z)), Option.bind_some]
          exact skip (fun z => c2 z.2.1)
  have L2 : ∀ (r j z : Nat) (x3 : Int64) (x5 : Int32), j + r = 48 → r < z → BsM x3 x5 ((lsM D s j).foldl (scS (okO D s)) none) → ∃ v, s_X12_offsetOf_L97 N z m (nI s) (nI (mny D s)) x3 x5 (nI (48 * s + j)) h = some v ∧ v.toInt = ((lsM D s 48).foldl (scS (okO D s)) none).getD 0 ∧ -11000000000 ≤ v.toInt ∧ v.toInt ≤ 11000000000 := by
    intro r
    induction r with
    | zero =>
      intro j z x3 x5 hj hz q
      obtain ⟨z, rfl⟩ : ∃ y, z = y + 1 := ⟨z - 1, by omega⟩
      have : j = 48 := by omega
      subst this
      rw [s_X12_offsetOf_L97.eq_2, show (48 : Int32) = nI 48 from rfl, nI_mul, nI_add, if_pos (nI_le (Nat.le_refl _) (by omega))]
      exact ⟨x3, rfl, q.1, q.2.2.2⟩
    | succ r ih =>
      intro j z x3 x5 hj hz q
      obtain ⟨z, rfl⟩ : ∃ y, z = y + 1 := ⟨z - 1, by omega⟩
      have hc : 48 * s + j < 576 := by omega
      have c1 : ¬ ((48 * nI s) + 48) ≤ nI (48 * s + j) := by
        rw [show (48 : Int32) = nI 48 from rfl, nI_mul, nI_add]
        exact nI_ge (by omega) (by omega)
      rw [s_X12_offsetOf_L97.eq_2, if_neg c1, mV12 S, isContactM S gL w hc, Option.bind_some, nI_1, show 48 * s + j + 1 = 48 * s + (j + 1) by omega]
      have el : lsM D s (j + 1) = lsM D s j ++ (gpC D s (48 * s + j)).flatMap (fun g => [g.toInt - (dwin D).toInt, g.toInt + (dwin D).toInt]) := rfl
      have skip : gpC D s (48 * s + j) = [] → ∃ v, s_X12_offsetOf_L97 N z m (nI s) (nI (mny D s)) x3 x5 (nI (48 * s + (j + 1))) h = some v ∧ v.toInt = ((lsM D s 48).foldl (scS (okO D s)) none).getD 0 ∧ -11000000000 ≤ v.toInt ∧ v.toInt ≤ 11000000000 := by
        intro p
        refine ih (j + 1) z x3 x5 (by omega) (by omega) ?_
        rw [el, p, List.flatMap_nil, List.append_nil]
        exact q
      cases hcc : ctB D (48 * s + j) with
      | false =>
        rw [if_pos (show bI false = 0 from rfl), Option.bind_some]
        apply skip
        unfold gpC tgO
        rw [hcc]
        rfl
      | true =>
        rw [if_neg (show ¬ bI true = 0 by decide), mgR 18 S (by decide), Option.bind_some, maI 18 _ S (by decide) (show 48 * s + j < 576 by omega), Option.bind_some, tg _ hc]
        cases ht : tgO D (48 * s + j) with
        | none =>
          rw [if_pos oI_none, Option.bind_some]
          apply skip
          unfold gpC
          rw [ht]
        | some t =>
          have htn := (tg_lt ht).1
          have et : oI (some t) = nI t := rfl
          rw [et, if_neg (nI_pos (by omega)), Option.bind_some, maI 18 _ S (by decide) (show 48 * s + j < 576 by omega), Option.bind_some, tg _ hc, ht, et]
          have eg : gpC D s (48 * s + j) = if t = s then [] else gpJ D s (48 * s + j) t ((48 * s + j) / 16 % 3) 16 := by unfold gpC; rw [ht]
          by_cases c : t = s
          · rw [if_pos (show nI t = nI s by rw [c]), Option.bind_some]
            apply skip
            rw [eg, if_pos c]
          · rw [if_neg (fun z => c ((nI_eq (by omega) (by omega)).mp z)), Option.bind_some, maI 18 _ S (by decide) (show 48 * s + j < 576 by omega), Option.bind_some, tg _ hc, ht, et, firstM hc (by omega)]
            obtain ⟨y, e1, e2⟩ := L1 (48 * s + j) t hc htn hcc 16 0 N x3 x5 ((lsM D s j).foldl (scS (okO D s)) none) (by omega) (by omega) q
            rw [Nat.add_zero] at e1
            rw [e1, Option.bind_some, Option.bind_some]
            refine ih (j + 1) z _ _ (by omega) (by omega) ?_
            rw [el, List.foldl_append, eg, if_neg c]
            exact e2
  have e := L2 48 0 N 0 0 (by omega) (by omega) ⟨rfl, fun _ => rfl, fun y hy => (by cases hy), by decide, by decide⟩
  rw [Nat.add_zero] at e
  rw [show (48 : Int32) = nI 48 from rfl, nI_mul]
  exact e
theorem offsetM (S : ShM h m ar) (hN : 2000 ≤ N) (g : MgS h m ar D) (gL : MgL h m ar D) (gP : MgP h m ar D) (tg : TgM h ar D) (wS : WgS D) (w : WgL D) (wP : WgP D) (hs : s < dn D) : ∃ v, s_X12_offsetOf N h m (nI s) = some v ∧ v.toInt = offM D s ∧ -11000000000 ≤ v.toInt ∧ v.toInt ≤ 11000000000 := by
  have wn := wS.1
  have z0 : (0 : Int64).toInt = 0 := rfl
  have ag := agreeM S hN gL gP tg w wn wP hs 0 (by decide) (by decide)
  rw [z0] at ag
  have ha2 : agr D s 0 ≤ 48 := cnt_le (fun j => agB D s (48 * s + j) 0) 48
  have hm2 : mny D s ≤ 48 := cnt_le (fun k => mnB D s (48 * s + k)) 48
  unfold s_X12_offsetOf offM
  rw [manyM S hN g gL tg wS w hs, Option.bind_some, mV12 S, ag, Option.bind_some, show (2 : Int32) = nI 2 from rfl, nI_mul]
  cases h0 : okO D s 0 with
  | true =>
    have c : mny D s < 2 * agr D s 0 := of_decide_eq_true h0
    rw [if_neg (nI_ge c (by omega)), if_pos rfl]
    exact ⟨0, rfl, rfl, by decide, by decide⟩
  | false =>
    have c : ¬ mny D s < 2 * agr D s 0 := of_decide_eq_false h0
    rw [if_pos (nI_le (by omega) (by omega)), if_neg (by decide)]
    obtain ⟨v, e, q⟩ := scanM S hN gL gP tg w wn wP hs
    rw [e, Option.bind_some]
    exact ⟨v, rfl, q⟩
end
