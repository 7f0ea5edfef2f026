/-! ===== the value of a rule, worked by the class from the last word back ===== -/
def vJ (o : Option Int32) : Int64 := match o with
  | none => 1099511627776
  | some x => x.toInt64
def rV (D : Dt) (bd : Int32) (s t : Nat) : Option Int32 := (evN (lfV D bd s t (dst D s t)) (dco D) (dR D) 0).getD 0 none
theorem vJ_d (o : Option Int32) : lg_cmp (vJ o) 1099511627776 = 0 ↔ o = none := by
  rw [lc_eq]
  cases o with
  | none => exact ⟨fun _ => rfl, fun _ => rfl⟩
  | some x =>
    refine ⟨fun z => ?_, fun z => by cases z⟩
    have z : x.toInt64 = 1099511627776 := z
    have z := congrArg Int64.toInt z
    rw [il] at z
    have h1 := i32_hi x
    have e : (1099511627776 : Int64).toInt = 1099511627776 := by decide
    omega
theorem vJ_32 (x : Int32) : (vJ (some x)).toInt32 = x := by
  show x.toInt64.toInt32 = x
  have h1 := i32_hi x
  have h2 := i32_lo x
  apply iEq.mpr
  rw [li (by rw [il]; omega) (by rw [il]; omega), il]
theorem vJ_0 (x : Int32) : lg_cmp (vJ (some x)) 0 ≤ 0 ↔ ¬ 0 < x := by
  have e : (lg_cmp (vJ (some x)) 0 ≤ 0) ↔ ¬ (0 < lg_cmp (vJ (some x)) 0) := by rw [iLe, iLt]; omega
  rw [e, lc_gt]
  show ¬ (0 < x.toInt64) ↔ _
  rw [lLt, iLt, il]
  exact Iff.rfl
def StX (h : IH) (A : Nat → Nat) (st : List (Option Int32)) : Prop := fI h 306 (A 8) = nI st.length ∧ ∀ k, k < st.length → rL h (A 12) k = vJ (st.getD (st.length - 1 - k) none)
abbrev FrV (A : Nat → Nat) : IH → IH → Prop := FX A (e1 306) no1 no1 (e1 12)
theorem popX {h : IH} {A : Nat → Nat} {n : Nat} (S : ShX h A n) {v : Option Int32} {st : List (Option Int32)} (k : StX h A (v :: st)) (hl : st.length < 30) : s_X3_pop h (A 8) = some (vJ v, wfI h 306 (A 8) (nI st.length)) ∧ StX (wfI h 306 (A 8) (nI st.length)) A st := by
  have hk := k.1
  rw [List.length_cons] at hk
  have S1 : ShX (wfI h 306 (A 8) (nI st.length)) A n := S
  constructor
  · unfold s_X3_pop
    rw [gX3_6 S, Option.bind_some, hk, if_pos (show (0 : Int32) < nI (st.length + 1) from nI_lt (a := 0) (by omega) (by omega)), Option.bind_some, dec1 (by omega), Nat.add_sub_cancel, pX3_6 S, Option.bind_some, gX3_5 S1, Option.bind_some, gX3_6 S1, Option.bind_some, fI_wfI, aXJ S1 12 (by decide) (by decide) (by decide) (show st.length < LX 12 from hl), Option.bind_some, rL_wfI, k.2 st.length (by rw [List.length_cons]; omega), List.length_cons, show st.length + 1 - 1 - st.length = 0 by omega]
    rfl
  · refine ⟨fI_wfI _ _ _ _, fun i hi => ?_⟩
    rw [rL_wfI, k.2 i (by rw [List.length_cons]; omega), List.length_cons, show st.length + 1 - 1 - i = (st.length - 1 - i) + 1 by omega]
    rfl
theorem pushX {h : IH} {A : Nat → Nat} {n : Nat} (S : ShX h A n) {st : List (Option Int32)} (k : StX h A st) (hl : st.length < 30) (v : Option Int32) : ∃ h', s_X3_push h (A 8) (vJ v) = some h' ∧ FrV A h h' ∧ StX h' A (v :: st) := by
  unfold s_X3_push
  have S1 : ∀ g, ShX (setJ h (A 12) g) A n := fun g => S
  rw [gX3_6 S, Option.bind_some, k.1, if_neg (show ¬ (30 : Int32) ≤ nI st.length from nI_ge (b := 30) hl (by omega)), gX3_5 S, Option.bind_some, Option.bind_some, sXJ S 12 _ (by decide) (by decide) (by decide) (show st.length < LX 12 from hl), Option.bind_some, gX3_6 (S1 _), Option.bind_some, fI_setJ, k.1, nI_1, pX3_6 (S1 _), Option.bind_some, Option.bind_some]
  have g1 : FrV A h (setJ h (A 12) (vp_updL (rL h (A 12)) st.length (vJ v))) := Fr.sJ _ _ _ ⟨12, rfl, rfl⟩
  refine ⟨_, rfl, g1.trans (Fr.wI _ _ _ _ rfl), fI_wfI _ _ _ _, fun i hi => ?_⟩
  rw [List.length_cons] at hi ⊢
  rw [rL_wfI, rL_setJ]
  unfold vp_updL
  by_cases e : i = st.length
  · rw [if_pos e, e, show st.length + 1 - 1 - st.length = 0 by omega]
    rfl
  · rw [if_neg e, k.2 i (by omega), show st.length + 1 - 1 - i = (st.length - 1 - i) + 1 by omega]
    rfl
theorem ev_le (lf : Int32 → Int32) (co : Nat → Int32) : ∀ r i, (evN lf co r i).length ≤ r := by
  intro r
  induction r with
  | zero => intro i; exact Nat.le_refl _
  | succ r ih =>
    intro i
    have e := ih (i + 1)
    unfold evN stV_
    split
    · rw [List.length_cons]
      omega
    · split
      · split
        · rename_i a b d l hq
          rw [hq] at e
          simp at e ⊢
          omega
        · simp
      · split
        · rename_i a b l hq
          rw [hq] at e
          simp at e ⊢
          omega
        · simp
theorem plainX {h : IH} {A : Nat → Nat} {n : Nat} (S : ShX h A n) {D : Dt} {N : Nat} (hN : 2000 ≤ N) (g : XgS h A D) (w : WgS D) (hn : n = dn D) {s t : Nat} (hs : s < dn D) (ht : t < dn D) (bd c : Int32) : s_X3_plainValue N h c bd (some (A (100 + s))) (some (A (100 + t))) = some (lfV D bd s t (dst D s t) c) := by
  have gs := g.2 s hs
  have gt := g.2 t ht
  have hd := distX S hN g w hn hs ht
  subst hn
  unfold s_X3_plainValue lfV
  simp only [vX9 S hs, hd, Option.bind_some, gX9_1 S hs, gX9_1 S ht, gX9_0 S ht, gs.2.1, gt.2.1, gt.1, ite_some]
theorem operX {h : IH} {A : Nat → Nat} {n : Nat} (S : ShX h A n) {a b : Option Int32} {st : List (Option Int32)} (c : Int32) (k : StX h A (a :: b :: st)) (hl : st.length < 28) (h1 : c ≠ -10) (h2 : 0 < arC c) : ∃ h', s_X3_workOperator h (A 8) c = some (vJ (biV c a b), h') ∧ FrV A h h' ∧ StX h' A st := by
  obtain ⟨p1, k1⟩ := popX S k (by rw [List.length_cons]; omega)
  have S1 : ShX (wfI h 306 (A 8) (nI (b :: st).length)) A n := S
  obtain ⟨p2, k2⟩ := popX S1 k1 (by omega)
  have S2 : ShX (wfI (wfI h 306 (A 8) (nI (b :: st).length)) 306 (A 8) (nI st.length)) A n := S
  have fr : FrV A h (wfI (wfI h 306 (A 8) (nI (b :: st).length)) 306 (A 8) (nI st.length)) := by
    have g1 : FrV A h (wfI h 306 (A 8) (nI (b :: st).length)) := Fr.wI _ _ _ _ rfl
    exact g1.trans (Fr.wI _ _ _ _ rfl)
  unfold s_X3_workOperator
  rw [vX3 S, p1, Option.bind_some]
  dsimp only
  rw [vX3 S1, p2, Option.bind_some]
  dsimp only
  rw [if_neg h1]
  cases a with
  | none =>
    rw [if_pos ((vJ_d none).mpr rfl)]
    exact ⟨_, rfl, fr, k2⟩
  | some x =>
    rw [if_neg (fun z => by have := (vJ_d _).mp z; cases this)]
    cases b with
    | none =>
      rw [if_pos ((vJ_d none).mpr rfl)]
      exact ⟨_, rfl, fr, k2⟩
    | some y =>
      rw [if_neg (fun z => by have := (vJ_d _).mp z; cases this), vJ_32, vJ_32]
      unfold biV
      dsimp only
      by_cases c8 : c = -8
      · rw [if_pos c8, if_pos c8]
        exact ⟨_, rfl, fr, k2⟩
      · rw [if_neg c8, if_neg c8]
        by_cases c7 : c = -7
        · rw [if_pos c7, if_pos c7]
          exact ⟨_, rfl, fr, k2⟩
        · rw [if_neg c7, if_neg c7]
          by_cases c6 : c = -6
          · rw [if_pos c6, if_pos c6]
            exact ⟨_, rfl, fr, k2⟩
          · rw [if_neg c6, if_neg c6]
            by_cases y0 : y = 0
            · rw [if_pos y0, if_pos y0, Option.bind_some]
              exact ⟨_, rfl, fr, k2⟩
            · rw [if_neg y0, if_neg y0, if_neg y0, Option.bind_some]
              exact ⟨_, rfl, fr, k2⟩
theorem choiX {h : IH} {A : Nat → Nat} {n : Nat} (S : ShX h A n) {a b d : Option Int32} {st : List (Option Int32)} (k : StX h A (a :: b :: d :: st)) (hl : st.length < 27) : ∃ h', s_X3_workOperator h (A 8) (-10) = some (vJ (chV a b d), h') ∧ FrV A h h' ∧ StX h' A st := by
  obtain ⟨p1, k1⟩ := popX S k (by rw [List.length_cons, List.length_cons]; omega)
  generalize h1e : wfI h 306 (A 8) (nI (b :: d :: st).length) = H1 at p1 k1
  have S1 : ShX H1 A n := by rw [← h1e]; exact S
  have g1 : FrV A h H1 := by rw [← h1e]; exact Fr.wI _ _ _ _ rfl
  obtain ⟨p2, k2⟩ := popX S1 k1 (by rw [List.length_cons]; omega)
  generalize h2e : wfI H1 306 (A 8) (nI (d :: st).length) = H2 at p2 k2
  have S2 : ShX H2 A n := by rw [← h2e]; exact S1
  have g2 : FrV A H1 H2 := by rw [← h2e]; exact Fr.wI _ _ _ _ rfl
  obtain ⟨p3, k3⟩ := popX S2 k2 (by omega)
  generalize h3e : wfI H2 306 (A 8) (nI st.length) = H3 at p3 k3
  have g3 : FrV A H2 H3 := by rw [← h3e]; exact Fr.wI _ _ _ _ rfl
  have fr := (g1.trans g2).trans g3
  unfold s_X3_workOperator
  rw [vX3 S, p1, Option.bind_some]
  dsimp only
  rw [vX3 S1, p2, Option.bind_some]
  dsimp only
  rw [if_pos rfl, vX3 S2, p3, Option.bind_some]
  dsimp only
  unfold chV
  cases a with
  | none =>
    rw [if_pos ((vJ_d none).mpr rfl), Option.bind_some]
    exact ⟨_, rfl, fr, k3⟩
  | some x =>
    rw [if_neg (fun z => by have := (vJ_d _).mp z; cases this)]
    dsimp only
    by_cases x0 : 0 < x
    · rw [if_neg (fun z => ((vJ_0 x).mp z) x0), if_pos x0, Option.bind_some]
      exact ⟨_, rfl, fr, k3⟩
    · rw [if_pos ((vJ_0 x).mpr x0), if_neg x0, Option.bind_some]
      exact ⟨_, rfl, fr, k3⟩
theorem ar3 {c : Int32} (h : arC c = 3) : c = -10 := by
  unfold arC at h
  by_cases q : c = -10
  · exact q
  · rw [if_neg q] at h
    split at h <;> omega
theorem arn {c : Int32} (h : arC c ≠ 3) : c ≠ -10 := fun z => h (by rw [z]; decide)
theorem valX {h : IH} {A : Nat → Nat} {n : Nat} (S : ShX h A n) {D : Dt} {N : Nat} (hN : 2000 ≤ N) (g : XgS h A D) (gR : XgR h A D) (w : WgS D) (wR : WgR D) (hn : n = dn D) {s t : Nat} (hs : s < dn D) (ht : t < dn D) (bd : Int32) : ∃ h', s_X3_valueFor N h (A 8) bd (some (A (100 + s))) (some (A (100 + t))) = some (vJ (rV D bd s t), h') ∧ FrV A h h' := by
  have hR := wR.2.1
  have e12 : lvR n no1 := fun i z => z.elim
  have L : ∀ j z (H : IH), j ≤ dR D → j < z → FrV A h H → StX H A (evN (lfV D bd s t (dst D s t)) (dco D) (dR D - j) j) → ∃ h', s_X3_valueFor_L19 N z (A 8) bd (some (A (100 + s))) (some (A (100 + t))) (nI j - 1) H = some h' ∧ FrV A h h' ∧ StX h' A (evN (lfV D bd s t (dst D s t)) (dco D) (dR D) 0) := by
    intro j
    induction j with
    | zero =>
      intro z H hj hz fr k
      obtain ⟨z, rfl⟩ : ∃ y, z = y + 1 := ⟨z - 1, by omega⟩
      rw [s_X3_valueFor_L19.eq_2, if_pos (by decide)]
      exact ⟨H, rfl, fr, k⟩
    | succ j ih =>
      intro z H hj hz fr k
      obtain ⟨z, rfl⟩ : ∃ y, z = y + 1 := ⟨z - 1, by omega⟩
      have SH := fr.shX S
      have gH : XgS H A D := g.fr fr (fun f z => by cases z; omega) (fun z => z)
      have cH : rI H (A 9) j = dco D j := by
        rw [fr.rI (fun ⟨i, q, _⟩ => q)]
        exact gR.2 j (by omega)
      have em : nI j + (-1) = nI j - 1 := (Int32.sub_eq_add_neg _ _).symm
      have hlen := ev_le (lfV D bd s t (dst D s t)) (dco D) (dR D - (j + 1)) (j + 1)
      have elen := ev_len (lf := lfV D bd s t (dst D s t)) wR (dR D - (j + 1)) (j + 1) (by omega)
      have hnd := (wR.2.2.1 j (by omega)).1
      have e2 : nd (dco D) (j + 1) = nd (dco D) j - 1 + arC (dco D j) := rfl
      rw [s_X3_valueFor_L19.eq_2, dec1 (by omega), Nat.add_sub_cancel, if_neg (nI_pos (by omega)), gX3_0 SH, Option.bind_some, aXI SH 9 (by decide) (by decide) (by decide) (show j < LX 9 from (by have : LX 9 = 30 := rfl; omega)), Option.bind_some, cH, opsX, Option.bind_some]
      -- the value in front
      have val : ∃ v H1 st, (if nI (arC (dco D j)) ≤ 0 then (s_X3_plainValue N H (dco D j) bd (some (A (100 + s))) (some (A (100 + t)))).bind fun v9 => some (v9.toInt64, H) else (cV H 3 (some (A 8)) fun a11 => s_X3_workOperator H a11 (dco D j)).bind fun v10 => some (v10.1, v10.2)) = some (vJ v, H1) ∧ FrV A H H1 ∧ StX H1 A st ∧ st.length < 30 ∧ v :: st = evN (lfV D bd s t (dst D s t)) (dco D) (dR D - j) j := by
        rw [show dR D - j = dR D - (j + 1) + 1 by omega]
        unfold evN stV_
        by_cases c0 : arC (dco D j) = 0
        · rw [if_pos (by rw [c0]; decide), if_pos c0, plainX SH hN gH w hn hs ht, Option.bind_some]
          exact ⟨some _, H, _, rfl, Fr.refl _, k, by omega, rfl⟩
        · have h2 := arC_2 (Nat.pos_of_ne_zero c0)
          rw [if_neg (show ¬ nI (arC (dco D j)) ≤ 0 from nI_ge (a := 0) (by omega) (by have := arC_le (dco D j); omega)), if_neg c0, vX3 SH]
          by_cases c3 : arC (dco D j) = 3
          · rw [if_pos c3, ar3 c3]
            match hq : evN (lfV D bd s t (dst D s t)) (dco D) (dR D - (j + 1)) (j + 1) with
            | [] => rw [hq] at elen; simp at elen; omega
            | [_] => rw [hq] at elen; simp at elen; omega
            | [_, _] => rw [hq] at elen; simp at elen; omega
            | a :: b :: d :: l =>
              rw [hq] at k hlen
              simp at hlen
              obtain ⟨h', p1, p2, p3⟩ := choiX SH k (by omega)
              rw [p1, Option.bind_some]
              exact ⟨_, h', l, rfl, p2, p3, by omega, rfl⟩
          · rw [if_neg c3]
            match hq : evN (lfV D bd s t (dst D s t)) (dco D) (dR D - (j + 1)) (j + 1) with
            | [] => rw [hq] at elen; simp at elen; omega
            | [_] => rw [hq] at elen; simp at elen; omega
            | a :: b :: l =>
              rw [hq] at k hlen
              simp at hlen
              obtain ⟨h', p1, p2, p3⟩ := operX SH (dco D j) k (by omega) (arn c3) (by omega)
              rw [p1, Option.bind_some]
              exact ⟨_, h', l, rfl, p2, p3, by omega, rfl⟩
      obtain ⟨v, H1, st, v1, v2, v3, v4, v5⟩ := val
      have S1 := v2.shX SH
      obtain ⟨H2, p1, p2, p3⟩ := pushX S1 v3 v4 v
      rw [v1, Option.bind_some]
      dsimp only
      rw [vX3 S1, p1, Option.bind_some, em]
      refine ih z H2 (by omega) (by omega) ((fr.trans v2).trans p2) ?_
      rw [← v5]
      exact p3
  unfold s_X3_valueFor
  have S2 : ShX (wfI h 306 (A 8) 0) A n := S
  have f2 : FrV A h (wfI h 306 (A 8) 0) := Fr.wI _ _ _ _ rfl
  have k2 : StX (wfI h 306 (A 8) 0) A (evN (lfV D bd s t (dst D s t)) (dco D) (dR D - dR D) (dR D)) := by
    rw [Nat.sub_self]
    exact ⟨fI_wfI _ _ _ _, fun k hk => absurd hk (Nat.not_lt_zero k)⟩
  obtain ⟨h', a1, a2, a3⟩ := L (dR D) N _ (Nat.le_refl _) (by omega) f2 k2
  have i3 : fI (wfI h 306 (A 8) 0) 301 (A 8) = nI (dR D) := by rw [fI_wfI_ne _ _ (by decide)]; exact gR.1
  rw [if_neg (show ¬ some (A (100 + t)) = none from fun z => by cases z), pX3_6 S, Option.bind_some, gX3_1 S2, Option.bind_some, i3, a1, Option.bind_some]
  have S' := a2.shX S
  have el := ev_len (lf := lfV D bd s t (dst D s t)) wR (dR D) 0 (by omega)
  have el : (evN (lfV D bd s t (dst D s t)) (dco D) (dR D) 0).length = 1 := el
  match hq : evN (lfV D bd s t (dst D s t)) (dco D) (dR D) 0 with
  | [] => rw [hq] at el; simp at el
  | _ :: _ :: _ => rw [hq] at el; simp at el
  | [v] =>
    rw [hq] at a3
    obtain ⟨p1, p2⟩ := popX S' a3 (by simp)
    rw [vX3 S', p1, Option.bind_some]
    refine ⟨wfI h' 306 (A 8) (nI ([] : List (Option Int32)).length), ?_, a2.trans (Fr.wI _ _ _ _ rfl)⟩
    unfold rV
    rw [hq]
    rfl
