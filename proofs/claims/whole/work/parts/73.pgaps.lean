/-! ===== gaps of a station's clock against the others' ===== -/
/-- the gaps of contact c to the first j lines of station t on band b -/
def gpJ (D : Dt) (s c t b : Nat) : Nat → List Int64
  | 0 => []
  | j + 1 => gpJ D s c t b j ++ (if ctB D (16 * (3 * t + b) + j) = true ∧ tgO D (16 * (3 * t + b) + j) = some s ∧ fitB D c (16 * (3 * t + b) + j) = true then [dmo D (16 * (3 * t + b) + j) - dmo D c] else [])
def gpC (D : Dt) (s c : Nat) : List Int64 := match tgO D c with
  | none => []
  | some t => if t = s then [] else gpJ D s c t (c / 16 % 3) 16
/-- a contact with another station that has a log -/
def mnB (D : Dt) (s c : Nat) : Bool := match tgO D c with
  | none => false
  | some t => decide (t ≠ s) && hlB D t
def gf (D : Dt) (s : Nat) : Nat → List (Nat × Int64)
  | 0 => []
  | j + 1 => gf D s j ++ (if mnB D s (48 * s + j) = true then (gpC D s (48 * s + j)).map (fun g => (cnt (fun k => mnB D s (48 * s + k)) j, g)) else [])
theorem gpJ_len (D : Dt) (s c t b : Nat) : ∀ j, (gpJ D s c t b j).length ≤ j := by
  intro j
  induction j with
  | zero => exact Nat.le_refl _
  | succ j ih =>
    unfold gpJ
    rw [List.length_append]
    split
    · simp
      omega
    · simp
      omega
theorem gpC_len (D : Dt) (s c : Nat) : (gpC D s c).length ≤ 16 := by
  unfold gpC
  split
  · simp
  · split
    · simp
    · exact gpJ_len _ _ _ _ _ 16
theorem gf_len (D : Dt) (s : Nat) : ∀ j, (gf D s j).length ≤ 16 * j := by
  intro j
  induction j with
  | zero => exact Nat.le_refl _
  | succ j ih =>
    unfold gf
    rw [List.length_append]
    split
    · rw [List.length_map]
      have := gpC_len D s (48 * s + j)
      omega
    · simp
      omega
theorem gpJ_sz {D : Dt} {s c t b : Nat} (hb : dsz D (3 * t + b) ≤ 16) : gpJ D s c t b 16 = gpJ D s c t b (dsz D (3 * t + b)) := by
  have : ∀ k, dsz D (3 * t + b) + k ≤ 16 → gpJ D s c t b (dsz D (3 * t + b) + k) = gpJ D s c t b (dsz D (3 * t + b)) := by
    intro k
    induction k with
    | zero => intro _; rfl
    | succ k ih =>
      intro h
      show gpJ D s c t b (dsz D (3 * t + b) + k) ++ _ = _
      rw [ih (by omega), if_neg (fun z => by
        have := ((ct_16 (D := D) (q := 3 * t + b) (i := dsz D (3 * t + b) + k) (by omega)).mp z.1).1
        omega), List.append_nil]
  have e := this (16 - dsz D (3 * t + b)) (by omega)
  rw [show dsz D (3 * t + b) + (16 - dsz D (3 * t + b)) = 16 by omega] at e
  exact e
/-- the gaps as they stand in the class: a list, and how many contacts were met -/
def GpX (h : IH) (A : Nat → Nat) (l : List (Nat × Int64)) (k : Nat) : Prop := fI h 103 (A 14) = nI l.length ∧ fI h 104 (A 14) = nI k ∧ ∀ i, i < l.length → rL h (A 15) i = (l.getD i (0, 0)).2 ∧ rI h (A 16) i = nI (l.getD i (0, 0)).1
def gaF (f : Nat) : Prop := f = 103 ∨ f = 104
abbrev FrG (A : Nat → Nat) : IH → IH → Prop := FX A gaF no1 (e1 16) (e1 15)
theorem g15 {n : Nat} : lvR n (e1 15) := fun i z => by cases z; exact lv_lit (by decide) (by decide)
theorem g16 {n : Nat} : lvR n (e1 16) := fun i z => by cases z; exact lv_lit (by decide) (by decide)
theorem TgX.fr {h h' : IH} {A : Nat → Nat} {D : Dt} {F G R Q : Nat → Prop} (x : FX A F G R Q h h') (g : TgX h A D) (f1 : ¬ F 206) : TgX h' A D := fun e h1 h2 => by rw [x.fI f1]; exact g e h1 h2
theorem gapL {A : Nat → Nat} {n N s c t b k : Nat} {D : Dt} {h : IH} (S : ShX h A n) (hn : n = dn D) (gL : XgL h A D) (w : WgL D) (tg : TgX h A D) (hs : s < dn D) (ht : t < dn D) (hb : b < 3) (hc : c / 16 < 3 * dn D) (cc : ctB D c = true) (l : List (Nat × Int64)) (hl : l.length + 16 ≤ 768) : ∀ (r j z : Nat) (H : IH), j + r = dsz D (3 * t + b) → r < z → FrG A h H → GpX H A (l ++ (gpJ D s c t b j).map (fun g => (k, g))) k → ∃ h', s_X1_gatherGapsOf_L30 N z (A 14) (some (A (1000 + c))) (nI s) (some (A (200 + (3 * t + b)))) (nI j) H = some h' ∧ FrG A h h' ∧ GpX h' A (l ++ (gpJ D s c t b 16).map (fun g => (k, g))) k := by
  subst hn
  have h12 := S.1
  have w16 := (w.1 (3 * t + b) (by omega)).1
  have lq : lvQ (dn D) (3 * t + b) := Or.inl (by omega)
  intro r
  induction r with
  | zero =>
    intro j z H hj hz fr g
    obtain ⟨z, rfl⟩ : ∃ y, z = y + 1 := ⟨z - 1, by omega⟩
    have SH := fr.shX S
    have gH : XgL H A D := gL.fr fr (fun f z => by rcases z with z | z <;> subst z <;> omega) (fun f z => z.elim)
    rw [s_X1_gatherGapsOf_L30.eq_2, if_neg (show ¬ some (A (200 + (3 * t + b))) = none from fun z => by cases z), gX4_1 SH lq, Option.bind_some, (gH _ (by omega)).2.1, if_pos (nI_le (by omega) (by omega))]
    refine ⟨H, rfl, fr, ?_⟩
    rw [gpJ_sz w16, show dsz D (3 * t + b) = j by omega]
    exact g
  | succ r ih =>
    intro j z H hj hz fr g
    obtain ⟨z, rfl⟩ : ∃ y, z = y + 1 := ⟨z - 1, by omega⟩
    have SH := fr.shX S
    have gH : XgL H A D := gL.fr fr (fun f z => by rcases z with z | z <;> subst z <;> omega) (fun f z => z.elim)
    have tH : TgX H A D := tg.fr fr (by unfold gaF; omega)
    have hd : (16 * (3 * t + b) + j) / 16 < 3 * dn D := by omega
    rw [s_X1_gatherGapsOf_L30.eq_2, if_neg (show ¬ some (A (200 + (3 * t + b))) = none from fun z => by cases z), gX4_1 SH lq, Option.bind_some, (gH _ (by omega)).2.1, if_neg (nI_ge (by omega) (by omega)), vX4 SH lq, contactX SH gH w rfl (by omega) (by omega), Option.bind_some, nI_1]
    have skip : ¬ (ctB D (16 * (3 * t + b) + j) = true ∧ tgO D (16 * (3 * t + b) + j) = some s ∧ fitB D c (16 * (3 * t + b) + j) = true) → ∃ h', s_X1_gatherGapsOf_L30 N z (A 14) (some (A (1000 + c))) (nI s) (some (A (200 + (3 * t + b)))) (nI (j + 1)) H = some h' ∧ FrG A h h' ∧ GpX h' A (l ++ (gpJ D s c t b 16).map (fun g => (k, g))) k := by
      intro q
      refine ih (j + 1) z H (by omega) (by omega) fr ?_
      unfold gpJ
      rw [if_neg q, List.append_nil]
      exact g
    by_cases c1 : ctB D (16 * (3 * t + b) + j) = true
    · have kD := kEn SH hd
      have kC := kEn SH hc
      have e6 : fI H (100 * 2 + 6) (A (1000 + (16 * (3 * t + b) + j))) = oI (tgO D (16 * (3 * t + b) + j)) := tH _ hd c1
      rw [if_pos c1, if_neg (show ¬ some (A (1000 + (16 * (3 * t + b) + j))) = none from fun z => by cases z), gI_ok (c := 2) 6 kD, Option.bind_some, e6]
      have inj := oI_inj (o := tgO D (16 * (3 * t + b) + j)) (t := s) (fun u hu => by have := (tg_lt hu).1; omega) (by omega)
      by_cases c2 : tgO D (16 * (3 * t + b) + j) = some s
      · rw [if_pos (inj.mpr c2), cV_ok (c := 2) _ kC, ansX SH gH w rfl hc hd cc c1, Option.bind_some]
        cases c3 : fitB D c (16 * (3 * t + b) + j) with
        | false =>
          rw [if_pos (show bI false = 0 from rfl), Option.bind_some]
          exact skip (fun z => by rw [c3] at z; cases z.2.2)
        | true =>
          have hlen : (l ++ (gpJ D s c t b j).map (fun g => (k, g))).length < 768 := by
            rw [List.length_append, List.length_map]
            have := gpJ_len D s c t b j
            omega
          have mD : fL H (100 * 2 + 1) (A (1000 + (16 * (3 * t + b) + j))) = dmo D (16 * (3 * t + b) + j) := (enX gH hd c1).2.1 (by rw [(ct_in c1).2]; decide)
          have mC : fL H (100 * 2 + 1) (A (1000 + c)) = dmo D c := (enX gH hc cc).2.1 (by rw [(ct_in cc).2]; decide)
          rw [if_neg (show ¬ bI true = 0 by decide), gX1_3 SH, Option.bind_some, g.1, if_neg (show ¬ (768 : Int32) ≤ nI _ from nI_ge (b := 768) hlen (by omega)), gX1_1 SH, Option.bind_some, Option.bind_some, gL_ok (c := 2) 1 kD, Option.bind_some, gL_ok (c := 2) 1 kC, Option.bind_some, mD, mC, sXJ SH 15 _ (by decide) (by decide) (by decide) (show _ < LX 15 from hlen), Option.bind_some]
          have S21 : ∀ q, ShX (setJ H (A 15) q) A (dn D) := fun q => SH
          rw [gX1_2 (S21 _), Option.bind_some, gX1_3 (S21 _), Option.bind_some, fI_setJ, g.1, gX1_4 (S21 _), Option.bind_some, fI_setJ, g.2.1, sXI (S21 _) 16 _ (by decide) (by decide) (by decide) (show _ < LX 16 from hlen), Option.bind_some]
          have S25 : ∀ q p, ShX (setI (setJ H (A 15) q) (A 16) p) A (dn D) := fun q p => SH
          rw [gX1_3 (S25 _ _), Option.bind_some, fI_setI, fI_setJ, g.1, nI_1, pX1_3 (S25 _ _), Option.bind_some, Option.bind_some]
          refine ih (j + 1) z _ (by omega) (by omega) ?_ ?_
          · have f1 : FrG A H (setJ H (A 15) (vp_updL (rL H (A 15)) (l ++ (gpJ D s c t b j).map (fun g => (k, g))).length (dmo D (16 * (3 * t + b) + j) - dmo D c))) := Fr.sJ _ _ _ ⟨15, rfl, rfl⟩
            exact (fr.trans f1).trans ((Fr.sI _ _ _ ⟨16, rfl, rfl⟩).trans (Fr.wI _ _ _ _ (Or.inl rfl)))
          · have el : l ++ (gpJ D s c t b (j + 1)).map (fun g => (k, g)) = (l ++ (gpJ D s c t b j).map (fun g => (k, g))) ++ [(k, dmo D (16 * (3 * t + b) + j) - dmo D c)] := by
              have e0 : gpJ D s c t b (j + 1) = gpJ D s c t b j ++ [dmo D (16 * (3 * t + b) + j) - dmo D c] := by
                show gpJ D s c t b j ++ _ = _
                rw [if_pos ⟨c1, c2, c3⟩]
              rw [e0, List.map_append, List.append_assoc]
              rfl
            rw [el]
            generalize l ++ (gpJ D s c t b j).map (fun g => (k, g)) = L at g hlen
            refine ⟨by rw [List.length_append]; exact fI_wfI _ _ _ _, by rw [fI_wfI_ne _ _ (by decide), fI_setI, fI_setJ]; exact g.2.1, fun i hi => ?_⟩
            rw [List.length_append, List.length_singleton] at hi
            rw [rL_wfI, rL_setI, rL_setJ, rI_wfI, rI_setI, rI_setJ]
            unfold upd vp_updL
            by_cases e : i = L.length
            · have eg : (L ++ [(k, dmo D (16 * (3 * t + b) + j) - dmo D c)]).getD i (0, 0) = (k, dmo D (16 * (3 * t + b) + j) - dmo D c) := by
                rw [e]
                simp [List.getD_eq_getElem?_getD]
              rw [if_pos e, if_pos e, eg]
              exact ⟨rfl, rfl⟩
            · have eg : (L ++ [(k, dmo D (16 * (3 * t + b) + j) - dmo D c)]).getD i (0, 0) = L.getD i (0, 0) := by
                rw [List.getD_eq_getElem?_getD, List.getD_eq_getElem?_getD, List.getElem?_append_left (by omega)]
              rw [if_neg e, if_neg e, eg]
              exact g.2.2 i (by omega)
      · rw [if_neg (fun z => c2 (inj.mp z)), Option.bind_some]
        exact skip (fun z => c2 z.2.1)
    · rw [if_neg c1, if_pos rfl, Option.bind_some]
      exact skip (fun z => c1 z.1)
def wlA (D : Dt) (A : Nat → Nat) (o : Option Nat) : Option Nat := o.bind (fun t => if hlB D t = true then some (A (100 + t)) else none)
theorem withLogX {h : IH} {A : Nat → Nat} {n : Nat} (S : ShX h A n) {D : Dt} {N : Nat} (hN : 2000 ≤ N) (g : XgS h A D) (gL : XgL h A D) (hn : n = dn D) (o : Option Nat) (ho : ∀ t, o = some t → t < dn D) : s_X7_withLogAt N h (A 3) (oI o) = some (wlA D A o) := by
  unfold s_X7_withLogAt
  rw [vX7 S]
  cases o with
  | none =>
    rw [atX0 S g (a := oI none) (fun z => absurd z.1 (show ¬ (0 : Int32) ≤ -1 by decide)), Option.bind_some, if_pos rfl, Option.bind_some]
    rfl
  | some t =>
    have ht := ho t rfl
    have e : s_X7_at h (A 3) (oI (some t)) = some (some (A (100 + t))) := atX S g hn ht
    have hx := hasLogX S hN gL hn ht
    subst hn
    rw [e, Option.bind_some, if_neg (show ¬ some (A (100 + t)) = none from fun z => by cases z), vX9 S ht, hx, Option.bind_some]
    unfold wlA
    rw [Option.bind_some]
    cases hlB D t with
    | false => rfl
    | true => rfl
/-- all gaps of a station -/
theorem gatherX {h : IH} {A : Nat → Nat} {n : Nat} (S : ShX h A n) {D : Dt} {N s : Nat} (hN : 2000 ≤ N) (hn : n = dn D) (g : XgS h A D) (gL : XgL h A D) (w : WgL D) (tg : TgX h A D) (hs : s < dn D) : ∃ h', s_X1_gatherGaps N h (A 14) (nI s) = some h' ∧ FrG A h h' ∧ GpX h' A (gf D s 48) (cnt (fun k => mnB D s (48 * s + k)) 48) := by
  subst hn
  have h12 := S.1
  have ne1516 : True := trivial
  have G : ∀ H, FrG A h H → XgS H A D ∧ XgL H A D ∧ TgX H A D := fun H fr => ⟨g.fr fr (fun f z => by rcases z with z | z <;> subst z <;> omega) (fun z => z), gL.fr fr (fun f z => by rcases z with z | z <;> subst z <;> omega) (fun f z => z.elim), tg.fr fr (by unfold gaF; omega)⟩
  -- one contact
  have one : ∀ (b i : Nat) (H : IH), b < 3 → i < 16 → FrG A h H → ctB D (48 * s + (16 * b + i)) = true → GpX H A (gf D s (16 * b + i)) (cnt (fun k => mnB D s (48 * s + k)) (16 * b + i)) → ∃ h', ((if oI (tgO D (48 * s + (16 * b + i))) = nI s then some H else (cV H 1 (some (A 14)) fun a16 => s_X1_gatherGapsOf N H a16 (some (A (1000 + (48 * s + (16 * b + i))))) (nI s) (nI b)).bind fun v15 => some v15) : Option IH) = some h' ∧ FrG A h h' ∧ GpX h' A (gf D s (16 * b + i + 1)) (cnt (fun k => mnB D s (48 * s + k)) (16 * b + i + 1)) := by
    intro b i H hb hi fr cc gp
    have SH := fr.shX S
    obtain ⟨gH, gLH, tH⟩ := G H fr
    have hc : (48 * s + (16 * b + i)) / 16 < 3 * dn D := by omega
    have hband : (48 * s + (16 * b + i)) / 16 % 3 = b := by omega
    have kC := kEn SH hc
    have e6 : fI H (100 * 2 + 6) (A (1000 + (48 * s + (16 * b + i)))) = oI (tgO D (48 * s + (16 * b + i))) := tH _ hc cc
    have inj := oI_inj (o := tgO D (48 * s + (16 * b + i))) (t := s) (fun u hu => by have := (tg_lt hu).1; omega) (by omega)
    have ef : gf D s (16 * b + i + 1) = gf D s (16 * b + i) ++ (if mnB D s (48 * s + (16 * b + i)) = true then (gpC D s (48 * s + (16 * b + i))).map (fun g => (cnt (fun k => mnB D s (48 * s + k)) (16 * b + i), g)) else []) := rfl
    have ec : cnt (fun k => mnB D s (48 * s + k)) (16 * b + i + 1) = cnt (fun k => mnB D s (48 * s + k)) (16 * b + i) + (if mnB D s (48 * s + (16 * b + i)) then 1 else 0) := rfl
    rw [ef, ec]
    have skip : mnB D s (48 * s + (16 * b + i)) = false → ∃ h', some H = some h' ∧ FrG A h h' ∧ GpX h' A (gf D s (16 * b + i) ++ (if mnB D s (48 * s + (16 * b + i)) = true then (gpC D s (48 * s + (16 * b + i))).map (fun g => (cnt (fun k => mnB D s (48 * s + k)) (16 * b + i), g)) else [])) (cnt (fun k => mnB D s (48 * s + k)) (16 * b + i) + (if mnB D s (48 * s + (16 * b + i)) then 1 else 0)) := by
      intro q
      refine ⟨H, rfl, fr, ?_⟩
      rw [q]
      simp only [Bool.false_eq_true, if_false, List.append_nil, Nat.add_zero]
      exact gp
    by_cases c1 : tgO D (48 * s + (16 * b + i)) = some s
    · rw [if_pos (inj.mpr c1)]
      apply skip
      unfold mnB
      rw [c1]
      simp
    · rw [if_neg (fun z => c1 (inj.mp z)), vX1 SH]
      unfold s_X1_gatherGapsOf
      rw [gX1_0 SH, Option.bind_some, gI_ok (c := 2) 6 kC, Option.bind_some, e6, vX7 SH, withLogX SH hN gH gLH rfl _ (fun t ht => (tg_lt ht).1), Option.bind_some]
      cases ht : tgO D (48 * s + (16 * b + i)) with
      | none =>
        rw [if_pos (show wlA D A none = none from rfl), Option.bind_some]
        apply skip
        unfold mnB
        rw [ht]
      | some t =>
        have hts : t ≠ s := fun z => c1 (by rw [ht, z])
        have htn := (tg_lt ht).1
        have ew : wlA D A (some t) = if hlB D t = true then some (A (100 + t)) else none := rfl
        rw [ew]
        cases hl : hlB D t with
        | false =>
          rw [if_pos (show (if false = true then some (A (100 + t)) else none) = none from rfl), Option.bind_some]
          apply skip
          unfold mnB
          rw [ht]
          show (decide (t ≠ s) && hlB D t) = false
          rw [hl, Bool.and_false]
        | true =>
          have hm : mnB D s (48 * s + (16 * b + i)) = true := by
            unfold mnB
            rw [ht]
            show (decide (t ≠ s) && hlB D t) = true
            rw [hl, decide_eq_true hts]
            rfl
          have egp : gpC D s (48 * s + (16 * b + i)) = gpJ D s (48 * s + (16 * b + i)) t b 16 := by
            unfold gpC
            rw [ht]
            dsimp only
            rw [if_neg hts, hband]
          have hlen := gf_len D s (16 * b + i)
          obtain ⟨h', a1, a2, a3⟩ := gapL (N := N) (k := cnt (fun k => mnB D s (48 * s + k)) (16 * b + i)) S rfl gL w tg hs htn hb hc cc (gf D s (16 * b + i)) (by omega) (dsz D (3 * t + b)) 0 N H (by omega) (by have := (w.1 (3 * t + b) (by omega)).1; omega) fr (by
            show GpX H A (gf D s (16 * b + i) ++ ([] : List Int64).map _) _
            rw [List.map_nil, List.append_nil]
            exact gp)
          rw [nI_0] at a1
          have S' := a2.shX S
          have e1 : (if true = true then some (A (100 + t)) else none) = some (A (100 + t)) := rfl
          rw [e1, if_neg (show ¬ some (A (100 + t)) = none from fun z => by cases z), vX9 SH htn, logOfX SH htn hb, Option.bind_some, a1, Option.bind_some, gX1_4 S', Option.bind_some, a3.2.1, nI_1, pX1_4 S', Option.bind_some, Option.bind_some]
          refine ⟨_, rfl, a2.trans (Fr.wI _ _ _ _ (Or.inr rfl)), ?_⟩
          rw [hm, if_pos rfl, if_pos rfl, egp]
          refine ⟨by rw [fI_wfI_ne _ _ (by decide)]; exact a3.1, fI_wfI _ _ _ _, a3.2.2⟩
  -- a line that is no contact adds nothing
  have none_ : ∀ j, ctB D (48 * s + j) = false → gf D s (j + 1) = gf D s j ∧ cnt (fun k => mnB D s (48 * s + k)) (j + 1) = cnt (fun k => mnB D s (48 * s + k)) j := by
    intro j hc
    have hm : mnB D s (48 * s + j) = false := by
      unfold mnB tgO
      rw [hc]
      rfl
    constructor
    · show gf D s j ++ _ = _
      rw [hm, if_neg (by decide), List.append_nil]
    · show cnt (fun k => mnB D s (48 * s + k)) j + (if mnB D s (48 * s + j) then 1 else 0) = _
      rw [hm]
      rfl
  have skipTo : ∀ b i, b < 3 → dsz D (3 * s + b) ≤ i → i ≤ 16 → ∀ H, GpX H A (gf D s (16 * b + i)) (cnt (fun k => mnB D s (48 * s + k)) (16 * b + i)) → GpX H A (gf D s (16 * (b + 1))) (cnt (fun k => mnB D s (48 * s + k)) (16 * (b + 1))) := by
    intro b i hb hi hi2 H gp
    have : ∀ k, i + k ≤ 16 → gf D s (16 * b + (i + k)) = gf D s (16 * b + i) ∧ cnt (fun k => mnB D s (48 * s + k)) (16 * b + (i + k)) = cnt (fun k => mnB D s (48 * s + k)) (16 * b + i) := by
      intro k
      induction k with
      | zero => intro _; exact ⟨rfl, rfl⟩
      | succ k ih =>
        intro hk
        obtain ⟨p1, p2⟩ := ih (by omega)
        have hc : ctB D (48 * s + (16 * b + (i + k))) = false := by
          cases hc : ctB D (48 * s + (16 * b + (i + k))) with
          | false => rfl
          | true =>
            have e : 48 * s + (16 * b + (i + k)) = 16 * (3 * s + b) + (i + k) := by omega
            rw [e] at hc
            have := ((ct_16 (by omega)).mp hc).1
            omega
        obtain ⟨q1, q2⟩ := none_ (16 * b + (i + k)) hc
        rw [show 16 * b + (i + (k + 1)) = 16 * b + (i + k) + 1 by omega, q1, q2]
        exact ⟨p1, p2⟩
    obtain ⟨p1, p2⟩ := this (16 - i) (by omega)
    rw [show 16 * b + (i + (16 - i)) = 16 * (b + 1) by omega] at p1 p2
    rw [p1, p2]
    exact gp
  have L1 : ∀ (b : Nat) (x2 : Option Nat), b < 3 → ∀ (r i z : Nat) (H : IH), i + r = dsz D (3 * s + b) → r < z → FrG A h H → GpX H A (gf D s (16 * b + i)) (cnt (fun k => mnB D s (48 * s + k)) (16 * b + i)) → ∃ h', s_X1_gatherGaps_L40 N z (A 14) (nI s) x2 (nI b) (some (A (200 + (3 * s + b)))) (nI i) H = some h' ∧ FrG A h h' ∧ GpX h' A (gf D s (16 * (b + 1))) (cnt (fun k => mnB D s (48 * s + k)) (16 * (b + 1))) := by
    intro b x2 hb r
    have w16 := (w.1 (3 * s + b) (by omega)).1
    have lq : lvQ (dn D) (3 * s + b) := Or.inl (by omega)
    induction r with
    | zero =>
      intro i z H hi hz fr gp
      obtain ⟨z, rfl⟩ : ∃ y, z = y + 1 := ⟨z - 1, by omega⟩
      have SH := fr.shX S
      obtain ⟨gH, gLH, tH⟩ := G H fr
      rw [s_X1_gatherGaps_L40.eq_2, if_neg (show ¬ some (A (200 + (3 * s + b))) = none from fun z => by cases z), gX4_1 SH lq, Option.bind_some, (gLH _ (by omega)).2.1, if_pos (nI_le (by omega) (by omega))]
      exact ⟨H, rfl, fr, skipTo b i hb (by omega) (by omega) H gp⟩
    | succ r ih =>
      intro i z H hi hz fr gp
      obtain ⟨z, rfl⟩ : ∃ y, z = y + 1 := ⟨z - 1, by omega⟩
      have SH := fr.shX S
      obtain ⟨gH, gLH, tH⟩ := G H fr
      have ee : 16 * (3 * s + b) + i = 48 * s + (16 * b + i) := by omega
      rw [s_X1_gatherGaps_L40.eq_2, if_neg (show ¬ some (A (200 + (3 * s + b))) = none from fun z => by cases z), gX4_1 SH lq, Option.bind_some, (gLH _ (by omega)).2.1, if_neg (nI_ge (by omega) (by omega)), vX4 SH lq, contactX SH gLH w rfl (by omega) (by omega), Option.bind_some, nI_1, ee]
      by_cases c : ctB D (48 * s + (16 * b + i)) = true
      · have hc : (48 * s + (16 * b + i)) / 16 < 3 * dn D := by omega
        have kC := kEn SH hc
        have e6 : fI H (100 * 2 + 6) (A (1000 + (48 * s + (16 * b + i)))) = oI (tgO D (48 * s + (16 * b + i))) := tH _ hc c
        obtain ⟨h', a1, a2, a3⟩ := one b i H hb (by omega) fr c gp
        rw [if_pos c, if_neg (show ¬ some (A (1000 + (48 * s + (16 * b + i)))) = none from fun z => by cases z), gI_ok (c := 2) 6 kC, Option.bind_some, e6, a1, Option.bind_some]
        exact ih (i + 1) z h' (by omega) (by omega) a2 a3
      · rw [if_neg c, if_pos rfl, Option.bind_some]
        obtain ⟨q1, q2⟩ := none_ (16 * b + i) (Bool.eq_false_iff.mpr c)
        refine ih (i + 1) z H (by omega) (by omega) fr ?_
        rw [show 16 * b + (i + 1) = 16 * b + i + 1 by omega, q1, q2]
        exact gp
  have L2 : ∀ (r b z : Nat) (H : IH), b + r = 3 → r < z → FrG A h H → GpX H A (gf D s (16 * b)) (cnt (fun k => mnB D s (48 * s + k)) (16 * b)) → ∃ h', s_X1_gatherGaps_L21 N z (A 14) (nI s) (some (A (100 + s))) (nI b) H = some h' ∧ FrG A h h' ∧ GpX h' A (gf D s 48) (cnt (fun k => mnB D s (48 * s + k)) 48) := by
    intro r
    induction r with
    | zero =>
      intro b z H hb hz fr gp
      obtain ⟨z, rfl⟩ : ∃ y, z = y + 1 := ⟨z - 1, by omega⟩
      rw [s_X1_gatherGaps_L21.eq_2, if_pos (show (3 : Int32) ≤ nI b from nI_le (a := 3) (by omega) (by omega))]
      have : b = 3 := by omega
      subst this
      exact ⟨H, rfl, fr, gp⟩
    | succ r ih =>
      intro b z H hb hz fr gp
      obtain ⟨z, rfl⟩ : ∃ y, z = y + 1 := ⟨z - 1, by omega⟩
      have SH := fr.shX S
      obtain ⟨h', a1, a2, a3⟩ := L1 b (some (A (100 + s))) (by omega) (dsz D (3 * s + b)) 0 N H (by omega) (by have := (w.1 (3 * s + b) (by omega)).1; omega) fr gp
      rw [nI_0] at a1
      rw [s_X1_gatherGaps_L21.eq_2, if_neg (show ¬ (3 : Int32) ≤ nI b from nI_ge (b := 3) (by omega) (by omega)), if_neg (show ¬ some (A (100 + s)) = none from fun z => by cases z), vX9 SH hs, logOfX SH hs (by omega), Option.bind_some, a1, Option.bind_some, nI_1]
      exact ih (b + 1) z h' (by omega) (by omega) a2 a3
  unfold s_X1_gatherGaps
  have S1 : ShX (wfI h 103 (A 14) 0) A (dn D) := S
  have S2 : ShX (wfI (wfI h 103 (A 14) 0) 104 (A 14) 0) A (dn D) := S
  have f2 : FrG A h (wfI (wfI h 103 (A 14) 0) 104 (A 14) 0) := by
    have f1 : FrG A h (wfI h 103 (A 14) 0) := Fr.wI _ _ _ _ (Or.inl rfl)
    exact f1.trans (Fr.wI _ _ _ _ (Or.inr rfl))
  obtain ⟨h', a1, a2, a3⟩ := L2 3 0 N _ (by omega) (by omega) f2 ⟨by rw [fI_wfI_ne _ _ (by decide)]; exact fI_wfI _ _ _ _, fI_wfI _ _ _ _, fun i hi => absurd hi (Nat.not_lt_zero i)⟩
  rw [nI_0] at a1
  rw [pX1_3 S, Option.bind_some, pX1_4 S1, Option.bind_some, gX1_0 S2, Option.bind_some, vX7 S2, atX S2 (G _ f2).1 rfl hs, Option.bind_some, a1, Option.bind_some]
  exact ⟨h', rfl, a2, a3⟩
