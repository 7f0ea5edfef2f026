/-! ===== rule, the reference ===== -/
theorem cCode_num {b : Nat → Int32} {s e : Nat} (h : numOk b s e 4 = true) : cCode b s e = (numV b (e - s) s 0).toInt32 ∧ 0 ≤ (cCode b s e).toInt ∧ (cCode b s e).toInt ≤ 9999 := by
  have e1 : cCode b s e = (numV b (e - s) s 0).toInt32 := by unfold cCode; rw [if_pos h]
  have := numV_ok (by omega) h
  have e4 : (10 : Int) ^ 4 = 10000 := by decide
  rw [e4] at this
  rw [e1, li (by omega) (by omega)]
  exact ⟨rfl, by omega, by omega⟩
/-- a word of a rule, in class's and in reference's words -/
theorem wc (b : Nat → Int32) (s e : Nat) : (cCode b s e = -11 ∧ wCode b s (e - s) = -1) ∨ (cCode b s e ≠ -11 ∧ -10 ≤ (cCode b s e).toInt ∧ (cCode b s e).toInt ≤ 9999 ∧ wCode b s (e - s) = woC (cCode b s e) ∧ ¬ wCode b s (e - s) < 0 ∧ ((5 ≤ wCode b s (e - s) ∧ wCode b s (e - s) ≤ 9) ↔ 0 < arC (cCode b s e)) ∧ ((wCode b s (e - s) = 9) ↔ arC (cCode b s e) = 3) ∧ (wCode b s (e - s) = 10 → numOk b s e 4 = true) ∧ (0 ≤ cCode b s e → wCode b s (e - s) = 10)) := by
  by_cases q : numOk b s e 4 = true
  · obtain ⟨h1, h2, h3⟩ := cCode_num q
    have w : wCode b s (e - s) = 10 := by
      unfold wCode
      rw [if_pos (of_decide_eq_true q)]
    have nz : (0 : Int32) ≤ cCode b s e := iLe.mpr h2
    refine Or.inr ⟨fun z => ?_, by omega, h3, ?_, by rw [w]; decide, ?_, ?_, fun _ => q, fun _ => w⟩
    · rw [z] at h2
      exact absurd h2 (by decide)
    · rw [w]
      unfold woC
      rw [if_pos nz]
    · rw [w]
      have : arC (cCode b s e) = 0 := by
        unfold arC
        rw [if_neg (fun z => by rw [z] at h2; exact absurd h2 (by decide)), if_neg (fun z => by have := iLe.mp z.2; have e6 : (-6 : Int32).toInt = -6 := rfl; omega)]
      rw [this]
      exact ⟨fun z => absurd z (by decide), fun z => absurd z (by omega)⟩
    · rw [w]
      have : arC (cCode b s e) = 0 := by
        unfold arC
        rw [if_neg (fun z => by rw [z] at h2; exact absurd h2 (by decide)), if_neg (fun z => by have := iLe.mp z.2; have e6 : (-6 : Int32).toInt = -6 := rfl; omega)]
      rw [this]
      exact ⟨fun z => absurd z (by decide), fun z => absurd z (by omega)⟩
  · have q' : ¬ (1 ≤ e - s ∧ e - s ≤ 4 ∧ allB dig b (e - s) s = true) := fun z => q (decide_eq_true z)
    have fin : ∀ (cc ww : Int32), cCode b s e = cc → wCode b s (e - s) = ww → ((cc = -11 ∧ ww = -1) ∨ (cc ≠ -11 ∧ -10 ≤ cc.toInt ∧ cc.toInt ≤ 9999 ∧ ww = woC cc ∧ ¬ ww < 0 ∧ ((5 ≤ ww ∧ ww ≤ 9) ↔ 0 < arC cc) ∧ ((ww = 9) ↔ arC cc = 3) ∧ ww ≠ 10 ∧ ¬ 0 ≤ cc)) → (cCode b s e = -11 ∧ wCode b s (e - s) = -1) ∨ (cCode b s e ≠ -11 ∧ -10 ≤ (cCode b s e).toInt ∧ (cCode b s e).toInt ≤ 9999 ∧ wCode b s (e - s) = woC (cCode b s e) ∧ ¬ wCode b s (e - s) < 0 ∧ ((5 ≤ wCode b s (e - s) ∧ wCode b s (e - s) ≤ 9) ↔ 0 < arC (cCode b s e)) ∧ ((wCode b s (e - s) = 9) ↔ arC (cCode b s e) = 3) ∧ (wCode b s (e - s) = 10 → numOk b s e 4 = true) ∧ (0 ≤ cCode b s e → wCode b s (e - s) = 10)) := by
      intro cc ww e1 e2 h
      rw [e1, e2]
      rcases h with h | ⟨h1, h2, h3, h4, h5, h6, h7, h8, h9⟩
      · exact Or.inl h
      · exact Or.inr ⟨h1, h2, h3, h4, h5, h6, h7, fun z => absurd z h8, fun z => absurd z h9⟩
    have D : cCode b s e = (if txB b s (e - s) 3 = true then -1 else if txB b s (e - s) 4 = true then -2 else if txB b s (e - s) 5 = true then -3 else if txB b s (e - s) 6 = true then -4 else if txB b s (e - s) 7 = true then -5 else if txB b s (e - s) 8 = true then -6 else if txB b s (e - s) 9 = true then -7 else if txB b s (e - s) 10 = true then -8 else if txB b s (e - s) 11 = true then -9 else if txB b s (e - s) 12 = true then -10 else -11) := by
      unfold cCode
      rw [if_neg q]
    have W : wCode b s (e - s) = (if txB b s (e - s) 3 = true then 0 else if txB b s (e - s) 4 = true then 1 else if txB b s (e - s) 5 = true then 2 else if txB b s (e - s) 6 = true then 3 else if txB b s (e - s) 7 = true then 4 else if txB b s (e - s) 8 = true then 5 else if txB b s (e - s) 9 = true then 6 else if txB b s (e - s) 10 = true then 7 else if txB b s (e - s) 11 = true then 8 else if txB b s (e - s) 12 = true then 9 else -1) := by
      unfold wCode
      rw [if_neg q']
    by_cases t3 : txB b s (e - s) 3 = true
    · rw [if_pos t3] at D W
      exact fin _ _ D W (by decide)
    rw [if_neg t3] at D W
    by_cases t4 : txB b s (e - s) 4 = true
    · rw [if_pos t4] at D W
      exact fin _ _ D W (by decide)
    rw [if_neg t4] at D W
    by_cases t5 : txB b s (e - s) 5 = true
    · rw [if_pos t5] at D W
      exact fin _ _ D W (by decide)
    rw [if_neg t5] at D W
    by_cases t6 : txB b s (e - s) 6 = true
    · rw [if_pos t6] at D W
      exact fin _ _ D W (by decide)
    rw [if_neg t6] at D W
    by_cases t7 : txB b s (e - s) 7 = true
    · rw [if_pos t7] at D W
      exact fin _ _ D W (by decide)
    rw [if_neg t7] at D W
    by_cases t8 : txB b s (e - s) 8 = true
    · rw [if_pos t8] at D W
      exact fin _ _ D W (by decide)
    rw [if_neg t8] at D W
    by_cases t9 : txB b s (e - s) 9 = true
    · rw [if_pos t9] at D W
      exact fin _ _ D W (by decide)
    rw [if_neg t9] at D W
    by_cases t10 : txB b s (e - s) 10 = true
    · rw [if_pos t10] at D W
      exact fin _ _ D W (by decide)
    rw [if_neg t10] at D W
    by_cases t11 : txB b s (e - s) 11 = true
    · rw [if_pos t11] at D W
      exact fin _ _ D W (by decide)
    rw [if_neg t11] at D W
    by_cases t12 : txB b s (e - s) 12 = true
    · rw [if_pos t12] at D W
      exact fin _ _ D W (by decide)
    rw [if_neg t12] at D W
    exact fin _ _ D W (by decide)
theorem isOpM (h : IH) (w : Int32) : s_X12_isOperator h w = some (if 5 ≤ w ∧ w ≤ 9 then 1 else 0) := by
  unfold s_X12_isOperator
  rw [isIn32 h w 5 9 (lo' := 5) (hi' := 9) rfl rfl, Option.bind_some, z01]
def LkM (h : IH) (ar : Nat → Nat) (d : Nat) (f : Nat → Nat) : Prop := ∀ i, i ≤ d → rI h (ar 51) i = nI (f i)
theorem endLM {m : Nat} {ar : Nat → Nat} {N : Nat} (x1 : Int32) : ∀ (d z : Nat) (h : IH) (f : Nat → Nat), ShM h m ar → d ≤ 8 → d < z → (∀ i, i < d → 1 ≤ f i) → (∀ i, i ≤ d → rI h (ar 51) i = nI (if i = d then f i - 1 else f i)) → (∀ i, i ≤ d → f i ≤ 3) → ∃ h', s_X12_rule_L148 N z m x1 (nI d) h = some (nI (eO d f).1, h') ∧ FM m ar no1 no1 (e1 51) no1 h h' ∧ LkM h' ar (eO d f).1 (eO d f).2 := by
  intro d
  induction d with
  | zero =>
    intro z h f S hd hz hf hr h3
    obtain ⟨z, rfl⟩ : ∃ y, z = y + 1 := ⟨z - 1, by omega⟩
    rw [s_X12_rule_L148.eq_2, if_pos (by decide)]
    refine ⟨h, rfl, Fr.refl _, fun i hi => ?_⟩
    have hi : i ≤ 0 := hi
    rw [hr i hi]
    show _ = nI (upN f 0 (f 0 - 1) i)
    unfold upN
    have : i = 0 := by omega
    subst this
    rw [if_pos rfl]
  | succ d ih =>
    intro z h f S hd hz hf hr h3
    obtain ⟨z, rfl⟩ : ∃ y, z = y + 1 := ⟨z - 1, by omega⟩
    have hr0 := hr (d + 1) (by omega)
    have h30 := h3 (d + 1) (by omega)
    rw [if_pos rfl] at hr0
    have em : nI (d + 1) + (-1) = nI d := by
      have : nI (d + 1) + (-1) = nI (d + 1) - 1 := (Int32.sub_eq_add_neg _ _).symm
      rw [this, dec1 (by omega), Nat.add_sub_cancel]
    unfold eO
    rw [s_X12_rule_L148.eq_2, if_neg (show ¬ nI (d + 1) ≤ 0 from nI_ge (a := 0) (by omega) (by omega)), mgR 51 S (by decide), Option.bind_some, maI 51 _ S (by decide) (show d + 1 < 9 by omega), Option.bind_some, hr0]
    by_cases c : f (d + 1) - 1 = 0
    · rw [if_pos (by rw [c]; rfl), if_pos c, Option.bind_some, em, maI 51 _ S (by decide) (show d < 9 by omega), Option.bind_some, msI 51 _ _ S (by decide) (show d < 9 by omega), Option.bind_some, hr d (by omega), if_neg (by omega), dec1 (hf d (by omega))]
      obtain ⟨h', a1, a2, a3⟩ := ih z (setI h (ar 51) (upd (rI h (ar 51)) d (nI (f d - 1)))) (upN f (d + 1) 0) S (by omega) (by omega) (fun i hi => by unfold upN; rw [if_neg (by omega)]; exact hf i (by omega)) (fun i hi => by
        rw [rI_setI]
        unfold upd upN
        by_cases e : i = d
        · rw [if_pos e, if_pos e, if_neg (by omega), e]
        · rw [if_neg e, if_neg e, if_neg (by omega), hr i (by omega), if_neg (by omega)]) (fun i hi => by unfold upN; rw [if_neg (by omega)]; exact h3 i (by omega))
      have g1 : FM m ar no1 no1 (e1 51) no1 h (setI h (ar 51) (upd (rI h (ar 51)) d (nI (f d - 1)))) := Fr.sI _ _ _ ⟨51, rfl, rfl⟩
      exact ⟨h', a1, g1.trans a2, a3⟩
    · rw [if_neg (show ¬ nI (f (d + 1) - 1) = 0 from fun z => c ((nI_eq (b := 0) (by omega) (by omega)).mp z)), if_neg c]
      refine ⟨h, rfl, Fr.refl _, fun i hi => ?_⟩
      have hi : i ≤ d + 1 := hi
      rw [hr i hi]
      show _ = nI (upN f (d + 1) (f (d + 1) - 1) i)
      unfold upN
      by_cases e : i = d + 1
      · rw [if_pos e, if_pos e, e]
      · rw [if_neg e, if_neg e]
/-- what comes behind the loop of words -/
def ruTail (N m : Nat) (q67 : (Int32 × IH) ⊕ (Int32 × IH)) : Option (Int32 × IH) := Sum.elim (fun v => some v) (fun t68 => (cV t68.2 12 (some m) fun a84 => s_X12_next N t68.2 a84).bind fun v69 => (gI v69 12 43 (some m)).bind fun v70 => if v70 ≤ 0 then (pI v69 12 23 (some m) t68.1).bind fun h72 => (s_X12_rule_L205 N N m t68.1 0 h72).bind fun q82 => some (t68.1, q82) else (gI v69 12 42 (some m)).bind fun v83 => some ((-1) - v83, v69)) q67
def rmF (f : Nat) : Prop := 1240 ≤ f ∧ f ≤ 1243
def rmR (i : Nat) : Prop := i = 26 ∨ i = 27 ∨ i = 51
theorem rmR_row : mRow rmR := fun i q => by rcases q with q | q | q <;> subst q <;> decide
abbrev FrN (m : Nat) (ar : Nat → Nat) : IH → IH → Prop := FM m ar rmF no1 rmR no1
theorem nextMU {h : IH} {m : Nat} {ar : Nat → Nat} (S : ShM h m ar) {l c N : Nat} {b : Nat → Int32} (hN : 2000 ≤ N) (w : WM h m ar l c b) : ∃ h', s_X12_next N h m = some h' ∧ FrN m ar h h' ∧ WM h' m ar l (nxE b l c) b ∧ WdM h' m (nxS b l c) (nxE b l c - nxS b l c) ∧ rI h' = rI h := by
  obtain ⟨w1, w2, w3, w4, w5, w6⟩ := id w
  have e := nextM S hN w1 w2 w3 w4
  obtain ⟨h', e', f', w', d', k', g'⟩ := nextMM S hN w
  rw [e] at e'
  have q2 := Option.some.inj e'
  subst q2
  refine ⟨_, e, ?_, w', d', rfl⟩
  have t : ∀ (x : IH) f v, 1240 ≤ f → f ≤ 1243 → FrN m ar x (wfI x f m v) := fun x f v h1 h2 => Fr.wI _ _ _ _ ⟨⟨h1, h2⟩, rfl⟩
  unfold nxM
  exact ((t _ _ _ (by omega) (by omega)).trans (t _ _ _ (by omega) (by omega))).trans (t _ _ _ (by omega) (by omega))
theorem WM.fr {h : IH} {m : Nat} {ar : Nat → Nat} (S : ShM h m ar) {h' : IH} {l c : Nat} {b : Nat → Int32} (w : WM h m ar l c b) (x : FM m ar no1 no1 rmR no1 h h') : WM h' m ar l c b := by
  obtain ⟨w1, w2, w3, w4, w5, w6⟩ := w
  refine ⟨by rw [mfI x (fun z => z)]; exact w1, w2, by rw [mfI x (fun z => z)]; exact w3, w4, ?_, w6⟩
  rw [mrI S x rmR_row (by decide) (by unfold rmR; omega)]
  exact w5
/-- the words that were read stand in the reference's rows -/
def NwW (h : IH) (ar : Nat → Nat) (r1 r2 : Nat) (l : List Int32) : Prop := ∀ i, i < l.length → rI h (ar r1) i = woC (l.getD i 0) ∧ (0 ≤ l.getD i 0 → rI h (ar r2) i = l.getD i 0)
theorem copyRM {h : IH} {m : Nat} {ar : Nat → Nat} (S : ShM h m ar) {N : Nat} {l : List Int32} (hN : 2000 ≤ N) (hl : l.length ≤ 30) (w : NwW h ar 26 27 l) : ∃ h', s_X12_rule_L205 N N m (nI l.length) 0 h = some h' ∧ FM m ar no1 no1 (fun i => i = 24 ∨ i = 25) no1 h h' ∧ NwW h' ar 24 25 l := by
  have rowOk : mRow (fun i => i = 24 ∨ i = 25) := fun i q => by rcases q with q | q <;> subst q <;> decide
  have L : ∀ r k z (H : IH), k + r = l.length → r < z → FM m ar no1 no1 (fun i => i = 24 ∨ i = 25) no1 h H → (∀ i, i < k → rI H (ar 24) i = woC (l.getD i 0) ∧ (0 ≤ l.getD i 0 → rI H (ar 25) i = l.getD i 0)) → ∃ h', s_X12_rule_L205 N z m (nI l.length) (nI k) H = some h' ∧ FM m ar no1 no1 (fun i => i = 24 ∨ i = 25) no1 h h' ∧ NwW h' ar 24 25 l := by
    intro r
    induction r with
    | zero =>
      intro k z H hk hz fr q
      obtain ⟨z, rfl⟩ : ∃ y, z = y + 1 := ⟨z - 1, by omega⟩
      rw [s_X12_rule_L205.eq_2, if_pos (nI_le (by omega) (by omega))]
      exact ⟨H, rfl, fr, fun i hi => q i (by omega)⟩
    | succ r ih =>
      intro k z H hk hz fr q
      obtain ⟨z, rfl⟩ : ∃ y, z = y + 1 := ⟨z - 1, by omega⟩
      have SH := fr.shM S
      have wk := w k (by omega)
      have r26 : rI H (ar 26) = rI h (ar 26) := mrI S fr rowOk (by decide) (by omega)
      have r27 : rI H (ar 27) = rI h (ar 27) := mrI S fr rowOk (by decide) (by omega)
      have ne1 : ar 27 ≠ ar 24 := fun z => absurd (S.2.2 27 24 (by decide) (by decide) z) (by decide)
      have ne2 : ar 24 ≠ ar 25 := fun z => absurd (S.2.2 24 25 (by decide) (by decide) z) (by decide)
      have S1 : ∀ g, ShM (setI H (ar 24) g) m ar := fun g => SH
      rw [s_X12_rule_L205.eq_2, if_neg (nI_ge (by omega) (by omega)), mgR 24 SH (by decide), Option.bind_some, mgR 26 SH (by decide), Option.bind_some, maI 26 k SH (by decide) (show k < 30 by omega), Option.bind_some, msI 24 k _ SH (by decide) (show k < 30 by omega), Option.bind_some, mgR 25 (S1 _) (by decide), Option.bind_some, mgR 27 (S1 _) (by decide), Option.bind_some, maI 27 k (S1 _) (by decide) (show k < 30 by omega), Option.bind_some, msI 25 k _ (S1 _) (by decide) (show k < 30 by omega), Option.bind_some, nI_1]
      refine ih (k + 1) z _ (by omega) (by omega) ?_ (fun i hi => ?_)
      · exact fr.trans ((Fr.sI _ _ _ ⟨24, Or.inl rfl, rfl⟩).trans (Fr.sI _ _ _ ⟨25, Or.inr rfl, rfl⟩))
      · rw [rI_setI_ne _ _ ne2, rI_setI, rI_setI, rI_setI_ne _ _ (fun z => ne2 z.symm), rI_setI_ne _ _ ne1, r26, r27]
        unfold upd
        by_cases e : i = k
        · rw [if_pos e, if_pos e, e]
          exact wk
        · rw [if_neg e, if_neg e]
          exact q i (by omega)
  have := L l.length 0 N h (by omega) (by omega) (Fr.refl _) (fun i hi => absurd hi (by omega))
  rw [nI_0] at this
  exact this
