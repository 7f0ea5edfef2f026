theorem rdRM {m : Nat} {ar : Nat → Nat} {T N : Nat} {b : Nat → Int32} (hN : 2000 ≤ N) : ∀ (r z c d k : Nat) (f : Nat → Nat) (h : IH) (pre : List Int32), pre.length = k → ShM h m ar → WM h m ar T c b → LkM h ar d f → SOk d f → NwW h ar 26 27 pre → 32 ≤ r + k → k ≤ 30 → r < z → (∀ p, prs b T r c d f k = .inl p → ∃ h', (s_X12_rule_L29 N z m (nI k) (nI d) h).bind (ruTail N m) = some ((-1) - nI p, h') ∧ FrN m ar h h') ∧ (∀ l, prs b T r c d f k = .inr l → ∃ h', (s_X12_rule_L29 N z m (nI k) (nI d) h).bind (ruTail N m) = some (nI (k + l.length), h') ∧ k + l.length ≤ 30 ∧ FM m ar (fun f => rmF f ∨ f = 1223) no1 (fun i => rmR i ∨ i = 24 ∨ i = 25) no1 h h' ∧ fI h' 1223 m = nI (k + l.length) ∧ NwW h' ar 24 25 (pre ++ l)) := by
  intro r
  induction r with
  | zero => intro z c d k f h pre _ _ _ _ _ _ h1 h2; omega
  | succ r ih =>
    intro z c d k f h pre hpre S w L o nw h1 h2 h3
    obtain ⟨z, rfl⟩ : ∃ y, z = y + 1 := ⟨z - 1, by omega⟩
    have hcl := w.2.2.2.1
    have hT := w.2.1
    have hb := nx_bd b hcl
    have hd := o.1
    have a0 := maI 51 0 S (by decide) (show 0 < 9 by omega)
    rw [nI_0, L 0 (by omega)] at a0
    obtain ⟨h7, e7, f7, w7, d7, r7⟩ := nextMU S hN w
    have S7 := f7.shM S
    unfold prs
    rw [s_X12_rule_L29.eq_2, mgR 51 S (by decide), Option.bind_some, a0, Option.bind_some]
    by_cases cz : d = 0 ∧ f 0 = 0
    · rw [if_pos (show nI (f 0) ≤ 0 by rw [cz.2]; decide), if_pos cz, Option.bind_some]
      unfold ruTail
      rw [Sum.elim_inr]
      dsimp only
      rw [mV12 S, e7, Option.bind_some, mgI 43 S7.1, Option.bind_some, d7.2.1]
      have hw := d7.2.2
      by_cases c1 : nxS b T c < nxE b T c
      · rw [if_neg (show ¬ nI (nxE b T c - nxS b T c) ≤ 0 from nI_ge (a := 0) (by omega) (by omega)), if_pos c1, mgI 42 S7.1, Option.bind_some, d7.1]
        refine ⟨fun p hp => ?_, fun l hp => by cases hp⟩
        cases hp
        exact ⟨h7, rfl, f7⟩
      · rw [if_pos (show nI (nxE b T c - nxS b T c) ≤ 0 from by rw [show nxE b T c - nxS b T c = 0 by omega]; decide), if_neg c1]
        refine ⟨fun p hp => (by cases hp), fun l hp => ?_⟩
        cases hp
        rw [mpI 23 _ S7.1, Option.bind_some]
        have S8 : ShM (wfI h7 (1200 + 23) m (nI k)) m ar := S7
        have nw8 : NwW (wfI h7 (1200 + 23) m (nI k)) ar 26 27 pre := by
          unfold NwW
          rw [rI_wfI, r7]
          exact nw
        obtain ⟨h', a1, a2, a3⟩ := copyRM S8 hN (by omega) nw8
        rw [hpre] at a1
        rw [a1, Option.bind_some]
        refine ⟨h', rfl, by simp; omega, ?_, ?_, by rw [List.append_nil]; exact a3⟩
        · refine (Fr.mono f7 (fun f a q => ⟨Or.inl q.1, q.2⟩) (fun f a q => q) (fun a ⟨i, q, y⟩ => ⟨i, Or.inl q, y⟩) (fun a q => q)).trans ((Fr.wI _ _ _ _ ⟨Or.inr rfl, rfl⟩).trans (Fr.mono a2 (fun f a q => q.1.elim) (fun f a q => q) (fun a ⟨i, q, y⟩ => ⟨i, Or.inr q, y⟩) (fun a q => q)))
        · rw [mfI a2 (fun z => z)]
          exact fI_wfI _ _ _ _
    · have hf := o.2.resolve_left cz
      have h0 := hf 0 (by omega)
      rw [if_neg (show ¬ nI (f 0) ≤ 0 from nI_ge (a := 0) (by omega) (by omega)), if_neg cz, mV12 S, e7, Option.bind_some, mV12 S7, wordHereM S7 hN d7, w7.2.2.2.2.1, Option.bind_some]
      have no : ∀ p, p = nxS b T c → ∃ h', ((gI h7 12 42 (some m)).bind fun v13 => some (Sum.inl (α := Int32 × IH) (β := Int32 × IH) ((-1) - v13, h7))).bind (ruTail N m) = some ((-1) - nI p, h') ∧ FrN m ar h h' := by
        intro p hp
        rw [mgI 42 S7.1, Option.bind_some, d7.1, Option.bind_some, hp]
        exact ⟨h7, rfl, f7⟩
      rcases wc b (nxS b T c) (nxE b T c) with ⟨q1, q2⟩ | ⟨q1, q2, q3, q4, q5, q6, q7, q8, q9⟩
      · rw [q2, if_pos (show (-1 : Int32) < 0 by decide), if_pos (Or.inl q1)]
        refine ⟨fun p hp => ?_, fun l hp => by cases hp⟩
        cases hp
        exact no _ rfl
      · rw [if_neg q5]
        by_cases c30 : k = 30
        · rw [if_pos (show nI k = 30 by rw [c30]; rfl), if_pos (Or.inr (Or.inl c30))]
          refine ⟨fun p hp => ?_, fun l hp => by cases hp⟩
          cases hp
          exact no _ rfl
        · have hk : k < 30 := by omega
          rw [if_neg (show ¬ nI k = 30 from fun z => c30 ((nI_eq (b := 30) (by omega) (by omega)).mp z)), isOpM, Option.bind_some, ite01]
          -- the two rows of the new word
          have wr : ∃ H, (∀ (K : IH → Option ((Int32 × IH) ⊕ (Int32 × IH))), ((gR h7 12 26 (some m)).bind fun v18 => (sI h7 v18 (nI k) (wCode b (nxS b T c) (nxE b T c - nxS b T c))).bind fun h19 => (gR h19 12 27 (some m)).bind fun v20 => ((if wCode b (nxS b T c) (nxE b T c - nxS b T c) = 10 then (cV h19 12 (some m) fun a23 => s_X12_numberHere N h19 a23).bind fun v22 => some v22.toInt32 else some 0) : Option (Int32)).bind fun q24 => (sI h19 v20 (nI k) q24).bind K) = K H) ∧ ShM H m ar ∧ FM m ar no1 no1 (fun i => i = 26 ∨ i = 27) no1 h7 H ∧ NwW H ar 26 27 (pre ++ [cCode b (nxS b T c) (nxE b T c)]) := by
            have S19 : ∀ g, ShM (setI h7 (ar 26) g) m ar := fun g => S7
            have ne : ar 26 ≠ ar 27 := fun z => absurd (S.2.2 26 27 (by decide) (by decide) z) (by decide)
            have ne28 : ar 28 ≠ ar 26 := fun z => absurd (S.2.2 28 26 (by decide) (by decide) z) (by decide)
            have w19 : ∀ g, WM (setI h7 (ar 26) g) m ar T (nxE b T c) b := fun g => ⟨w7.1, w7.2.1, w7.2.2.1, w7.2.2.2.1, by rw [rI_setI_ne _ _ ne28]; exact w7.2.2.2.2.1, w7.2.2.2.2.2⟩
            have nu : ∃ v, (∀ g, (if wCode b (nxS b T c) (nxE b T c - nxS b T c) = 10 then (cV (setI h7 (ar 26) g) 12 (some m) fun a23 => s_X12_numberHere N (setI h7 (ar 26) g) a23).bind fun v22 => some v22.toInt32 else some 0) = some v) ∧ (0 ≤ cCode b (nxS b T c) (nxE b T c) → v = cCode b (nxS b T c) (nxE b T c)) := by
              by_cases c10 : wCode b (nxS b T c) (nxE b T c - nxS b T c) = 10
              · refine ⟨_, fun g => ?_, fun _ => rfl⟩
                rw [if_pos c10, mV12 (S19 g), herMM (S19 g) hN (w19 g) d7 hb.2.1 hb.2.2, Option.bind_some, (cCode_num (q8 c10)).1]
              · exact ⟨0, fun g => by rw [if_neg c10], fun z => absurd (q9 z) c10⟩
            obtain ⟨v, nu1, nu2⟩ := nu
            refine ⟨setI (setI h7 (ar 26) (upd (rI h7 (ar 26)) k (wCode b (nxS b T c) (nxE b T c - nxS b T c)))) (ar 27) (upd (rI h7 (ar 27)) k v), fun K => ?_, S7, (Fr.sI _ _ _ ⟨26, Or.inl rfl, rfl⟩).trans (Fr.sI _ _ _ ⟨27, Or.inr rfl, rfl⟩), fun i hi => ?_⟩
            · rw [mgR 26 S7 (by decide), Option.bind_some, msI 26 k _ S7 (by decide) (show k < 30 by omega), Option.bind_some, mgR 27 (S19 _) (by decide), Option.bind_some, nu1, Option.bind_some, msI 27 k _ (S19 _) (by decide) (show k < 30 by omega), Option.bind_some, rI_setI_ne _ _ (fun z => ne z.symm)]
            · rw [List.length_append, hpre, List.length_singleton] at hi
              rw [rI_setI_ne _ _ ne, rI_setI, rI_setI, r7]
              unfold upd
              by_cases e : i = k
              · have eg : (pre ++ [cCode b (nxS b T c) (nxE b T c)]).getD i 0 = cCode b (nxS b T c) (nxE b T c) := by
                  rw [e, ← hpre]
                  simp [List.getD_eq_getElem?_getD]
                rw [if_pos e, if_pos e, eg]
                exact ⟨q4, nu2⟩
              · have eg : (pre ++ [cCode b (nxS b T c) (nxE b T c)]).getD i 0 = pre.getD i 0 := by
                  rw [List.getD_eq_getElem?_getD, List.getD_eq_getElem?_getD, List.getElem?_append_left (by omega)]
                rw [if_neg e, if_neg e, eg]
                exact nw i (by omega)
          obtain ⟨H, wr1, SH, fH, nH⟩ := wr
          have fH' : FM m ar no1 no1 rmR no1 h7 H := Fr.mono fH (fun f a q => q) (fun f a q => q) (fun a ⟨i, q, y⟩ => ⟨i, by unfold rmR; omega, y⟩) (fun a q => q)
          have wH := WM.fr S7 w7 fH'
          have r51 : rI H (ar 51) = rI h (ar 51) := by rw [mrI S7 fH (fun i q => by rcases q with q | q <;> subst q <;> decide) (by decide) (by omega), r7]
          have fNH : FrN m ar h H := f7.trans (Fr.mono fH' (fun f a q => q.1.elim) (fun f a q => q) (fun a q => q) (fun a q => q))
          -- going on with the next word
          have go : ∀ H2 x2, x2 = nI (stS d f (cCode b (nxS b T c) (nxE b T c))).1 → FM m ar no1 no1 (e1 51) no1 H H2 → LkM H2 ar (stS d f (cCode b (nxS b T c) (nxE b T c))).1 (stS d f (cCode b (nxS b T c) (nxE b T c))).2 → ¬ (0 < arC (cCode b (nxS b T c) (nxE b T c)) ∧ d = 8) → (∀ p, ((prs b T r (nxE b T c) (stS d f (cCode b (nxS b T c) (nxE b T c))).1 (stS d f (cCode b (nxS b T c) (nxE b T c))).2 (k + 1)).elim .inl (fun l => .inr (cCode b (nxS b T c) (nxE b T c) :: l)) : Nat ⊕ List Int32) = .inl p → ∃ h', (s_X12_rule_L29 N z m (nI k + 1) x2 H2).bind (ruTail N m) = some ((-1) - nI p, h') ∧ FrN m ar h h') ∧ (∀ l, ((prs b T r (nxE b T c) (stS d f (cCode b (nxS b T c) (nxE b T c))).1 (stS d f (cCode b (nxS b T c) (nxE b T c))).2 (k + 1)).elim .inl (fun l => .inr (cCode b (nxS b T c) (nxE b T c) :: l)) : Nat ⊕ List Int32) = .inr l → ∃ h', (s_X12_rule_L29 N z m (nI k + 1) x2 H2).bind (ruTail N m) = some (nI (k + l.length), h') ∧ k + l.length ≤ 30 ∧ FM m ar (fun f => rmF f ∨ f = 1223) no1 (fun i => rmR i ∨ i = 24 ∨ i = 25) no1 h h' ∧ fI h' 1223 m = nI (k + l.length) ∧ NwW h' ar 24 25 (pre ++ l)) := by
            intro H2 x2 hx f2 L2 c8
            have S2 := f2.shM SH
            have f2' : FM m ar no1 no1 rmR no1 H H2 := Fr.mono f2 (fun f a q => q) (fun f a q => q) (fun a ⟨i, q, y⟩ => ⟨i, Or.inr (Or.inr q), y⟩) (fun a q => q)
            have w2 := WM.fr SH wH f2'
            have e51 : mRow (e1 51) := fun i q => by cases q; decide
            have n2 : NwW H2 ar 26 27 (pre ++ [cCode b (nxS b T c) (nxE b T c)]) := by
              unfold NwW
              rw [mrI SH f2 e51 (by decide) (e1n (by decide)), mrI SH f2 e51 (by decide) (e1n (by decide))]
              exact nH
            have fN2 : FrN m ar h H2 := fNH.trans (Fr.mono f2' (fun f a q => q.1.elim) (fun f a q => q) (fun a q => q) (fun a q => q))
            have IH := ih z (nxE b T c) _ (k + 1) _ H2 (pre ++ [cCode b (nxS b T c) (nxE b T c)]) (by rw [List.length_append, hpre]; rfl) S2 w2 L2 (stS_ok _ o cz c8) n2 (by omega) (by omega) (by omega)
            rw [hx, nI_1]
            refine ⟨fun p hp => ?_, fun l hp => ?_⟩
            · cases hq : prs b T r (nxE b T c) (stS d f (cCode b (nxS b T c) (nxE b T c))).1 (stS d f (cCode b (nxS b T c) (nxE b T c))).2 (k + 1) with
              | inl p' =>
                rw [hq] at hp
                cases hp
                obtain ⟨h', b1, b2⟩ := IH.1 _ hq
                exact ⟨h', b1, fN2.trans b2⟩
              | inr l' =>
                rw [hq] at hp
                cases hp
            · cases hq : prs b T r (nxE b T c) (stS d f (cCode b (nxS b T c) (nxE b T c))).1 (stS d f (cCode b (nxS b T c) (nxE b T c))).2 (k + 1) with
              | inl p' =>
                rw [hq] at hp
                cases hp
              | inr l' =>
                rw [hq] at hp
                cases hp
                obtain ⟨h', b1, b2, b3, b4, b5⟩ := IH.2 _ hq
                have el : k + 1 + l'.length = k + (cCode b (nxS b T c) (nxE b T c) :: l').length := by rw [List.length_cons]; omega
                rw [el] at b1 b2 b4
                refine ⟨h', b1, b2, (Fr.mono fN2 (fun f a q => ⟨Or.inl q.1, q.2⟩) (fun f a q => q) (fun a ⟨i, q, y⟩ => ⟨i, Or.inl q, y⟩) (fun a q => q)).trans b3, b4, ?_⟩
                have : pre ++ cCode b (nxS b T c) (nxE b T c) :: l' = pre ++ [cCode b (nxS b T c) (nxE b T c)] ++ l' := by simp
                rw [this]
                exact b5
          by_cases c3 : 0 < arC (cCode b (nxS b T c) (nxE b T c))
          · rw [if_pos (q6.mpr c3)]
            by_cases c8 : d = 8
            · rw [if_pos (show nI d = 8 by rw [c8]; rfl), if_pos (Or.inr (Or.inr ⟨c3, c8⟩))]
              refine ⟨fun p hp => ?_, fun l hp => by cases hp⟩
              cases hp
              exact no _ rfl
            · rw [if_neg (show ¬ nI d = 8 from fun z => c8 ((nI_eq (b := 8) (by omega) (by omega)).mp z)), wr1, isOpM, Option.bind_some, ite01, if_pos (q6.mpr c3), if_neg (fun z => by
                rcases z with q | q | q
                · exact q1 q
                · exact c30 q
                · exact c8 q.2), mgR 51 SH (by decide), Option.bind_some]
              have ev : ((if wCode b (nxS b T c) (nxE b T c - nxS b T c) = 9 then some 3 else some 2) : Option Int32) = some (nI (arC (cCode b (nxS b T c) (nxE b T c)))) := by
                have h2 := arC_2 c3
                have h3 := arC_le (cCode b (nxS b T c) (nxE b T c))
                by_cases c9 : wCode b (nxS b T c) (nxE b T c - nxS b T c) = 9
                · rw [if_pos c9, q7.mp c9]
                  rfl
                · rw [if_neg c9, show arC (cCode b (nxS b T c) (nxE b T c)) = 2 from by
                    have : ¬ arC (cCode b (nxS b T c) (nxE b T c)) = 3 := fun z => c9 (q7.mpr z)
                    omega]
                  rfl
              rw [ev, Option.bind_some, nI_1, msI 51 (d + 1) _ SH (by decide) (show d + 1 < 9 by omega), Option.bind_some, Option.bind_some]
              dsimp only
              refine go _ _ ?_ (Fr.sI _ _ _ ⟨51, rfl, rfl⟩) ?_ (fun z => c8 z.2)
              · unfold stS
                rw [if_pos c3]
              · unfold stS
                rw [if_pos c3]
                intro i hi
                have hi : i ≤ d + 1 := hi
                rw [rI_setI, r51]
                show upd (rI h (ar 51)) (d + 1) _ i = nI (upN f (d + 1) _ i)
                unfold upd upN
                by_cases e : i = d + 1
                · rw [if_pos e, if_pos e]
                · rw [if_neg e, if_neg e]
                  exact L i (by omega)
          · rw [if_neg (fun z => c3 (q6.mp z)), wr1, isOpM, Option.bind_some, ite01, if_neg (fun z => c3 (q6.mp z)), if_neg (fun z => by
              rcases z with q | q | q
              · exact q1 q
              · exact c30 q
              · exact c3 q.1), mgR 51 SH (by decide), Option.bind_some, maI 51 d SH (by decide) (show d < 9 by omega), Option.bind_some, msI 51 d _ SH (by decide) (show d < 9 by omega), Option.bind_some, r51, L d (by omega), dec1 (hf d (by omega)).1]
            have S30 : ShM (setI H (ar 51) (upd (rI h (ar 51)) d (nI (f d - 1)))) m ar := SH
            obtain ⟨H2, b1, b2, b3⟩ := endLM (N := N) (nI k + 1) d N (setI H (ar 51) (upd (rI h (ar 51)) d (nI (f d - 1)))) f S30 hd (by omega) (fun i hi => (hf i (by omega)).1) (fun i hi => by
              rw [rI_setI]
              unfold upd
              by_cases e : i = d
              · rw [if_pos e, if_pos e, e]
              · rw [if_neg e, if_neg e]
                exact L i hi) (fun i hi => (hf i hi).2)
            rw [b1, Option.bind_some, Option.bind_some]
            dsimp only
            refine go _ _ ?_ ((Fr.sI _ _ _ ⟨51, rfl, rfl⟩).trans b2) ?_ (fun z => c3 z.1)
            · unfold stS
              rw [if_neg c3]
            · unfold stS
              rw [if_neg c3]
              exact b3
theorem ruleM {h : IH} {m : Nat} {ar : Nat → Nat} (S : ShM h m ar) {D : Dt} {N : Nat} (hN : 2000 ≤ N) (gT : MgT h m ar D) (gRu : MgR h m ar D) (wT : WgT D) : ∃ h', s_X12_rule N h m = some (ruleV D, h') ∧ FM m ar (fun f => rmF f ∨ f = 1223 ∨ f = 1229) no1 (fun i => rmR i ∨ i = 24 ∨ i = 25) no1 h h' ∧ MgT h' m ar (ruleD D) ∧ MgR h' m ar (ruleD D) := by
  have hT := wT.1
  have eR : s_X12_rule N h m = ((pI h 12 40 (some m) 0).bind fun h1 => (gI h1 12 29 (some m)).bind fun v2 => (pI h1 12 41 (some m) v2).bind fun h3 => (pI h3 12 29 (some m) 0).bind fun h4 => (gR h4 12 51 (some m)).bind fun v5 => (sI h4 v5 0 1).bind fun h6 => (s_X12_rule_L29 N N m 0 0 h6).bind (ruTail N m)) := rfl
  rw [eR]
  have S1 : ShM (wfI h (1200 + 40) m 0) m ar := S
  have S3 : ShM (wfI (wfI h (1200 + 40) m 0) (1200 + 41) m (nI (dT D))) m ar := S
  have S4 : ShM (wfI (wfI (wfI h (1200 + 40) m 0) (1200 + 41) m (nI (dT D))) (1200 + 29) m 0) m ar := S
  have s0 := msI 51 0 1 S4 (by decide) (show 0 < 9 by omega)
  rw [nI_0] at s0
  have t1 : fI (wfI h (1200 + 40) m 0) (1200 + 29) m = nI (dT D) := by
    rw [fI_wfI_ne _ _ (by decide)]
    exact gT.1
  rw [mpI 40 _ S.1, Option.bind_some, mgI 29 S1.1, Option.bind_some, t1, mpI 41 _ S1.1, Option.bind_some, mpI 29 _ S3.1, Option.bind_some, mgR 51 S4 (by decide), Option.bind_some, s0, Option.bind_some]
  generalize h6e : setI (wfI (wfI (wfI h (1200 + 40) m 0) (1200 + 41) m (nI (dT D))) (1200 + 29) m 0) (ar 51) (upd (rI (wfI (wfI (wfI h (1200 + 40) m 0) (1200 + 41) m (nI (dT D))) (1200 + 29) m 0) (ar 51)) 0 1) = H6
  have S6 : ShM H6 m ar := by rw [← h6e]; exact S
  have f6 : FM m ar (fun f => rmF f ∨ f = 1223 ∨ f = 1229) no1 (fun i => rmR i ∨ i = 24 ∨ i = 25) no1 h H6 := by
    rw [← h6e]
    exact (((Fr.wI _ _ _ _ ⟨Or.inl ⟨by omega, by omega⟩, rfl⟩).trans (Fr.wI _ _ _ _ ⟨Or.inl ⟨by omega, by omega⟩, rfl⟩)).trans (Fr.wI _ _ _ _ ⟨Or.inr (Or.inr rfl), rfl⟩)).trans (Fr.sI _ _ _ ⟨51, Or.inl (Or.inr (Or.inr rfl)), rfl⟩)
  have ne : ∀ {k}, mKd k ≠ 0 → k ≠ 51 → ar k ≠ ar 51 := fun h1 h2 z => h2 (S.2.2 _ _ h1 (by decide) z)
  have r6 : ∀ k, mKd k ≠ 0 → k ≠ 51 → rI H6 (ar k) = rI h (ar k) := fun k h1 h2 => by
    rw [← h6e, rI_setI_ne _ _ (ne h1 h2)]
    rfl
  have w6 : WM H6 m ar (dT D) 0 (dB D) := by
    refine ⟨?_, hT, ?_, Nat.zero_le _, ?_, fun j hj => wT.2 j (by omega)⟩
    · rw [← h6e, fI_setI, fI_wfI_ne _ _ (by decide)]
      exact fI_wfI _ _ _ _
    · rw [← h6e, fI_setI, fI_wfI_ne _ _ (by decide), fI_wfI_ne _ _ (by decide)]
      exact fI_wfI _ _ _ _
    · rw [r6 28 (by decide) (by decide)]
      exact gT.2
  have L6 : LkM H6 ar 0 (fun _ => 1) := by
    intro i hi
    have : i = 0 := by omega
    subst this
    rw [← h6e, rI_setI]
    unfold upd
    rw [if_pos rfl]
    rfl
  have t6 : fI H6 1229 m = 0 := by
    rw [← h6e, fI_setI]
    exact fI_wfI _ _ _ _
  have n6 : fI H6 1223 m = fI h 1223 m := by
    rw [← h6e, fI_setI, fI_wfI_ne _ _ (by decide), fI_wfI_ne _ _ (by decide), fI_wfI_ne _ _ (by decide)]
  have R := rdRM hN 32 N 0 0 0 (fun _ => 1) H6 [] rfl S6 w6 L6 ⟨by omega, Or.inr (fun i _ => ⟨Nat.le_refl 1, show 1 ≤ 3 by decide⟩)⟩ (fun i hi => absurd hi (Nat.not_lt_zero i)) (by omega) (by omega) (by omega)
  rw [nI_0] at R
  unfold ruleV ruleD
  cases hp : rule0 D with
  | inl p =>
    obtain ⟨h', a1, a2⟩ := R.1 p hp
    rw [a1]
    refine ⟨h', rfl, f6.trans (Fr.mono a2 (fun f a q => ⟨Or.inl q.1, q.2⟩) (fun f a q => q) (fun a ⟨i, q, y⟩ => ⟨i, Or.inl q, y⟩) (fun a q => q)), ⟨?_, ?_⟩, ⟨?_, ?_⟩⟩
    · rw [mfI a2 (by unfold rmF; omega), t6]
      rfl
    · rw [mrI S6 a2 rmR_row (by decide) (by unfold rmR; omega), r6 28 (by decide) (by decide)]
      exact gT.2
    · rw [mfI a2 (by unfold rmF; omega), n6]
      exact gRu.1
    · rw [mrI S6 a2 rmR_row (by decide) (by unfold rmR; omega), r6 24 (by decide) (by decide), mrI S6 a2 rmR_row (by decide) (by unfold rmR; omega), r6 25 (by decide) (by decide)]
      exact gRu.2
  | inr l =>
    obtain ⟨h', a1, a2, a3, a4, a5⟩ := R.2 l hp
    rw [Nat.zero_add] at a1 a2 a4
    rw [List.nil_append] at a5
    rw [a1]
    have row : mRow (fun i => rmR i ∨ i = 24 ∨ i = 25) := fun i q => by
      rcases q with q | q | q
      · exact rmR_row i q
      · subst q; decide
      · subst q; decide
    refine ⟨h', rfl, f6.trans (Fr.mono a3 (fun f a q => ⟨by rcases q.1 with z | z; exact Or.inl z; exact Or.inr (Or.inl z), q.2⟩) (fun f a q => q) (fun a q => q) (fun a q => q)), ⟨?_, ?_⟩, ⟨a4, fun i hi => a5 i hi⟩⟩
    · rw [mfI a3 (by unfold rmF; omega), t6]
      rfl
    · rw [mrI S6 a3 row (by decide) (by unfold rmR; omega), r6 28 (by decide) (by decide)]
      exact gT.2
