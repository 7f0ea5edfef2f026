/-! ===== a log read from the tape: the reference ===== -/
theorem lend24 {h : IH} {m : Nat} {ar : Nat → Nat} (S : ShM h m ar) {T N : Nat} {b : Nat → Int32} (hT : T ≤ 1000) (t2 : rI h (ar 28) = b) (x1 x2 x4 x5 x6 : Int32) : ∀ r k z, k + r = T → r < z → s_X12_readLines_L24 N z m x1 x2 (nI T) x4 x5 x6 (nI k) h = some (nI (scn b noNl r k)) := by
  intro r
  induction r with
  | zero =>
    intro k z hk hz
    obtain ⟨z, rfl⟩ : ∃ y, z = y + 1 := ⟨z - 1, by omega⟩
    rw [s_X12_readLines_L24.eq_2, if_pos (nI_le (by omega) (by omega))]
    rfl
  | succ r ih =>
    intro k z hk hz
    obtain ⟨z, rfl⟩ : ∃ y, z = y + 1 := ⟨z - 1, by omega⟩
    unfold scn
    rw [s_X12_readLines_L24.eq_2, if_neg (nI_ge (by omega) (by omega)), mgR 28 S (by decide), Option.bind_some, mb S (by omega), Option.bind_some, t2]
    by_cases c : b k = 10
    · rw [if_pos c, if_neg (by simp [noNl, c])]
    · rw [if_neg c, nI_1, ih (k + 1) z (by omega) (by omega), if_pos (by simp [noNl, c])]
/-- an entry's words in the reference, of a line read from b -/
def LnE (h : IH) (ar : Nat → Nat) (e : Nat) (b : Nat → Int32) (x : LnT) : Prop := rI h (ar 10) e = x.1 ∧ rL h (ar 11) e = x.2.1 ∧ rL h (ar 12) e = x.2.2.1 ∧ rI h (ar 13) e = nI x.2.2.2.2.1 ∧ (∀ k, k < x.2.2.2.2.1 → rI h (ar 14) (6 * e + k) = b (x.2.2.2.1 + k)) ∧ rI h (ar 15) e = x.2.2.2.2.2.1 ∧ rI h (ar 16) e = x.2.2.2.2.2.2
def wrR_ (k : Nat) : Prop := k = 10 ∨ k = 13 ∨ k = 14 ∨ k = 15 ∨ k = 16
def wrQ_ (k : Nat) : Prop := k = 11 ∨ k = 12
/-- outside entry e nothing of the entries' words changes -/
def SmE (h h' : IH) (ar : Nat → Nat) (e : Nat) : Prop := (∀ i, i ≠ e → rI h' (ar 10) i = rI h (ar 10) i ∧ rL h' (ar 11) i = rL h (ar 11) i ∧ rL h' (ar 12) i = rL h (ar 12) i ∧ rI h' (ar 13) i = rI h (ar 13) i ∧ rI h' (ar 15) i = rI h (ar 15) i ∧ rI h' (ar 16) i = rI h (ar 16) i) ∧ ∀ i, i < 6 * e ∨ 6 * e + 6 ≤ i → rI h' (ar 14) i = rI h (ar 14) i
theorem pLine_ok {b : Nat → Int32} {l c : Nat} (hc : c ≤ l) (x : LnT) (h : (pLine b l c).2 = some x) : (x.1 = 0 ∨ x.1 = 1 ∨ x.1 = 2) ∧ in6 x.2.1 0 9999999999 ∧ in6 x.2.2.1 0 9999999999 ∧ x.2.2.2.2.1 ≤ 6 ∧ (x.1 = 0 → 1 ≤ x.2.2.2.2.1 ∧ allB clB b x.2.2.2.2.1 x.2.2.2.1 = true) ∧ in_ x.2.2.2.2.2.1 (-1) 99999 ∧ in_ x.2.2.2.2.2.2 (-1) 99999 ∧ x.2.2.2.1 + x.2.2.2.2.1 ≤ l ∧ (x.1 ≠ 0 → x.2.2.2.2.1 = 0) := by
  have m1 : in_ (-1) (-1) 99999 := ⟨by decide, by decide⟩
  have z6 : in6 0 0 9999999999 := ⟨by decide, by decide⟩
  have n10 : ∀ s e, numOk b s e 10 = true → in6 (numV b (e - s) s 0) 0 9999999999 := fun s e q => by
    have := numV_ok (by omega) q
    have e10 : (10 : Int) ^ 10 = 10000000000 := by decide
    rw [e10] at this
    exact ⟨this.1, by omega⟩
  have n5 : ∀ s e, numOk b s e 5 = true → in_ (numV b (e - s) s 0).toInt32 (-1) 99999 := fun s e q => by
    have := numV5 q
    exact ⟨by omega, by omega⟩
  have hb1 := nx_bd b hc
  have hb2 := nx_bd b hb1.2.2
  have hb3 := nx_bd b hb2.2.2
  have hb4 := nx_bd b hb3.2.2
  have hb5 := nx_bd b hb4.2.2
  unfold pLine at h
  split at h
  · obtain ⟨y, hy, rfl⟩ := Option.map_eq_some_iff.mp h
    unfold pCon at hy
    split at hy
    · rename_i q1
      unfold pCon2 at hy
      split at hy
      · rename_i q2
        have q2 := of_decide_eq_true q2
        have fin : ∀ sn gt : Int32, in_ sn (-1) 99999 → in_ gt (-1) 99999 → y = (numV b (nxE b l (nxE b l c) - nxS b l (nxE b l c)) (nxS b l (nxE b l c)) 0, nxS b l (nxE b l (nxE b l c)), nxE b l (nxE b l (nxE b l c)) - nxS b l (nxE b l (nxE b l c)), sn, gt) → ((0 : Int32) = 0 ∨ (0 : Int32) = 1 ∨ (0 : Int32) = 2) ∧ in6 y.1 0 9999999999 ∧ in6 0 0 9999999999 ∧ y.2.2.1 ≤ 6 ∧ ((0 : Int32) = 0 → 1 ≤ y.2.2.1 ∧ allB clB b y.2.2.1 y.2.1 = true) ∧ in_ y.2.2.2.1 (-1) 99999 ∧ in_ y.2.2.2.2 (-1) 99999 ∧ y.2.1 + y.2.2.1 ≤ l ∧ ((0 : Int32) ≠ 0 → y.2.2.1 = 0) := by
          intro sn gt h1 h2 e
          subst e
          exact ⟨Or.inl rfl, n10 _ _ q1, z6, q2.2.1, fun _ => ⟨q2.1, q2.2.2⟩, h1, h2, show nxS b l (nxE b l (nxE b l c)) + (nxE b l (nxE b l (nxE b l c)) - nxS b l (nxE b l (nxE b l c))) ≤ l by omega, fun z => absurd rfl z⟩
        unfold pCon3 at hy
        split at hy
        · split at hy
          · rename_i q4
            unfold pCon4 at hy
            split at hy
            · split at hy
              · rename_i q6
                unfold pEnd at hy
                split at hy
                · cases hy
                · cases hy
                  exact fin _ _ (n5 _ _ q4) (n5 _ _ q6) rfl
              · cases hy
            · cases hy
              exact fin _ _ (n5 _ _ q4) m1 rfl
          · cases hy
        · cases hy
          exact fin _ _ m1 m1 rfl
      · cases hy
    · cases hy
  · split at h
    · obtain ⟨y, hy, rfl⟩ := Option.map_eq_some_iff.mp h
      unfold pRes at hy
      split at hy
      · rename_i q1
        unfold pRes2 at hy
        split at hy
        · rename_i q2
          unfold pEnd at hy
          split at hy
          · cases hy
          · cases hy
            exact ⟨Or.inr (Or.inl rfl), n10 _ _ q1, n10 _ _ q2, Nat.zero_le _, fun z => absurd z (show ¬ (1 : Int32) = 0 by decide), m1, m1, Nat.zero_le _, fun _ => rfl⟩
        · cases hy
      · cases hy
    · split at h
      · cases h
        exact ⟨Or.inr (Or.inr rfl), z6, z6, Nat.zero_le _, fun z => absurd z (show ¬ (2 : Int32) = 0 by decide), m1, m1, Nat.zero_le _, fun _ => rfl⟩
      · cases h
theorem writeM {h : IH} {m : Nat} {ar : Nat → Nat} (S : ShM h m ar) {N e l : Nat} {b : Nat → Int32} {x : LnT} (hN : 2000 ≤ N) (he : e < 576) (hl : l ≤ 1000) (t2 : rI h (ar 28) = b) (hx : LnM h m x) (h6 : x.2.2.2.2.1 ≤ 6) (h0 : x.1 ≠ 0 → x.2.2.2.2.1 = 0) (hcl : x.2.2.2.1 + x.2.2.2.2.1 ≤ l) : ∃ h', s_X12_write N h m (nI e) = some h' ∧ FM m ar no1 no1 wrR_ wrQ_ h h' ∧ LnE h' ar e b x ∧ SmE h h' ar e := by
  obtain ⟨y1, y2, y3, y4, y5, y6, y7⟩ := hx
  have nr : ∀ {j k}, mKd j ≠ 0 → mKd k ≠ 0 → j ≠ k → ar j ≠ ar k := fun h1 h2 h3 z => h3 (S.2.2 _ _ h1 h2 z)
  unfold s_X12_write
  rw [mgR 10 S (by decide), Option.bind_some, mgI 44 S.1, Option.bind_some, y1, msI 10 e _ S (by decide) he, Option.bind_some]
  generalize h3e : setI h (ar 10) (upd (rI h (ar 10)) e x.1) = H3
  have S3 : ShM H3 m ar := by rw [← h3e]; exact S
  have l3 : fL H3 = fL h := by rw [← h3e]; rfl
  have i3 : fI H3 = fI h := by rw [← h3e]; rfl
  have q3 : rL H3 = rL h := by rw [← h3e]; rfl
  rw [mgR 11 S3 (by decide), Option.bind_some, mgL 45 S3.1, Option.bind_some, l3, y2, msJ 11 e _ S3 (by decide) he, Option.bind_some]
  generalize h6e : setJ H3 (ar 11) (vp_updL (rL H3 (ar 11)) e x.2.1) = H6
  have S6 : ShM H6 m ar := by rw [← h6e]; exact S3
  have l6 : fL H6 = fL h := by rw [← h6e]; exact l3
  have i6 : fI H6 = fI h := by rw [← h6e]; exact i3
  rw [mgR 12 S6 (by decide), Option.bind_some, mgL 46 S6.1, Option.bind_some, l6, y3, msJ 12 e _ S6 (by decide) he, Option.bind_some]
  generalize h9e : setJ H6 (ar 12) (vp_updL (rL H6 (ar 12)) e x.2.2.1) = H9
  have S9 : ShM H9 m ar := by rw [← h9e]; exact S6
  have i9 : fI H9 = fI h := by rw [← h9e]; exact i6
  rw [mgR 13 S9 (by decide), Option.bind_some, mgI 48 S9.1, Option.bind_some, i9, y5, msI 13 e _ S9 (by decide) he, Option.bind_some]
  generalize h12e : setI H9 (ar 13) (upd (rI H9 (ar 13)) e (nI x.2.2.2.2.1)) = H12
  have S12 : ShM H12 m ar := by rw [← h12e]; exact S9
  have i12 : fI H12 = fI h := by rw [← h12e]; exact i9
  have r28 : rI H12 (ar 28) = b := by
    rw [← h12e, rI_setI_ne _ _ (nr (by decide) (by decide) (by decide)), ← h9e, rI_setJ, ← h6e, rI_setJ, ← h3e, rI_setI_ne _ _ (nr (by decide) (by decide) (by decide)), t2]
  have r14 : rI H12 (ar 14) = rI h (ar 14) := by
    rw [← h12e, rI_setI_ne _ _ (nr (by decide) (by decide) (by decide)), ← h9e, rI_setJ, ← h6e, rI_setJ, ← h3e, rI_setI_ne _ _ (nr (by decide) (by decide) (by decide))]
  have L : ∀ r k z (g : Nat → Int32), k + r = x.2.2.2.2.1 → r < z → (∀ i, i < k → g (6 * e + i) = b (x.2.2.2.1 + i)) → (∀ i, i < 6 * e ∨ 6 * e + 6 ≤ i → g i = rI h (ar 14) i) → ∃ g', s_X12_write_L42 N z m (nI e) (nI k) (setI H12 (ar 14) g) = some (setI H12 (ar 14) g') ∧ (∀ i, i < x.2.2.2.2.1 → g' (6 * e + i) = b (x.2.2.2.1 + i)) ∧ (∀ i, i < 6 * e ∨ 6 * e + 6 ≤ i → g' i = rI h (ar 14) i) := by
    intro r
    induction r with
    | zero =>
      intro k z g hk hz q1 q2
      obtain ⟨z, rfl⟩ : ∃ y, z = y + 1 := ⟨z - 1, by omega⟩
      have SS : ShM (setI H12 (ar 14) g) m ar := S12
      rw [s_X12_write_L42.eq_2, mgI 48 SS.1, Option.bind_some, fI_setI, i12, y5, if_pos (nI_le (by omega) (by omega))]
      exact ⟨g, rfl, fun i hi => q1 i (by omega), q2⟩
    | succ r ih =>
      intro k z g hk hz q1 q2
      obtain ⟨z, rfl⟩ : ∃ y, z = y + 1 := ⟨z - 1, by omega⟩
      have SS : ShM (setI H12 (ar 14) g) m ar := S12
      have y4 : fI h 1247 m = nI x.2.2.2.1 := y4 (Decidable.byContradiction (fun z => by have := h0 z; omega))
      rw [s_X12_write_L42.eq_2, mgI 48 SS.1, Option.bind_some, fI_setI, i12, y5, if_neg (nI_ge (by omega) (by omega)), mgR 14 SS (by decide), Option.bind_some, mgR 28 SS (by decide), Option.bind_some, mgI 47 SS.1, Option.bind_some, fI_setI, i12, y4, nI_add, mb SS (by omega), Option.bind_some, rI_setI_ne _ _ (nr (by decide) (by decide) (by decide)), r28, show (6 : Int32) = nI 6 from rfl, nI_mul, nI_add, msI 14 _ _ SS (by decide) (show 6 * e + k < 3456 by omega), Option.bind_some, setI_setI, rI_setI, nI_1]
      refine ih (k + 1) z _ (by omega) (by omega) (fun i hi => ?_) (fun i hi => ?_)
      · unfold upd
        by_cases c : i = k
        · rw [c, if_pos rfl]
        · rw [if_neg (by omega)]
          exact q1 i (by omega)
      · unfold upd
        rw [if_neg (by omega)]
        exact q2 i hi
  have self : setI H12 (ar 14) (rI H12 (ar 14)) = H12 := by
    have e2 : (fun x => if x = ar 14 then rI H12 (ar 14) else H12.2.2.2.2.2.2.1 x) = H12.2.2.2.2.2.2.1 := by
      funext x
      by_cases e : x = ar 14
      · rw [if_pos e, e]
        rfl
      · rw [if_neg e]
    show (_, _, _, _, _, _, (fun x => if x = ar 14 then rI H12 (ar 14) else H12.2.2.2.2.2.2.1 x), _) = H12
    rw [e2]
  obtain ⟨g', e1, e2, e3⟩ := L x.2.2.2.2.1 0 N (rI H12 (ar 14)) (by omega) (by omega) (fun i hi => absurd hi (by omega)) (fun i _ => by rw [r14])
  rw [self, nI_0] at e1
  rw [e1, Option.bind_some]
  generalize h20e : setI H12 (ar 14) g' = H20
  have S20 : ShM H20 m ar := by rw [← h20e]; exact S12
  have i20 : fI H20 = fI h := by rw [← h20e]; exact i12
  rw [mgR 15 S20 (by decide), Option.bind_some, mgI 49 S20.1, Option.bind_some, i20, y6, msI 15 e _ S20 (by decide) he, Option.bind_some]
  generalize h23e : setI H20 (ar 15) (upd (rI H20 (ar 15)) e x.2.2.2.2.2.1) = H23
  have S23 : ShM H23 m ar := by rw [← h23e]; exact S20
  have i23 : fI H23 = fI h := by rw [← h23e]; exact i20
  rw [mgR 16 S23 (by decide), Option.bind_some, mgI 50 S23.1, Option.bind_some, i23, y7, msI 16 e _ S23 (by decide) he, Option.bind_some]
  have t10 : rI (setI H23 (ar 16) (upd (rI H23 (ar 16)) e x.2.2.2.2.2.2)) (ar 10) = upd (rI h (ar 10)) e x.1 := by
    rw [rI_setI_ne _ _ (nr (by decide) (by decide) (by decide)), ← h23e, rI_setI_ne _ _ (nr (by decide) (by decide) (by decide)), ← h20e, rI_setI_ne _ _ (nr (by decide) (by decide) (by decide)), ← h12e, rI_setI_ne _ _ (nr (by decide) (by decide) (by decide)), ← h9e, rI_setJ, ← h6e, rI_setJ, ← h3e, rI_setI]
  have t13 : rI (setI H23 (ar 16) (upd (rI H23 (ar 16)) e x.2.2.2.2.2.2)) (ar 13) = upd (rI h (ar 13)) e (nI x.2.2.2.2.1) := by
    rw [rI_setI_ne _ _ (nr (by decide) (by decide) (by decide)), ← h23e, rI_setI_ne _ _ (nr (by decide) (by decide) (by decide)), ← h20e, rI_setI_ne _ _ (nr (by decide) (by decide) (by decide)), ← h12e, rI_setI, ← h9e, rI_setJ, ← h6e, rI_setJ, ← h3e, rI_setI_ne _ _ (nr (by decide) (by decide) (by decide))]
  have t14 : rI (setI H23 (ar 16) (upd (rI H23 (ar 16)) e x.2.2.2.2.2.2)) (ar 14) = g' := by
    rw [rI_setI_ne _ _ (nr (by decide) (by decide) (by decide)), ← h23e, rI_setI_ne _ _ (nr (by decide) (by decide) (by decide)), ← h20e, rI_setI]
  have t15 : rI (setI H23 (ar 16) (upd (rI H23 (ar 16)) e x.2.2.2.2.2.2)) (ar 15) = upd (rI h (ar 15)) e x.2.2.2.2.2.1 := by
    rw [rI_setI_ne _ _ (nr (by decide) (by decide) (by decide)), ← h23e, rI_setI, ← h20e, rI_setI_ne _ _ (nr (by decide) (by decide) (by decide)), ← h12e, rI_setI_ne _ _ (nr (by decide) (by decide) (by decide)), ← h9e, rI_setJ, ← h6e, rI_setJ, ← h3e, rI_setI_ne _ _ (nr (by decide) (by decide) (by decide))]
  have t16 : rI (setI H23 (ar 16) (upd (rI H23 (ar 16)) e x.2.2.2.2.2.2)) (ar 16) = upd (rI h (ar 16)) e x.2.2.2.2.2.2 := by
    rw [rI_setI, ← h23e, rI_setI_ne _ _ (nr (by decide) (by decide) (by decide)), ← h20e, rI_setI_ne _ _ (nr (by decide) (by decide) (by decide)), ← h12e, rI_setI_ne _ _ (nr (by decide) (by decide) (by decide)), ← h9e, rI_setJ, ← h6e, rI_setJ, ← h3e, rI_setI_ne _ _ (nr (by decide) (by decide) (by decide))]
  have tL : rL (setI H23 (ar 16) (upd (rI H23 (ar 16)) e x.2.2.2.2.2.2)) = rL H9 := by rw [rL_setI, ← h23e, rL_setI, ← h20e, rL_setI, ← h12e, rL_setI]
  have t11 : rL H9 (ar 11) = vp_updL (rL h (ar 11)) e x.2.1 := by
    rw [← h9e, rL_setJ_ne _ _ (nr (by decide) (by decide) (by decide)), ← h6e, rL_setJ, q3]
  have t12 : rL H9 (ar 12) = vp_updL (rL h (ar 12)) e x.2.2.1 := by
    rw [← h9e, rL_setJ, ← h6e, rL_setJ_ne _ _ (nr (by decide) (by decide) (by decide)), q3]
  refine ⟨_, rfl, ?_, ?_, ?_⟩
  · rw [← h23e, ← h20e, ← h12e, ← h9e, ← h6e, ← h3e]
    exact ((((((Fr.sI _ _ _ ⟨10, Or.inl rfl, rfl⟩).trans (Fr.sJ _ _ _ ⟨11, Or.inl rfl, rfl⟩)).trans (Fr.sJ _ _ _ ⟨12, Or.inr rfl, rfl⟩)).trans (Fr.sI _ _ _ ⟨13, Or.inr (Or.inl rfl), rfl⟩)).trans (Fr.sI _ _ _ ⟨14, Or.inr (Or.inr (Or.inl rfl)), rfl⟩)).trans (Fr.sI _ _ _ ⟨15, Or.inr (Or.inr (Or.inr (Or.inl rfl))), rfl⟩)).trans (Fr.sI _ _ _ ⟨16, Or.inr (Or.inr (Or.inr (Or.inr rfl))), rfl⟩)
  · unfold LnE
    rw [t10, t13, t14, t15, t16, tL, t11, t12]
    unfold upd vp_updL
    exact ⟨if_pos rfl, if_pos rfl, if_pos rfl, if_pos rfl, e2, if_pos rfl, if_pos rfl⟩
  · unfold SmE
    rw [t10, t13, t14, t15, t16, tL, t11, t12]
    unfold upd vp_updL
    exact ⟨fun i hi => ⟨if_neg hi, if_neg hi, if_neg hi, if_neg hi, if_neg hi, if_neg hi⟩, e3⟩
