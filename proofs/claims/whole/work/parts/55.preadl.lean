def SmR (h h' : IH) (ar : Nat → Nat) (lo hi : Nat) : Prop := (∀ i, i < lo ∨ hi ≤ i → rI h' (ar 10) i = rI h (ar 10) i ∧ rL h' (ar 11) i = rL h (ar 11) i ∧ rL h' (ar 12) i = rL h (ar 12) i ∧ rI h' (ar 13) i = rI h (ar 13) i ∧ rI h' (ar 15) i = rI h (ar 15) i ∧ rI h' (ar 16) i = rI h (ar 16) i) ∧ ∀ i, i < 6 * lo ∨ 6 * hi ≤ i → rI h' (ar 14) i = rI h (ar 14) i
theorem SmR.refl (h : IH) (ar : Nat → Nat) (lo hi : Nat) : SmR h h ar lo hi := ⟨fun _ _ => ⟨rfl, rfl, rfl, rfl, rfl, rfl⟩, fun _ _ => rfl⟩
theorem SmR.trans {h h1 h2 : IH} {ar : Nat → Nat} {lo hi : Nat} (x : SmR h h1 ar lo hi) (y : SmR h1 h2 ar lo hi) : SmR h h2 ar lo hi := by
  refine ⟨fun i hi => ?_, fun i hi => (y.2 i hi).trans (x.2 i hi)⟩
  obtain ⟨a1, a2, a3, a4, a5, a6⟩ := x.1 i hi
  obtain ⟨b1, b2, b3, b4, b5, b6⟩ := y.1 i hi
  exact ⟨b1.trans a1, b2.trans a2, b3.trans a3, b4.trans a4, b5.trans a5, b6.trans a6⟩
theorem SmR.mono {h h1 : IH} {ar : Nat → Nat} {lo hi lo' hi' : Nat} (x : SmR h h1 ar lo hi) (q1 : lo' ≤ lo) (q2 : hi ≤ hi') : SmR h h1 ar lo' hi' := ⟨fun i q => x.1 i (by omega), fun i q => x.2 i (by omega)⟩
theorem SmE.toR {h h' : IH} {ar : Nat → Nat} {e : Nat} (x : SmE h h' ar e) : SmR h h' ar e (e + 1) := ⟨fun i q => x.1 i (by omega), fun i q => x.2 i (by omega)⟩
theorem SmR.fr {h : IH} {m : Nat} {ar : Nat → Nat} (S : ShM h m ar) {h' : IH} {F G R Q : Nat → Prop} (x : FM m ar F G R Q h h') (hR : mRow R) (hQ : mRow Q) (r1 : ∀ k, R k → k < 9 ∨ 16 < k) (q1 : ∀ k, Q k → k < 9 ∨ 16 < k) (lo hi : Nat) : SmR h h' ar lo hi := by
  have c : ∀ f, 9 ≤ f → f ≤ 16 → ¬ R f := fun f h1 h2 z => by have := r1 f z; omega
  have d : ∀ f, 9 ≤ f → f ≤ 16 → ¬ Q f := fun f h1 h2 z => by have := q1 f z; omega
  unfold SmR
  rw [mrI S x hR (by decide) (c 10 (by omega) (by omega)), mrL S x hQ (by decide) (d 11 (by omega) (by omega)), mrL S x hQ (by decide) (d 12 (by omega) (by omega)), mrI S x hR (by decide) (c 13 (by omega) (by omega)), mrI S x hR (by decide) (c 14 (by omega) (by omega)), mrI S x hR (by decide) (c 15 (by omega) (by omega)), mrI S x hR (by decide) (c 16 (by omega) (by omega))]
  exact SmR.refl h ar lo hi
theorem LnE.keep {h h' : IH} {ar : Nat → Nat} {lo hi e : Nat} {b : Nat → Int32} {x : LnT} (q : LnE h ar e b x) (s : SmR h h' ar lo hi) (he : e < lo ∨ hi ≤ e) (h6 : x.2.2.2.2.1 ≤ 6) : LnE h' ar e b x := by
  obtain ⟨a1, a2, a3, a4, a5, a6⟩ := s.1 e he
  unfold LnE
  rw [a1, a2, a3, a4, a5, a6]
  refine ⟨q.1, q.2.1, q.2.2.1, q.2.2.2.1, fun k hk => ?_, q.2.2.2.2.2⟩
  rw [s.2 _ (by omega)]
  exact q.2.2.2.2.1 k hk
def rdF (f : Nat) : Prop := f = 1230 ∨ (1240 ≤ f ∧ f ≤ 1250)
def rdG (f : Nat) : Prop := 1245 ≤ f ∧ f ≤ 1246
def rdR (wr : Bool) (i : Nat) : Prop := i = 31 ∨ (wr = true ∧ wrR_ i)
def rdQ (wr : Bool) (i : Nat) : Prop := wr = true ∧ wrQ_ i
theorem rdR_row (wr : Bool) : mRow (rdR wr) := fun i q => by
  rcases q with q | ⟨_, q | q | q | q | q⟩ <;> subst q <;> decide
theorem rdQ_row (wr : Bool) : mRow (rdQ wr) := fun i q => by
  rcases q with ⟨_, q | q⟩ <;> subst q <;> decide
abbrev FrD (m : Nat) (ar : Nat → Nat) (wr : Bool) : IH → IH → Prop := FM m ar rdF rdG (rdR wr) (rdQ wr)
theorem FrM.toD {m : Nat} {ar : Nat → Nat} {wr : Bool} {h h' : IH} (x : FrM m h h') : FrD m ar wr h h' := Fr.mono x (fun f a q => ⟨Or.inr ⟨q.2.1, q.2.2.1⟩, q.1⟩) (fun f a q => ⟨q.2, q.1⟩) (fun a q => q.elim) (fun a q => q.elim)
theorem lineB {h : IH} {m : Nat} {ar : Nat → Nat} (S : ShM h m ar) {T c l N : Nat} {b : Nat → Int32} (hN : 2000 ≤ N) (t2 : rI h (ar 28) = b) (hB : Byt b 1000) (hc : c ≤ l) (hl : l ≤ T) (hT : T ≤ 1000) : ∃ h', ((pI h 12 40 (some m) (nI c)).bind fun h8 => (pI h8 12 41 (some m) (nI l)).bind fun h9 => cV h9 12 (some m) fun a23 => s_X12_isLine N h9 a23) = some (bI (pLine b l c).2.isSome, h') ∧ (∀ wr, FrD m ar wr h h') ∧ FM m ar (fun f => 1240 ≤ f ∧ f ≤ 1250) rdG no1 no1 h h' ∧ fI h' 1242 m = nI (pLine b l c).1 ∧ ∀ x, (pLine b l c).2 = some x → LnM h' m x := by
  have S2 : ShM (wfI (wfI h 1240 m (nI c)) 1241 m (nI l)) m ar := S
  have w : WM (wfI (wfI h 1240 m (nI c)) 1241 m (nI l)) m ar l c b := ⟨fI_wfI _ _ _ _, by omega, by rw [fI_wfI_ne _ _ (by decide), fI_wfI], hc, t2, fun j hj => hB j (by omega)⟩
  obtain ⟨h', e, f, p, x⟩ := lineM S2 hN w
  have f2 : FM m ar (fun f => 1240 ≤ f ∧ f ≤ 1250) rdG no1 no1 h h' := ((Fr.wI _ _ _ _ ⟨⟨by omega, by omega⟩, rfl⟩).trans (Fr.wI _ _ _ _ ⟨⟨by omega, by omega⟩, rfl⟩)).trans (Fr.mono f (fun f a q => ⟨⟨q.2.1, q.2.2.1⟩, q.1⟩) (fun f a q => ⟨q.2, q.1⟩) (fun a q => q.elim) (fun a q => q.elim))
  refine ⟨h', ?_, fun wr => Fr.mono f2 (fun f a q => ⟨Or.inr q.1, q.2⟩) (fun f a q => q) (fun a ⟨i, q, _⟩ => q.elim) (fun a ⟨i, q, _⟩ => q.elim), f2, p, x⟩
  rw [mpI 40 _ S.1, Option.bind_some, mpI 41 _ (show kd (wfI h (1200 + 40) m (nI c)) m = 13 from S.1), Option.bind_some, mV12 S2]
  exact e
theorem readLM {m : Nat} {ar : Nat → Nat} {T N q : Nat} {b : Nat → Int32} (wr : Bool) (hN : 2000 ≤ N) (hT : T ≤ 1000) (hB : Byt b 1000) (hq : q < 36) : ∀ (r z c k w j : Nat) (h : IH), ShM h m ar → rI h (ar 28) = b → fI h 1230 m = nI w → T < c + r → r < z → w ≤ c → c ≤ T + 1 → k ≤ c → (wr = true → k + (gdL b T r c).length ≤ 16) → ∃ h', s_X12_readLines_L14 N z m (nI q) (bI wr) (nI T) (nI j) (nI c) (nI k) h = some (nI (k + (gdL b T r c).length), h') ∧ FrD m ar wr h h' ∧ fI h' 1230 m = nI (w + (wrL_ b T r c j).length) ∧ (∀ i, i < w → rI h' (ar 31) i = rI h (ar 31) i) ∧ (∀ i, i < (wrL_ b T r c j).length → rI h' (ar 31) (w + i) = (wrL_ b T r c j).getD i 0) ∧ SmR h h' ar (16 * q + k) (16 * q + 16) ∧ (wr = true → ∀ i, i < (gdL b T r c).length → LnE h' ar (16 * q + (k + i)) b ((gdL b T r c).getD i dLn)) := by
  intro r
  have E : ∀ (r z c k w j : Nat) (h : IH), ShM h m ar → fI h 1230 m = nI w → ¬ c < T → 0 < z → c ≤ T + 1 → gdL b T r c = [] → wrL_ b T r c j = [] → ∃ h', s_X12_readLines_L14 N z m (nI q) (bI wr) (nI T) (nI j) (nI c) (nI k) h = some (nI (k + (gdL b T r c).length), h') ∧ FrD m ar wr h h' ∧ fI h' 1230 m = nI (w + (wrL_ b T r c j).length) ∧ (∀ i, i < w → rI h' (ar 31) i = rI h (ar 31) i) ∧ (∀ i, i < (wrL_ b T r c j).length → rI h' (ar 31) (w + i) = (wrL_ b T r c j).getD i 0) ∧ SmR h h' ar (16 * q + k) (16 * q + 16) ∧ (wr = true → ∀ i, i < (gdL b T r c).length → LnE h' ar (16 * q + (k + i)) b ((gdL b T r c).getD i dLn)) := by
    intro r z c k w j h S h0 hc hz hc2 e1 e2
    obtain ⟨z, rfl⟩ : ∃ y, z = y + 1 := ⟨z - 1, by omega⟩
    rw [e1, e2]
    refine ⟨h, ?_, Fr.refl _, h0, fun i _ => rfl, fun i hi => absurd hi (Nat.not_lt_zero i), SmR.refl _ _ _ _, fun _ i hi => absurd hi (Nat.not_lt_zero i)⟩
    rw [s_X12_readLines_L14.eq_2, if_pos (nI_le (by omega) (by omega))]
    rfl
  induction r with
  | zero =>
    intro z c k w j h S t2 h0 h1 h2 h3 h4 h5 h6
    exact E 0 z c k w j h S h0 (by omega) (by omega) h4 rfl rfl
  | succ r ih =>
    intro z c k w j h S t2 h0 h1 h2 h3 h4 h5 h6
    by_cases hc : c < T
    · obtain ⟨z, rfl⟩ : ∃ y, z = y + 1 := ⟨z - 1, by omega⟩
      have hb := lnE_bd b (l := T) (c := c) (by omega)
      have hle := lend24 S (N := N) hT t2 (nI q) (bI wr) (nI j) (nI c) (nI k) (T - c) c N (by omega) (by omega)
      obtain ⟨h10, e10, f10, f10', p10, x10⟩ := lineB S hN t2 hB hb.1 hb.2 hT
      have S10 := f10'.shM S
      have r10 : ∀ a, rI h10 a = rI h a := fun a => f10'.rI (fun ⟨_, z, _⟩ => z)
      have i10 : fI h10 1230 m = nI w := by
        rw [mfI f10' (by omega)]
        exact h0
      have start : ∀ K, (((if bI (pLine b (lnE b T c) c).2.isSome = 0 then (gR h10 12 31 (some m)).bind fun v12 => (gI h10 12 30 (some m)).bind fun v13 => (gI h10 12 42 (some m)).bind fun v14 => (sI h10 v12 v13 (((1000 * nI j) + v14) - nI c)).bind fun h15 => (gI h15 12 30 (some m)).bind fun v16 => (pI h15 12 30 (some m) (v16 + 1)).bind fun h17 => some (nI k, h17) else ((if bI wr = 0 then some h10 else (cV h10 12 (some m) fun a20 => s_X12_write N h10 a20 ((16 * nI q) + nI k)).bind fun v19 => some v19) : Option (IH)).bind fun q21 => some (nI k + 1, q21)) : Option (Int32 × IH)).bind fun q22 => s_X12_readLines_L14 N z m (nI q) (bI wr) (nI T) (nI j + 1) (nI (lnE b T c) + 1) q22.1 q22.2) = K → s_X12_readLines_L14 N (z + 1) m (nI q) (bI wr) (nI T) (nI j) (nI c) (nI k) h = K := by
        intro K hK
        have e9 : ((pI h 12 40 (some m) (nI c)).bind fun h8 => (pI h8 12 41 (some m) (nI (lnE b T c))).bind fun h9 => (cV h9 12 (some m) fun a23 => s_X12_isLine N h9 a23).bind fun v10 => ((if v10.1 = 0 then (gR v10.2 12 31 (some m)).bind fun v12 => (gI v10.2 12 30 (some m)).bind fun v13 => (gI v10.2 12 42 (some m)).bind fun v14 => (sI v10.2 v12 v13 (((1000 * nI j) + v14) - nI c)).bind fun h15 => (gI h15 12 30 (some m)).bind fun v16 => (pI h15 12 30 (some m) (v16 + 1)).bind fun h17 => some (nI k, h17) else ((if bI wr = 0 then some v10.2 else (cV v10.2 12 (some m) fun a20 => s_X12_write N v10.2 a20 ((16 * nI q) + nI k)).bind fun v19 => some v19) : Option (IH)).bind fun q21 => some (nI k + 1, q21)) : Option (Int32 × IH)).bind fun q22 => s_X12_readLines_L14 N z m (nI q) (bI wr) (nI T) (nI j + 1) (nI (lnE b T c) + 1) q22.1 q22.2) = K := by
          rw [mpI 40 _ S.1, Option.bind_some, mpI 41 _ (show kd (wfI h (1200 + 40) m (nI c)) m = 13 from S.1), Option.bind_some] at e10 ⊢
          rw [e10, Option.bind_some]
          exact hK
        rw [s_X12_readLines_L14.eq_2, if_neg (nI_ge hc (by omega)), hle, Option.bind_some]
        exact e9
      unfold gdL wrL_
      unfold gdL at h6
      rw [if_pos hc] at h6
      rw [if_pos hc, if_pos hc]
      cases hp : (pLine b (lnE b T c) c).2 with
      | none =>
        rw [hp] at h6
        have hw : w < 1000 := by omega
        generalize hv : ((1000 * nI j) + nI (pLine b (lnE b T c) c).1) - nI c = v
        generalize hH : wfI (setI h10 (ar 31) (upd (rI h10 (ar 31)) w v)) 1230 m (nI (w + 1)) = H
        have SH : ShM H m ar := by rw [← hH]; exact S10
        have fH0 : FM m ar (fun f => f = 1230) no1 (fun i => i = 31) no1 h10 H := by
          rw [← hH]
          exact (Fr.sI _ _ _ ⟨31, rfl, rfl⟩).trans (Fr.wI _ _ _ _ ⟨rfl, rfl⟩)
        have fH : FrD m ar wr h H := (f10 wr).trans (Fr.mono fH0 (fun f a z => ⟨Or.inl z.1, z.2⟩) (fun f a z => z.1.elim) (fun a ⟨i, z, y⟩ => ⟨i, Or.inl z, y⟩) (fun a ⟨i, z, _⟩ => z.elim))
        have r31 : rI H (ar 31) = upd (rI h (ar 31)) w v := by rw [← hH, rI_wfI, rI_setI, r10]
        have t28 : rI H (ar 28) = b := by rw [mrI S10 fH0 (fun i z => by subst z; decide) (by decide) (by decide), r10, t2]
        obtain ⟨h', a1, a2, a3, a4, a5, a6, a7⟩ := ih z (lnE b T c + 1) k (w + 1) (j + 1) H SH t28 (by rw [← hH]; exact fI_wfI _ _ _ _) (by omega) (by omega) (by omega) (by omega) (by omega) h6
        refine ⟨h', ?_, fH.trans a2, ?_, fun i hi => ?_, fun i hi => ?_, ?_, a7⟩
        · apply start
          rw [hp]
          rw [if_pos (show bI (none : Option LnT).isSome = 0 from rfl), mgR 31 S10 (by decide), Option.bind_some, mgI 30 S10.1, Option.bind_some, i10, mgI 42 S10.1, Option.bind_some, p10, hv, msI 31 w _ S10 (by decide) hw, Option.bind_some, mgI 30 (show kd (setI h10 (ar 31) _) m = 13 from S10.1), Option.bind_some, fI_setI, i10, nI_1, mpI 30 _ (show kd (setI h10 (ar 31) _) m = 13 from S10.1), Option.bind_some, Option.bind_some, hH, nI_1, nI_1]
          exact a1
        · rw [a3, List.length_cons]
          congr 1
          omega
        · rw [a4 i (by omega), r31]
          unfold upd
          rw [if_neg (by omega)]
        · cases i with
          | zero =>
            rw [Nat.add_zero, a4 w (by omega), r31]
            unfold upd
            rw [if_pos rfl]
            rfl
          | succ i =>
            rw [show w + (i + 1) = w + 1 + i by omega, a5 i (by simpa using hi)]
            rfl
        · refine (SmR.trans (h1 := h10) ?_ ?_).trans a6
          · exact SmR.fr S f10' (fun i z => z.elim) (fun i z => z.elim) (fun i z => z.elim) (fun i z => z.elim) _ _
          · exact SmR.fr S10 fH0 (fun i z => by subst z; decide) (fun i z => z.elim) (fun i z => by omega) (fun i z => z.elim) _ _
      | some x =>
        rw [hp] at h6
        have hx := x10 x hp
        have okx := pLine_ok hb.1 x hp
        have g0 : bI (some x).isSome = 1 := rfl
        have el : k + 1 + (gdL b T r (lnE b T c + 1)).length = k + (x :: gdL b T r (lnE b T c + 1)).length := by rw [List.length_cons]; omega
        cases wr with
        | false =>
          obtain ⟨h', a1, a2, a3, a4, a5, a6, a7⟩ := ih z (lnE b T c + 1) (k + 1) w (j + 1) h10 S10 (by rw [r10]; exact t2) i10 (by omega) (by omega) (by omega) (by omega) (by omega) (fun z => by cases z)
          refine ⟨h', ?_, (f10 false).trans a2, a3, fun i hi => by rw [a4 i hi, r10], a5, ?_, fun z => by cases z⟩
          · apply start
            rw [hp, g0, if_neg (by decide), if_pos (show bI false = 0 from rfl), Option.bind_some, Option.bind_some, nI_1, nI_1, nI_1, ← el]
            exact a1
          · exact (SmR.fr S f10' (fun i z => z.elim) (fun i z => z.elim) (fun i z => z.elim) (fun i z => z.elim) _ _).trans (a6.mono (by omega) (by omega))
        | true =>
          have h16 : k + (x :: gdL b T r (lnE b T c + 1)).length ≤ 16 := h6 rfl
          rw [List.length_cons] at h16
          obtain ⟨h19, e19, f19, l19, s19⟩ := writeM S10 (e := 16 * q + k) (l := 1000) (b := b) hN (by omega) (by omega) (by rw [r10]; exact t2) hx okx.2.2.2.1 okx.2.2.2.2.2.2.2.2 (Nat.le_trans okx.2.2.2.2.2.2.2.1 (by omega))
          have S19 := f19.shM S10
          have hrw : mRow wrR_ := fun i z => by rcases z with z | z | z | z | z <;> subst z <;> decide
          have r28 : rI h19 (ar 28) = b := by rw [mrI S10 f19 hrw (by decide) (by unfold wrR_; omega), r10, t2]
          have r31 : rI h19 (ar 31) = rI h (ar 31) := by rw [mrI S10 f19 hrw (by decide) (by unfold wrR_; omega), r10]
          have i19 : fI h19 1230 m = nI w := by rw [mfI f19 (fun z => z), i10]
          obtain ⟨h', a1, a2, a3, a4, a5, a6, a7⟩ := ih z (lnE b T c + 1) (k + 1) w (j + 1) h19 S19 r28 i19 (by omega) (by omega) (by omega) (by omega) (by omega) (fun _ => by omega)
          have f19' : FrD m ar true h10 h19 := Fr.mono f19 (fun f a z => z.1.elim) (fun f a z => z.1.elim) (fun a ⟨i, z, y⟩ => ⟨i, Or.inr ⟨rfl, z⟩, y⟩) (fun a ⟨i, z, y⟩ => ⟨i, ⟨rfl, z⟩, y⟩)
          refine ⟨h', ?_, ((f10 true).trans f19').trans a2, a3, fun i hi => by rw [a4 i hi, r31], a5, ?_, fun _ i hi => ?_⟩
          · apply start
            rw [hp, g0, if_neg (by decide), if_neg (show ¬ bI true = 0 by decide), mV12 S10, show (16 : Int32) = nI 16 from rfl, nI_mul, nI_add, e19, Option.bind_some, Option.bind_some, Option.bind_some, nI_1, nI_1, nI_1, ← el]
            exact a1
          · refine (SmR.trans (h1 := h10) ?_ ?_).trans (a6.mono (by omega) (by omega))
            · exact SmR.fr S f10' (fun i z => z.elim) (fun i z => z.elim) (fun i z => z.elim) (fun i z => z.elim) _ _
            · exact s19.toR.mono (by omega) (by omega)
          · cases i with
            | zero => exact l19.keep a6 (by omega) okx.2.2.2.1
            | succ i =>
              have := a7 rfl i (by simpa using hi)
              rw [show k + (i + 1) = k + 1 + i by omega]
              exact this
    · refine E (r + 1) z c k w j h S h0 hc (by omega) h4 ?_ ?_
      · unfold gdL
        rw [if_neg hc]
      · unfold wrL_
        rw [if_neg hc]
