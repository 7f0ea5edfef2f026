/-! ===== the reference lays the contacts of two logs side by side ===== -/
/-- the i-th of those of which p holds -/
def Enm (p : Nat → Bool) (k R : Nat) (ρ : Nat → Nat) : Prop := R ≤ k ∧ (∀ i, i < R → ρ i < k ∧ p (ρ i) = true) ∧ (∀ i i', i < i' → i' < R → ρ i < ρ i') ∧ ∀ l, l < k → p l = true → ∃ i, i < R ∧ ρ i = l
def ukN (ρ : Nat → Nat) (R k : Nat) : Nat → Nat := fun i => if i = R then k else ρ i
theorem Enm.no {p : Nat → Bool} {k R : Nat} {ρ : Nat → Nat} (x : Enm p k R ρ) (h : p k = false) : Enm p (k + 1) R ρ := by
  refine ⟨by have := x.1; omega, fun i hi => ⟨by have := (x.2.1 i hi).1; omega, (x.2.1 i hi).2⟩, x.2.2.1, fun l hl hp => ?_⟩
  by_cases c : l = k
  · rw [c, h] at hp; cases hp
  · exact x.2.2.2 l (by omega) hp
theorem Enm.yes {p : Nat → Bool} {k R : Nat} {ρ : Nat → Nat} (x : Enm p k R ρ) (h : p k = true) : Enm p (k + 1) (R + 1) (ukN ρ R k) := by
  have e : ukN ρ R k R = k := if_pos rfl
  have ne : ∀ i, i < R → ukN ρ R k i = ρ i := fun i hi => if_neg (by omega)
  refine ⟨by have := x.1; omega, fun i hi => ?_, fun i i' h1 h2 => ?_, fun l hl hp => ?_⟩
  · by_cases c : i = R
    · rw [c, e]; exact ⟨by omega, h⟩
    · rw [ne i (by omega)]
      exact ⟨by have := (x.2.1 i (by omega)).1; omega, (x.2.1 i (by omega)).2⟩
  · by_cases c : i' = R
    · rw [c, e, ne i (by omega)]
      exact (x.2.1 i (by omega)).1
    · rw [ne i (by omega), ne i' (by omega)]
      exact x.2.2.1 i i' h1 (by omega)
  · by_cases c : l = k
    · exact ⟨R, by omega, by rw [e, c]⟩
    · obtain ⟨i, h1, h2⟩ := x.2.2.2 l (by omega) hp
      exact ⟨i, by omega, by rw [ne i h1, h2]⟩
theorem Enm.inj {p : Nat → Bool} {k R : Nat} {ρ : Nat → Nat} (x : Enm p k R ρ) (i i' : Nat) (h1 : i < R) (h2 : i' < R) (h : ρ i = ρ i') : i = i' := by
  rcases (show i < i' ∨ i = i' ∨ i' < i by omega) with c | c | c
  · have := x.2.2.1 i i' c h2; omega
  · exact c
  · have := x.2.2.1 i' i c h1; omega
theorem Enm.mono {p : Nat → Bool} {k R : Nat} {ρ : Nat → Nat} (x : Enm p k R ρ) {i i' : Nat} (h1 : i < R) (h2 : i' < R) : ρ i < ρ i' ↔ i < i' := by
  rcases (show i < i' ∨ i = i' ∨ i' < i by omega) with c | c | c
  · have := x.2.2.1 i i' c h2; omega
  · subst c; omega
  · have := x.2.2.1 i' i c h1; omega
def rwB (D : Dt) (s t b l : Nat) : Bool := decide (tgO D (eX s b l) = some t)
def EnR (h : IH) (m : Nat) (ar : Nat → Nat) (D : Dt) (s t b fn rn k R : Nat) (ρ : Nat → Nat) : Prop := Enm (rwB D s t b) k R ρ ∧ fI h fn m = nI R ∧ ∀ i, i < R → rI h (ar rn) i = nI (eX s b (ρ i))
def OfM (h : IH) (ar : Nat → Nat) (D : Dt) : Prop := ∀ s, s < dn D → (rL h (ar 20) s).toInt = offX D s ∧ -11000000000 ≤ offX D s ∧ offX D s ≤ 11000000000
def cI (D : Dt) (s t b : Nat) (ρ κ : Nat → Nat) (i j : Nat) : Int := if dsB D (eX s b (ρ i)) (eX t b (κ j)) = true ∧ (dsI D (eX s b (ρ i)) (eX t b (κ j)) : Int) ≤ (dwin D).toInt then (dsI D (eX s b (ρ i)) (eX t b (κ j)) : Int) else -1
theorem cI_bd {D : Dt} (wP : WgP D) (s t b : Nat) (ρ κ : Nat → Nat) (i j : Nat) : -1 ≤ cI D s t b ρ κ i j ∧ cI D s t b ρ κ i j ≤ 3600 := by
  obtain ⟨w1, w2⟩ := wP.1
  unfold cI
  split <;> rename_i c
  · omega
  · omega
theorem cI_w {D : Dt} (wP : WgP D) (s t b : Nat) (ρ κ : Nat → Nat) (i j : Nat) : wM (cI D s t b ρ κ) i j = pw D s t b (ρ i) (κ j) := by
  obtain ⟨w1, w2⟩ := wP.1
  unfold wM cI pw
  by_cases c : dsB D (eX s b (ρ i)) (eX t b (κ j)) = true ∧ (dsI D (eX s b (ρ i)) (eX t b (κ j)) : Int) ≤ (dwin D).toInt
  · rw [if_pos c, if_pos c, if_pos (by omega)]
    omega
  · rw [if_neg c, if_neg c, if_neg (by omega)]
def laF (f : Nat) : Prop := f = 1257 ∨ f = 1258
def laR (i : Nat) : Prop := i = 59 ∨ i = 60 ∨ i = 62
abbrev FrY (m : Nat) (ar : Nat → Nat) : IH → IH → Prop := FM m ar laF no1 laR (e1 61)
theorem laR_row : mRow laR := fun i q => by rcases q with q | q | q <;> subst q <;> decide
theorem r61 : mRow (e1 61) := fun i z => by cases z; decide
section
variable {m : Nat} {ar : Nat → Nat} {N : Nat} {D : Dt}
theorem layM {h : IH} (S : ShM h m ar) (hN : 2000 ≤ N) (gL : MgL h m ar D) (gP : MgP h m ar D) (tg : TgM h ar D) (of : OfM h ar D) (w : WgL D) (wn : dn D ≤ 12) (wP : WgP D) {s t b : Nat} (hs : s < dn D) (ht : t < dn D) (hb : b < 3) : ∃ h' R C ρ κ, s_X12_lay N h m (nI s) (nI t) (nI b) = some h' ∧ FrY m ar h h' ∧ EnR h' m ar D s t b 1257 59 16 R ρ ∧ EnR h' m ar D t s b 1258 60 16 C κ ∧ GrM h' m ar R C (cI D s t b ρ κ) (fun _ => false) := by
  have inj : ∀ e u, u < dn D → (oI (tgO D e) = nI u ↔ tgO D e = some u) := fun e u hu => oI_inj (fun v hv => by have := (tg_lt hv).1; omega) (by omega)
  have ix : ∀ u k, ((48 * nI u) + (16 * nI b)) + nI k = nI (eX u b k) := fun u k => by
    rw [show (48 : Int32) = nI 48 from rfl, show (16 : Int32) = nI 16 from rfl, nI_mul, nI_mul, nI_add, nI_add]
    unfold eX
    congr 1
    omega
  have elt : ∀ u k, u < dn D → k < 16 → eX u b k < 576 := fun u k hu hk => by unfold eX; omega
  -- a contact that names the other
  have one : ∀ (u v k fn rn : Nat) (H : IH) (R : Nat) (ρ : Nat → Nat), u < dn D → v < dn D → k < 16 → FrY m ar h H → (fn = 57 ∧ rn = 59 ∨ fn = 58 ∧ rn = 60) → EnR H m ar D u v b (1200 + fn) rn k R ρ → ∃ H' R' ρ', ((if bI (ctB D (eX u b k)) = 0 then some H else (gR H 12 18 (some m)).bind fun v8 => (aI H v8 (nI (eX u b k))).bind fun v9 => if v9 = nI v then (gR H 12 rn (some m)).bind fun v11 => (gI H 12 fn (some m)).bind fun v12 => (sI H v11 v12 (nI (eX u b k))).bind fun h13 => (gI h13 12 fn (some m)).bind fun v14 => (pI h13 12 fn (some m) (v14 + 1)).bind fun h15 => some h15 else some H) : Option IH) = some H' ∧ FM m ar (e1 (1200 + fn)) no1 (e1 rn) no1 H H' ∧ EnR H' m ar D u v b (1200 + fn) rn (k + 1) R' ρ' := by
    intro u v k fn rn H R ρ hu hv hk f hr q
    have SH := f.shM S
    have tH : TgM H ar D := fun e he => by rw [mrI S f laR_row (by decide) (fun z => by rcases z with z | z | z <;> cases z)]; exact tg e he
    have q1 := q.1.1
    cases hc : ctB D (eX u b k) with
    | false =>
      rw [if_pos (show bI false = 0 from rfl)]
      refine ⟨H, R, ρ, rfl, Fr.refl _, q.1.no ?_, q.2⟩
      exact decide_eq_false (fun z => by have := (tg_lt z).2; rw [hc] at this; cases this)
    | true =>
      rw [if_neg (show ¬ bI true = 0 by decide), mgR 18 SH (by decide), Option.bind_some, maI 18 _ SH (by decide) (show eX u b k < 576 from elt u k hu hk), Option.bind_some, tH _ (elt u k hu hk)]
      by_cases c : tgO D (eX u b k) = some v
      · have kr : mKd rn = 20 ∧ mSz rn = 16 ∧ mKd rn ≠ 0 := by rcases hr with ⟨_, z⟩ | ⟨_, z⟩ <;> subst z <;> decide
        have S1 : ∀ g, ShM (setI H (ar rn) g) m ar := fun g => SH
        rw [if_pos ((inj _ v hv).mpr c), mgR rn SH kr.2.2, Option.bind_some, mgI fn SH.1, Option.bind_some, q.2.1, msI rn R _ SH kr.1 (by rw [kr.2.1]; omega), Option.bind_some, mgI fn (S1 _).1, Option.bind_some, mpI fn _ (S1 _).1, Option.bind_some]
        have e0 : fI (setI H (ar rn) (upd (rI H (ar rn)) R (nI (eX u b k)))) (1200 + fn) m = nI R := q.2.1
        rw [e0, nI_1]
        refine ⟨_, R + 1, ukN ρ R k, rfl, Fr.trans (Fr.sI _ _ _ ⟨rn, rfl, rfl⟩) (Fr.wI _ _ _ _ ⟨rfl, rfl⟩), q.1.yes (decide_eq_true c), fI_wfI _ _ _ _, fun i hi => ?_⟩
        rw [rI_wfI, rI_setI]
        unfold upd ukN
        by_cases d : i = R
        · rw [if_pos d, if_pos d]
        · rw [if_neg d, if_neg d]
          exact q.2.2 i (by omega)
      · rw [if_neg (fun z => c ((inj _ v hv).mp z))]
        exact ⟨H, R, ρ, rfl, Fr.refl _, q.1.no (decide_eq_false c), q.2⟩
  have frE : ∀ {H H' : IH} {F Rw : Nat → Prop} {u v fn rn k R : Nat} {ρ : Nat → Nat}, ShM H m ar → FM m ar F no1 Rw no1 H H' → mRow Rw → mKd rn ≠ 0 → ¬ F fn → ¬ Rw rn → EnR H m ar D u v b fn rn k R ρ → EnR H' m ar D u v b fn rn k R ρ := by
    intro H H' F Rw u v fn rn k R ρ SH f hRw hk nF nR q
    refine ⟨q.1, by rw [mfI f nF]; exact q.2.1, fun i hi => ?_⟩
    rw [mrI SH f hRw hk nR]
    exact q.2.2 i hi
  have L1 : ∀ (r k z : Nat) (H : IH) (R C : Nat) (ρ κ : Nat → Nat), k + r = 16 → r < z → FrY m ar h H → EnR H m ar D s t b 1257 59 k R ρ → EnR H m ar D t s b 1258 60 k C κ → (∀ j, j < k → rI H (ar 62) j = 0) → ∃ h' R C ρ κ, s_X12_lay_L13 N z m (nI s) (nI t) (nI b) (nI k) H = some h' ∧ FrY m ar h h' ∧ EnR h' m ar D s t b 1257 59 16 R ρ ∧ EnR h' m ar D t s b 1258 60 16 C κ ∧ ∀ j, j < 16 → rI h' (ar 62) j = 0 := by
    intro r
    induction r with
    | zero =>
      intro k z H R C ρ κ hk hz f q1 q2 q3
      obtain ⟨z, rfl⟩ : ∃ y, z = y + 1 := ⟨z - 1, by omega⟩
      have : k = 16 := by omega
      subst this
      rw [s_X12_lay_L13.eq_2, if_pos (by decide)]
      exact ⟨H, R, C, ρ, κ, rfl, f, q1, q2, q3⟩
    | succ r ih =>
      intro k z H R C ρ κ hk hz f q1 q2 q3
      obtain ⟨z, rfl⟩ : ∃ y, z = y + 1 := ⟨z - 1, by omega⟩
      have SH := f.shM S
      rw [s_X12_lay_L13.eq_2, if_neg (show ¬ (16 : Int32) ≤ nI k from nI_ge (b := 16) (by omega) (by omega)), mgR 62 SH (by decide), Option.bind_some, msZ 62 k SH (by decide) (show k < 16 by omega) (Or.inl rfl), Option.bind_some, ix s k, ix t k, nI_1]
      have e62 : ∀ j, j < k + 1 → rI (setI H (ar 62) (upd (rI H (ar 62)) k 0)) (ar 62) j = 0 := fun j hj => by
        rw [rI_setI]
        unfold upd
        by_cases c : j = k
        · rw [if_pos c]
        · rw [if_neg c]; exact q3 j (by omega)
      have fa : FM m ar no1 no1 (e1 62) no1 H (setI H (ar 62) (upd (rI H (ar 62)) k 0)) := Fr.sI _ _ _ ⟨62, rfl, rfl⟩
      have r62 : mRow (e1 62) := fun i z => by cases z; decide
      have qa1 := frE SH fa r62 (by decide) (fun z => z) (e1n (by decide)) q1
      have qa2 := frE SH fa r62 (by decide) (fun z => z) (e1n (by decide)) q2
      have fL1 : FrY m ar h (setI H (ar 62) (upd (rI H (ar 62)) k 0)) := f.trans (Fr.mono fa (fun _ _ q => q.1.elim) (fun _ _ q => q.1.elim) (fun a ⟨i, q, y⟩ => ⟨i, Or.inr (Or.inr q), y⟩) (fun a ⟨i, q, y⟩ => q.elim))
      generalize setI H (ar 62) (upd (rI H (ar 62)) k 0) = H1 at *
      have SH1 := fL1.shM S
      have gl1 : MgL H1 m ar D := MgL.fr S fL1 laR_row r61 gL (fun k z => by unfold laR at z; omega) (fun k z => by cases z; omega)
      rw [mV12 SH1, isContactM SH1 gl1 w (elt s k hs (by omega)), Option.bind_some]
      obtain ⟨H2, R2, ρ2, e2, f2, qb1⟩ := one s t k 57 59 H1 R ρ hs ht (by omega) fL1 (Or.inl ⟨rfl, rfl⟩) qa1
      rw [e2, Option.bind_some]
      have r59 : mRow (e1 59) := fun i z => by cases z; decide
      have r60 : mRow (e1 60) := fun i z => by cases z; decide
      have qb2 := frE SH1 f2 r59 (by decide) (fun z => by cases z) (e1n (by decide)) qa2
      have fL2 : FrY m ar h H2 := fL1.trans (Fr.mono f2 (fun f a q => ⟨Or.inl q.1, q.2⟩) (fun _ _ q => q.1.elim) (fun a ⟨i, q, y⟩ => ⟨i, Or.inl q, y⟩) (fun a ⟨i, q, y⟩ => q.elim))
      have SH2 := fL2.shM S
      have gl2 : MgL H2 m ar D := MgL.fr S fL2 laR_row r61 gL (fun k z => by unfold laR at z; omega) (fun k z => by cases z; omega)
      rw [mV12 SH2, isContactM SH2 gl2 w (elt t k ht (by omega)), Option.bind_some]
      obtain ⟨H3, C3, κ3, e3, f3, qc2⟩ := one t s k 58 60 H2 C κ ht hs (by omega) fL2 (Or.inr ⟨rfl, rfl⟩) qb2
      rw [e3, Option.bind_some]
      have qc1 := frE SH2 f3 r60 (by decide) (fun z => by cases z) (e1n (by decide)) qb1
      refine ih (k + 1) z H3 _ _ _ _ (by omega) (by omega) (fL2.trans (Fr.mono f3 (fun f a q => ⟨Or.inr q.1, q.2⟩) (fun _ _ q => q.1.elim) (fun a ⟨i, q, y⟩ => ⟨i, Or.inr (Or.inl q), y⟩) (fun a ⟨i, q, y⟩ => q.elim))) qc1 qc2 (fun j hj => ?_)
      rw [mrI SH2 f3 r60 (by decide) (e1n (by decide)), mrI SH1 f2 r59 (by decide) (e1n (by decide))]
      exact e62 j hj
  have k7 := S.1
  have f1 : FrY m ar h (wfI (wfI h (1200 + 57) m 0) (1200 + 58) m 0) := (Fr.wI _ _ _ _ ⟨Or.inl rfl, rfl⟩).trans (Fr.wI _ _ _ _ ⟨Or.inr rfl, rfl⟩)
  unfold s_X12_lay
  rw [mpI 57 _ k7, Option.bind_some, mpI 58 _ (show kd (wfI h (1200 + 57) m 0) m = 13 from k7), Option.bind_some]
  have i57 : fI (wfI (wfI h (1200 + 57) m 0) (1200 + 58) m 0) 1257 m = nI 0 := by
    rw [fI_wfI_ne _ _ (by decide)]
    exact fI_wfI _ _ _ _
  have i58 : fI (wfI (wfI h (1200 + 57) m 0) (1200 + 58) m 0) 1258 m = nI 0 := fI_wfI _ _ _ _
  generalize wfI (wfI h (1200 + 57) m 0) (1200 + 58) m 0 = H0 at *
  have en0 : ∀ p : Nat → Bool, Enm p 0 0 (fun _ => 0) := fun p => ⟨Nat.le_refl _, fun i hi => absurd hi (by omega), fun i i' h1 h2 => absurd h2 (by omega), fun l hl => absurd hl (by omega)⟩
  obtain ⟨H4, R, C, ρ, κ, e4, f4, q1, q2, q3⟩ := L1 16 0 N H0 0 0 (fun _ => 0) (fun _ => 0) (by omega) (by omega) f1 ⟨en0 _, i57, fun i hi => absurd hi (by omega)⟩ ⟨en0 _, i58, fun i hi => absurd hi (by omega)⟩ (fun j hj => absurd hj (by omega))
  rw [nI_0] at e4
  rw [e4, Option.bind_some]
  have hR := q1.1.1
  have hC := q2.1.1
  have S4 := f4.shM S
  have frF : ∀ {H' : IH} {u v fn rn k R : Nat} {ρ : Nat → Nat}, FM m ar no1 no1 no1 (e1 61) H4 H' → mKd rn ≠ 0 → EnR H4 m ar D u v b fn rn k R ρ → EnR H' m ar D u v b fn rn k R ρ := by
    intro H' u v fn rn k R ρ f hk q
    refine ⟨q.1, by rw [mfI f (fun z => z)]; exact q.2.1, fun i hi => ?_⟩
    rw [mrI S4 f (fun i z => z.elim) hk (fun z => z)]
    exact q.2.2 i hi
  -- the distances
  have L2 : ∀ i, i < R → ∀ (r j z : Nat) (H : IH), j + r = C → r < z → FM m ar no1 no1 no1 (e1 61) H4 H → (∀ i' j', i' < R → j' < C → i' < i ∨ i' = i ∧ j' < j → (rL H (ar 61) (16 * i' + j')).toInt = cI D s t b ρ κ i' j') → ∃ h', s_X12_lay_L159 N z m (nI s) (nI t) (nI i) (nI j) H = some h' ∧ FM m ar no1 no1 no1 (e1 61) H4 h' ∧ ∀ i' j', i' < R → j' < C → i' < i + 1 → (rL h' (ar 61) (16 * i' + j')).toInt = cI D s t b ρ κ i' j' := by
    intro i hi r
    induction r with
    | zero =>
      intro j z H hj hz f q
      obtain ⟨z, rfl⟩ : ∃ y, z = y + 1 := ⟨z - 1, by omega⟩
      have SH := f.shM S4
      have e : fI H (1200 + 58) m = nI C := (frF f (by decide) q2).2.1
      rw [s_X12_lay_L159.eq_2, mgI 58 SH.1, Option.bind_some, e, if_pos (nI_le (by omega) (by omega))]
      exact ⟨H, rfl, f, fun i' j' h1 h2 h3 => q i' j' h1 h2 (by omega)⟩
    | succ r ih =>
      intro j z H hj hz f q
      obtain ⟨z, rfl⟩ : ∃ y, z = y + 1 := ⟨z - 1, by omega⟩
      have SH := f.shM S4
      have a1 := frF f (by decide) q1
      have a2 := frF f (by decide) q2
      have e : fI H (1200 + 58) m = nI C := a2.2.1
      have fh : FrY m ar h H := f4.trans (Fr.mono f (fun _ _ q => q.1.elim) (fun _ _ q => q.1.elim) (fun a ⟨i, q, y⟩ => q.elim) (fun a q => q))
      have glH : MgL H m ar D := MgL.fr S fh laR_row r61 gL (fun k z => by unfold laR at z; omega) (fun k z => by cases z; omega)
      have gpH : MgP H m ar D := by
        obtain ⟨x1, x2⟩ := gP
        refine ⟨?_, ?_⟩
        · rw [mfI fh (fun z => by rcases z with z | z <;> cases z)]; exact x1
        · rw [mfI fh (fun z => by rcases z with z | z <;> cases z)]; exact x2
      have tH : TgM H ar D := fun e he => by rw [mrI S fh laR_row (by decide) (fun z => by rcases z with z | z | z <;> cases z)]; exact tg e he
      have oH : OfM H ar D := fun u hu => by rw [mrL S fh r61 (by decide) (fun z => by cases z)]; exact of u hu
      obtain ⟨o1, o2, o3⟩ := oH s hs
      obtain ⟨p1, p2, p3⟩ := oH t ht
      have hl1 : eX s b (ρ i) < 576 := elt s _ hs (by have := (q1.1.2.1 i hi).1; omega)
      have hl2 : eX t b (κ j) < 576 := elt t _ ht (by have := (q2.1.2.1 j (by omega)).1; omega)
      have x1 := eX_lt hs hb (show ρ i < 16 from (q1.1.2.1 i hi).1)
      have x2 := eX_lt ht hb (show κ j < 16 from (q2.1.2.1 j (by omega)).1)
      obtain ⟨v, ev, hv⟩ := distOfM SH glH gpH tH w wn wP hl1 hl2 (rL H (ar 20) s) (rL H (ar 20) t) (by omega) (by omega) (by omega) (by omega)
      have hv' : v.toInt = cI D s t b ρ κ i j := by
        rw [hv]
        unfold cI dsI
        rw [x1.2.1, x2.2.1, o1, p1]
      rw [s_X12_lay_L159.eq_2, mgI 58 SH.1, Option.bind_some, e, if_neg (nI_ge (by omega) (by omega)), mgR 61 SH (by decide), Option.bind_some, mgR 59 SH (by decide), Option.bind_some, maI 59 i SH (by decide) (show i < 16 by omega), Option.bind_some, mgR 60 SH (by decide), Option.bind_some, maI 60 j SH (by decide) (show j < 16 by omega), Option.bind_some, mgR 20 SH (by decide), Option.bind_some, maJ 20 s SH (by decide) (show s < 12 by omega), Option.bind_some, Option.bind_some, maJ 20 t SH (by decide) (show t < 12 by omega), Option.bind_some, a1.2.2 i hi, a2.2.2 j (by omega), mV12 SH, ev, Option.bind_some, show (16 : Int32) = nI 16 from rfl, nI_mul, nI_add, msJ 61 _ _ SH (by decide) (show 16 * i + j < 256 by omega), Option.bind_some, nI_1]
      refine ih (j + 1) z _ (by omega) (by omega) (f.trans (Fr.sJ _ _ _ ⟨61, rfl, rfl⟩)) (fun i' j' h1 h2 h3 => ?_)
      rw [rL_setJ]
      unfold vp_updL
      by_cases d : 16 * i' + j' = 16 * i + j
      · have : i' = i ∧ j' = j := by omega
        rw [if_pos d, this.1, this.2, hv']
      · rw [if_neg d]
        exact q i' j' h1 h2 (by omega)
  have L3 : ∀ (r i z : Nat) (H : IH), i + r = R → r < z → FM m ar no1 no1 no1 (e1 61) H4 H → (∀ i' j', i' < R → j' < C → i' < i → (rL H (ar 61) (16 * i' + j')).toInt = cI D s t b ρ κ i' j') → ∃ h', s_X12_lay_L147 N z m (nI s) (nI t) (nI i) H = some h' ∧ FM m ar no1 no1 no1 (e1 61) H4 h' ∧ ∀ i' j', i' < R → j' < C → (rL h' (ar 61) (16 * i' + j')).toInt = cI D s t b ρ κ i' j' := by
    intro r
    induction r with
    | zero =>
      intro i z H hi hz f q
      obtain ⟨z, rfl⟩ : ∃ y, z = y + 1 := ⟨z - 1, by omega⟩
      have SH := f.shM S4
      have e : fI H (1200 + 57) m = nI R := (frF f (by decide) q1).2.1
      rw [s_X12_lay_L147.eq_2, mgI 57 SH.1, Option.bind_some, e, if_pos (nI_le (by omega) (by omega))]
      exact ⟨H, rfl, f, fun i' j' h1 h2 => q i' j' h1 h2 (by omega)⟩
    | succ r ih =>
      intro i z H hi hz f q
      obtain ⟨z, rfl⟩ : ∃ y, z = y + 1 := ⟨z - 1, by omega⟩
      have SH := f.shM S4
      have e : fI H (1200 + 57) m = nI R := (frF f (by decide) q1).2.1
      obtain ⟨H', e', f', q'⟩ := L2 i (by omega) C 0 N H (by omega) (by omega) f (fun i' j' h1 h2 h3 => q i' j' h1 h2 (by omega))
      rw [nI_0] at e'
      rw [s_X12_lay_L147.eq_2, mgI 57 SH.1, Option.bind_some, e, if_neg (nI_ge (by omega) (by omega)), e', Option.bind_some, nI_1]
      exact ih (i + 1) z H' (by omega) (by omega) f' q'
  obtain ⟨H5, e5, f5, q5⟩ := L3 R 0 N H4 (by omega) (by omega) (Fr.refl _) (fun i' j' h1 h2 h3 => absurd h3 (by omega))
  rw [nI_0] at e5
  rw [e5, Option.bind_some]
  have b1 := frF f5 (by decide) q1
  have b2 := frF f5 (by decide) q2
  refine ⟨H5, R, C, ρ, κ, rfl, f4.trans (Fr.mono f5 (fun _ _ q => q.1.elim) (fun _ _ q => q.1.elim) (fun a ⟨i, q, y⟩ => q.elim) (fun a q => q)), b1, b2, b1.2.1, b2.2.1, hR, hC, q5, fun j hj => ?_, fun i j => cI_bd wP s t b ρ κ i j⟩
  rw [mrI S4 f5 (fun i z => z.elim) (by decide) (fun z => z)]
  exact q3 j hj
end
