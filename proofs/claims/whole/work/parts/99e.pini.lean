/-! ===== new objects of both: what stands while they are made ===== -/
def D0 : Dt := (0, (fun _ => 0), (fun _ => 0), (fun _ => 0), (fun _ => 0), (fun _ => 0), (fun _ _ => 0), (fun _ => 0), (fun _ => true), (fun _ => 0), (fun _ => 0), (fun _ => 0), (fun _ => 0), (fun _ => 0), (fun _ _ => 0), (fun _ => 0), (fun _ => 0), 0, (fun _ => 0), 0, (fun _ => 0), 1, (fun _ => 1), 60, 0, 0, (fun _ => 0), (fun _ _ => 0), 0, 0, 0, 0)
theorem WD0 : WD D0 := by
  refine ⟨⟨by decide, fun j _ => ⟨by show (0 : Int) ≤ (0 : Int32).toInt; decide, by show (0 : Int32).toInt < 256; decide⟩⟩, ⟨by decide, fun s hs => absurd hs (Nat.not_lt_zero s), fun s t hs => absurd hs (Nat.not_lt_zero s), fun s _ => Or.inl rfl⟩, ⟨fun q hq => ⟨by show 0 ≤ 16; decide, fun _ => rfl, fun _ => rfl, fun h => absurd h (Nat.not_lt_zero q)⟩, fun q hq i hi => absurd hi (Nat.not_lt_zero i)⟩, by show 0 ≤ 1000; decide, ⟨by show 1 ≤ 1; decide, by show 1 ≤ 30; decide, fun i hi => ?_, ?_⟩, ⟨⟨by show (0 : Int) ≤ (60 : Int32).toInt; decide, by show (60 : Int32).toInt ≤ 3600; decide⟩, ⟨by show (0 : Int) ≤ (0 : Int32).toInt; decide, by show (0 : Int32).toInt ≤ 1000; decide⟩⟩, ⟨by show 0 ≤ 20; decide, fun i hi => absurd hi (Nat.not_lt_zero i)⟩⟩
  · have hi : i < 1 := hi
    have : i = 0 := by omega
    subst this
    exact ⟨by show 1 ≤ 1; decide, by show (-10 : Int) ≤ (1 : Int32).toInt; decide, by show (1 : Int32).toInt ≤ 9999; decide⟩
  · show nd (fun _ => (1 : Int32)) 1 = 0
    decide
/-- the reference: the rows l are made -/
def InM (h : IH) (m : Nat) (l : List Nat) (w r : Int32) : Prop := ∃ ar : Nat → Nat, kd h m = 13 ∧ (∀ k ∈ l, mKd k ≠ 0 ∧ fR h (1200 + k) m = some (ar k) ∧ kd h (ar k) = mKd k ∧ ln h (ar k) = mSz k ∧ ∀ j, rI h (ar k) j = 0) ∧ (∀ j ∈ l, ∀ k ∈ l, ar j = ar k → j = k) ∧ (∀ f, f ≠ 1221 → f ≠ 1223 → fI h f m = 0) ∧ fI h 1221 m = w ∧ fI h 1223 m = r
theorem InM.new {h : IH} {m q a n k : Nat} {l : List Nat} {w r : Int32} (I : InM h m l w r) (hq : kd h q = 0) (hk : mKd k = 20 + a) (hn : mSz k = n) (hl : ¬ k ∈ l) {C : IH → Prop} (nx : ∀ h', InM h' m (k :: l) w r → C h') : bP (pR (newA h a n q) 12 k (some m) (some q)) C := by
  obtain ⟨ar, k0, rows, inj, f0, fw, fr⟩ := I
  have mq : m ≠ q := fun z => by rw [← z, k0] at hq; omega
  have aq : ∀ j ∈ l, ar j ≠ q := fun j hj z => by
    have := (rows j hj).2.2.1
    rw [z, hq] at this
    exact (rows j hj).1 this.symm
  have km : kd (newA h a n q) m = 12 + 1 := (va_up_n _ _ mq).trans k0
  refine bP_ok (pR_ok (c := 12) k (some q) km) (nx _ ⟨fun j => if j = k then q else ar j, km, fun j hj => ?_, fun i hi j hj e => ?_, f0, fw, fr⟩)
  · rcases List.mem_cons.mp hj with z | z
    · subst z
      refine ⟨by omega, ?_, ?_, ?_, fun i => ?_⟩
      · show u2 _ _ _ _ _ _ = some (if j = j then q else ar j)
        rw [if_pos rfl]
        exact u2_same
      · show va_up (kd h) q (20 + a) (if j = j then q else ar j) = mKd j
        rw [if_pos rfl, va_up_s, hk]
      · show va_up (ln h) q n (if j = j then q else ar j) = mSz j
        rw [if_pos rfl, va_up_s, hn]
      · show (if (if j = j then q else ar j) = q then 0 else rI h _ i) = 0
        rw [if_pos rfl, if_pos rfl]
    · have ne : j ≠ k := fun y => hl (y ▸ z)
      obtain ⟨r1, r2, r3, r4, r5⟩ := rows j z
      have naq := aq j z
      refine ⟨r1, ?_, ?_, ?_, fun i => ?_⟩
      · show u2 (fR h) (100 * 12 + k) m (some q) (1200 + j) m = some (if j = k then q else ar j)
        rw [if_neg ne, u2_ne1 (by omega)]
        exact r2
      · show va_up (kd h) q (20 + a) (if j = k then q else ar j) = mKd j
        rw [if_neg ne, va_up_n _ _ naq]
        exact r3
      · show va_up (ln h) q n (if j = k then q else ar j) = mSz j
        rw [if_neg ne, va_up_n _ _ naq]
        exact r4
      · show (if (if j = k then q else ar j) = q then 0 else rI h (if j = k then q else ar j) i) = 0
        rw [if_neg ne, if_neg naq]
        exact r5 i
  · have e : (if i = k then q else ar i) = (if j = k then q else ar j) := e
    by_cases c1 : i = k
    · by_cases c2 : j = k
      · rw [c1, c2]
      · rw [if_pos c1, if_neg c2] at e
        rcases List.mem_cons.mp hj with z | z
        · exact absurd z c2
        · exact absurd e.symm (aq j z)
    · rcases List.mem_cons.mp hi with z | z
      · exact absurd z c1
      · by_cases c2 : j = k
        · rw [if_neg c1, if_pos c2] at e
          exact absurd e (aq i z)
        · rcases List.mem_cons.mp hj with y | y
          · exact absurd y c2
          · rw [if_neg c1, if_neg c2] at e
            exact inj i z j y e
theorem InM.win {h : IH} {m : Nat} {l : List Nat} {w r : Int32} (I : InM h m l w r) (v : Int32) {C : IH → Prop} (nx : ∀ h', InM h' m l v r → C h') : bP (pI h 12 21 (some m) v) C := by
  obtain ⟨ar, k0, rows, inj, f0, fw, fr⟩ := I
  exact bP_ok (mpI 21 v k0) (nx _ ⟨ar, k0, rows, inj, fun f h1 h2 => by rw [fI_wfI_ne _ _ h1]; exact f0 f h1 h2, fI_wfI _ _ _ _, by rw [fI_wfI_ne _ _ (by decide)]; exact fr⟩)
theorem InM.wrd {h : IH} {m : Nat} {l : List Nat} {w r : Int32} (I : InM h m l w r) (v : Int32) {C : IH → Prop} (nx : ∀ h', InM h' m l w v → C h') : bP (pI h 12 23 (some m) v) C := by
  obtain ⟨ar, k0, rows, inj, f0, fw, fr⟩ := I
  exact bP_ok (mpI 23 v k0) (nx _ ⟨ar, k0, rows, inj, fun f h1 h2 => by rw [fI_wfI_ne _ _ h2]; exact f0 f h1 h2, by rw [fI_wfI_ne _ _ (by decide)]; exact fw, fI_wfI _ _ _ _⟩)
def allM : List Nat := [69, 66, 65, 64, 63, 62, 61, 60, 59, 51, 35, 34, 33, 31, 28, 27, 26, 25, 24, 20, 19, 18, 16, 15, 14, 13, 12, 11, 10, 9, 8, 7, 6, 5, 4, 3, 2]
theorem allM_all : ∀ k, mKd k ≠ 0 → k ∈ allM := fun k h => by
  by_cases c : k < 70
  · have : ∀ k, k < 70 → mKd k ≠ 0 → k ∈ allM := by decide
    exact this k c h
  · exfalso
    apply h
    unfold mKd
    rw [List.getD_eq_getElem?_getD, List.getElem?_eq_none (by show 70 ≤ k; omega)]
    rfl
theorem endM_ {N : Nat} (hN : 2000 ≤ N) {h : IH} {m : Nat} (I : InM h m allM 60 1) {C : IH → Prop} (nx : ∀ h' ar, ShM h' m ar → GM h' m ar D0 → fI h' 1217 m = 0 → C h') : bP (s_X12_init_L326 N N m 0 h) fun q117 => bP (gR q117 12 24 (some m)) fun v118 => bP (sI q117 v118 0 10) fun h119 => bP (gR h119 12 25 (some m)) fun v120 => bP (sI h119 v120 0 1) fun h121 => C h121 := by
  obtain ⟨ar, k0, rows, inj, f0, fw, fr⟩ := I
  have S : ShM h m ar := ⟨k0, fun k hk => ⟨(rows k (allM_all k hk)).2.1, (rows k (allM_all k hk)).2.2.1, (rows k (allM_all k hk)).2.2.2.1⟩, fun j k hj hk e => inj j (allM_all j hj) k (allM_all k hk) e⟩
  have z0 : ∀ k, mKd k ≠ 0 → ∀ j, rI h (ar k) j = 0 := fun k hk => (rows k (allM_all k hk)).2.2.2.2
  have L : ∀ (r k z : Nat) (H : IH), k + r = 36 → r < z → FM m ar no1 no1 (e1 9) no1 h H → (∀ j, j < k → rI H (ar 9) j = -1) → ∃ h', s_X12_init_L326 N z m (nI k) H = some h' ∧ FM m ar no1 no1 (e1 9) no1 h h' ∧ ∀ j, j < 36 → rI h' (ar 9) j = -1 := by
    intro r
    induction r with
    | zero =>
      intro k z H hk hz fr q
      obtain ⟨z, rfl⟩ : ∃ y, z = y + 1 := ⟨z - 1, by omega⟩
      have : k = 36 := by omega
      subst this
      rw [s_X12_init_L326.eq_2, if_pos (by decide)]
      exact ⟨H, rfl, fr, q⟩
    | succ r ih =>
      intro k z H hk hz fr q
      obtain ⟨z, rfl⟩ : ∃ y, z = y + 1 := ⟨z - 1, by omega⟩
      have SH := fr.shM S
      rw [s_X12_init_L326.eq_2, if_neg (show ¬ (36 : Int32) ≤ nI k from nI_ge (b := 36) (by omega) (by omega)), mgR 9 SH (by decide), Option.bind_some, msI 9 k _ SH (by decide) (show k < 36 by omega), Option.bind_some, nI_1]
      refine ih (k + 1) z _ (by omega) (by omega) (fr.trans (Fr.sI _ _ _ ⟨9, rfl, rfl⟩)) (fun j hj => ?_)
      rw [rI_setI]
      by_cases d : j = k
      · rw [d, upd_s]
      · rw [upd_n _ _ d]
        exact q j (by omega)
  obtain ⟨H, e1', f1, q1⟩ := L 36 0 N h (by omega) (by omega) (Fr.refl _) (fun j hj => absurd hj (by omega))
  rw [nI_0] at e1'
  have SH := f1.shM S
  have r9 : mRow (e1 9) := fun i z => by cases z; decide
  have zH : ∀ k, mKd k ≠ 0 → k ≠ 9 → ∀ j, rI H (ar k) j = 0 := fun k hk h9 j => by
    rw [mrI S f1 r9 hk (fun z => h9 z)]
    exact z0 k hk j
  have fH : ∀ f, fI H f m = fI h f m := fun f => mfI f1 (fun z => z)
  have s1 : sI H (some (ar 24)) 0 10 = some (setI H (ar 24) (upd (rI H (ar 24)) 0 10)) := msI 24 0 10 SH (by decide) (by decide)
  have S1 : ShM (setI H (ar 24) (upd (rI H (ar 24)) 0 10)) m ar := SH
  have s2 : sI (setI H (ar 24) (upd (rI H (ar 24)) 0 10)) (some (ar 25)) 0 1 = some (setI (setI H (ar 24) (upd (rI H (ar 24)) 0 10)) (ar 25) (upd (rI (setI H (ar 24) (upd (rI H (ar 24)) 0 10)) (ar 25)) 0 1)) := msI 25 0 1 S1 (by decide) (by decide)
  refine bP_ok e1' (bP_ok (mgR 24 SH (by decide)) (bP_ok s1 (bP_ok (mgR 25 S1 (by decide)) (bP_ok s2 (nx _ ar S1 ?_ ?_)))))
  · have n25 : ∀ k, mKd k ≠ 0 → k ≠ 25 → ar k ≠ ar 25 := fun k hk h1 z => h1 (S.2.2 k 25 hk (by decide) z)
    have n24 : ∀ k, mKd k ≠ 0 → k ≠ 24 → ar k ≠ ar 24 := fun k hk h1 z => h1 (S.2.2 k 24 hk (by decide) z)
    have rr : ∀ k, mKd k ≠ 0 → k ≠ 25 → k ≠ 24 → rI (setI (setI H (ar 24) (upd (rI H (ar 24)) 0 10)) (ar 25) (upd (rI (setI H (ar 24) (upd (rI H (ar 24)) 0 10)) (ar 25)) 0 1)) (ar k) = rI H (ar k) := fun k hk h1 h2 => by rw [rI_setI_ne _ _ (n25 k hk h1), rI_setI_ne _ _ (n24 k hk h2)]
    have ff : ∀ f, f ≠ 1221 → f ≠ 1223 → fI H f m = 0 := fun f h1 h2 => by rw [fH]; exact f0 f h1 h2
    refine ⟨⟨ff 1229 (by decide) (by decide), ?_⟩, ⟨ff 1201 (by decide) (by decide), fun s hs => absurd hs (Nat.not_lt_zero s), fun s hs => ?_⟩, ⟨fun q hq => ?_, fun q hq i hi => absurd hi (Nat.not_lt_zero i)⟩, ⟨ff 1230 (by decide) (by decide), fun i hi => absurd hi (Nat.not_lt_zero i)⟩, ⟨(fH 1223).trans fr, fun i hi => ?_⟩, ⟨(fH 1221).trans fw, ff 1222 (by decide) (by decide)⟩, ⟨ff 1232 (by decide) (by decide), ff 1200 (by decide) (by decide), fun i hi => absurd hi (Nat.not_lt_zero i)⟩, ⟨ff 1236 (by decide) (by decide), ff 1237 (by decide) (by decide), ff 1238 (by decide) (by decide), ff 1239 (by decide) (by decide)⟩⟩
    · rw [rr 28 (by decide) (by decide) (by decide)]
      funext j
      exact zH 28 (by decide) (by decide) j
    · rw [rr 8 (by decide) (by decide) (by decide)]
      exact zH 8 (by decide) (by decide) s
    · rw [rr 9 (by decide) (by decide) (by decide)]
      exact q1 q hq
    · have hi : i < 1 := hi
      have : i = 0 := by omega
      subst this
      constructor
      · rw [rI_setI_ne _ _ (n25 24 (by decide) (by decide)), rI_setI]
        exact upd_s _ _ _
      · intro _
        rw [rI_setI]
        exact upd_s _ _ _
  · exact (fH 1217).trans (f0 1217 (by decide) (by decide))
