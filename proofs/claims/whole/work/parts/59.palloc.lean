/-! ===== new objects: what lives is kept ===== -/
/-- all that lives in h is as it was in h', but for the addresses X, of which kind and length are -/
def Kx (X : Nat → Prop) (h h' : IH) : Prop := ∀ a, kd h a ≠ 0 → kd h' a = kd h a ∧ ln h' a = ln h a ∧ (¬ X a → (∀ f, fI h' f a = fI h f a) ∧ (∀ f, fL h' f a = fL h f a) ∧ (∀ f, fR h' f a = fR h f a) ∧ rI h' a = rI h a ∧ rL h' a = rL h a ∧ rR h' a = rR h a)
theorem Kx.refl (X : Nat → Prop) (h : IH) : Kx X h h := fun _ _ => ⟨rfl, rfl, fun _ => ⟨fun _ => rfl, fun _ => rfl, fun _ => rfl, rfl, rfl, rfl⟩⟩
theorem Kx.trans {X : Nat → Prop} {h h1 h2 : IH} (x : Kx X h h1) (y : Kx X h1 h2) : Kx X h h2 := by
  intro a ha
  obtain ⟨x1, x2, x3⟩ := x a ha
  obtain ⟨y1, y2, y3⟩ := y a (by rw [x1]; exact ha)
  refine ⟨y1.trans x1, y2.trans x2, fun z => ?_⟩
  obtain ⟨a1, a2, a3, a4, a5, a6⟩ := x3 z
  obtain ⟨b1, b2, b3, b4, b5, b6⟩ := y3 z
  exact ⟨fun f => (b1 f).trans (a1 f), fun f => (b2 f).trans (a2 f), fun f => (b3 f).trans (a3 f), b4.trans a4, b5.trans a5, b6.trans a6⟩
theorem Kx.tr {X Y : Nat → Prop} {h h1 h2 : IH} (x : Kx X h h1) (y : Kx Y h1 h2) (q : ∀ a, kd h a ≠ 0 → Y a → X a) : Kx X h h2 := by
  intro a ha
  obtain ⟨x1, x2, x3⟩ := x a ha
  obtain ⟨y1, y2, y3⟩ := y a (by rw [x1]; exact ha)
  refine ⟨y1.trans x1, y2.trans x2, fun z => ?_⟩
  obtain ⟨a1, a2, a3, a4, a5, a6⟩ := x3 z
  obtain ⟨b1, b2, b3, b4, b5, b6⟩ := y3 (fun w => z (q a ha w))
  exact ⟨fun f => (b1 f).trans (a1 f), fun f => (b2 f).trans (a2 f), fun f => (b3 f).trans (a3 f), b4.trans a4, b5.trans a5, b6.trans a6⟩
theorem Kx.mono {X Y : Nat → Prop} {h h1 : IH} (x : Kx X h h1) (q : ∀ a, kd h a ≠ 0 → X a → Y a) : Kx Y h h1 := fun a ha => ⟨(x a ha).1, (x a ha).2.1, fun z => (x a ha).2.2 (fun w => z (q a ha w))⟩
theorem va_up_s {α : Type} (f : Nat → α) (k : Nat) (v : α) : va_up f k v k = v := by unfold va_up; rw [if_pos rfl]
theorem va_up_n {α : Type} (f : Nat → α) {k j : Nat} (v : α) (h : j ≠ k) : va_up f k v j = f j := by unfold va_up; rw [if_neg h]
theorem Kx.nO {X : Nat → Prop} {h : IH} {c q : Nat} (hq : kd h q = 0) : Kx X h (newO h c q) := by
  intro a ha
  have ne : a ≠ q := fun z => ha (z ▸ hq)
  refine ⟨va_up_n _ _ ne, rfl, fun _ => ⟨fun f => ?_, fun f => ?_, fun f => ?_, rfl, rfl, rfl⟩⟩
  · show (if a = q then 0 else fI h f a) = _
    rw [if_neg ne]
  · show (if a = q then 0 else fL h f a) = _
    rw [if_neg ne]
  · show (if a = q then none else fR h f a) = _
    rw [if_neg ne]
theorem Kx.nA {X : Nat → Prop} {h : IH} {k n q : Nat} (hq : kd h q = 0) : Kx X h (newA h k n q) := by
  intro a ha
  have ne : a ≠ q := fun z => ha (z ▸ hq)
  refine ⟨va_up_n _ _ ne, va_up_n _ _ ne, fun _ => ⟨fun f => rfl, fun f => rfl, fun f => rfl, ?_, ?_, ?_⟩⟩
  · funext y
    show (if a = q then 0 else rI h a y) = _
    rw [if_neg ne]
  · funext y
    show (if a = q then 0 else rL h a y) = _
    rw [if_neg ne]
  · funext y
    show (if a = q then none else rR h a y) = _
    rw [if_neg ne]
theorem Kx.wI {X : Nat → Prop} {h : IH} {f b : Nat} {v : Int32} (hb : kd h b ≠ 0 → X b) : Kx X h (wfI h f b v) := by
  refine fun a ha => ⟨rfl, rfl, fun z => ⟨fun g => ?_, fun _ => rfl, fun _ => rfl, rfl, rfl, rfl⟩⟩
  have ne : a ≠ b := fun w => z (w ▸ hb (w ▸ ha))
  exact u2_ne2 ne
theorem Kx.wL {X : Nat → Prop} {h : IH} {f b : Nat} {v : Int64} (hb : kd h b ≠ 0 → X b) : Kx X h (wfL h f b v) := by
  refine fun a ha => ⟨rfl, rfl, fun z => ⟨fun _ => rfl, fun g => ?_, fun _ => rfl, rfl, rfl, rfl⟩⟩
  have ne : a ≠ b := fun w => z (w ▸ hb (w ▸ ha))
  exact u2_ne2 ne
theorem Kx.wR {X : Nat → Prop} {h : IH} {f b : Nat} {v : Option Nat} (hb : kd h b ≠ 0 → X b) : Kx X h (wfR h f b v) := by
  refine fun a ha => ⟨rfl, rfl, fun z => ⟨fun _ => rfl, fun _ => rfl, fun g => ?_, rfl, rfl, rfl⟩⟩
  have ne : a ≠ b := fun w => z (w ▸ hb (w ▸ ha))
  exact u2_ne2 ne
theorem Kx.rR {X : Nat → Prop} {h : IH} {b j : Nat} {v : Option Nat} (hb : kd h b ≠ 0 → X b) : Kx X h (wrR h b j v) := by
  refine fun a ha => ⟨rfl, rfl, fun z => ⟨fun _ => rfl, fun _ => rfl, fun _ => rfl, rfl, rfl, ?_⟩⟩
  have ne : a ≠ b := fun w => z (w ▸ hb (w ▸ ha))
  funext y
  exact u2_ne1 ne
theorem sR_ok {h : IH} {k c a w j : Nat} (hk : kd h a = 20 + k) (hw : kd h w = c + 1) (hj : j < ln h a) (hn : ln h a < 2 ^ 31) : sR h k c (some a) (nI j) (some w) = some (wrR h a j (some w)) := by
  have h1 := in_ok hj hn
  have h2 : (nI j).toNatClampNeg = j := nI_clamp (by omega)
  show (if (kd h a = 20 + k ∧ kd h w = c + 1) ∧ ¬ (nI j < 0 ∨ ln h a ≤ (nI j).toNatClampNeg) then some (wrR h a (nI j).toNatClampNeg (some w)) else none) = _
  rw [if_pos ⟨⟨hk, hw⟩, h1⟩, h2]
theorem pR_ok {h : IH} {c a : Nat} (k : Nat) (v : Option Nat) (hk : kd h a = c + 1) : pR h c k (some a) v = some (wfR h (100 * c + k) a v) := by simp [pR, hk]
theorem bP_ok {α : Type} {o : Option α} {v : α} {k : α → Prop} (e : o = some v) (q : k v) : bP o k := ⟨v, e, q⟩
/-- a log that was just made: at lg, its rows at rw, its entries es; at h0 none of them lived -/
def NLog (h0 h : IH) (lg rw : Nat) (es : Nat → Nat) : Prop := kd h lg = 5 ∧ fR h 400 lg = some rw ∧ kd h rw = 23 ∧ ln h rw = 16 ∧ (∀ i, i < 16 → rR h rw i = some (es i) ∧ kd h (es i) = 3 ∧ kd h0 (es i) = 0) ∧ (∀ i j, i < 16 → j < 16 → es i = es j → i = j) ∧ kd h0 rw = 0 ∧ fI h 401 lg = 0 ∧ fI h 402 lg = 1
theorem logInit {N : Nat} (hN : 2000 ≤ N) {h : IH} {th : Nat} {P : IH → Prop} (hk : kd h th = 5) (h0 : fI h 401 th = 0) (q : ∀ h' rw es, Kx (fun a => a = th) h h' → NLog h h' th rw es → P h') : s_X4_initP N h th P := by
  intro q1 h2 hq1 e2
  subst e2
  have ne1 : th ≠ q1 := fun z => by rw [z] at hk; omega
  have k2 : kd (newA h 3 16 q1) th = 5 := (va_up_n _ _ ne1).trans hk
  refine bP_ok (pR_ok (c := 4) 0 _ k2) (bP_ok (pZ_ok (c := 4) 2 (show kd (wfR (newA h 3 16 q1) (100 * 4 + 0) th (some q1)) th = 5 from k2) (Or.inr rfl)) ?_)
  generalize hH : wfI (wfR (newA h 3 16 q1) (100 * 4 + 0) th (some q1)) (100 * 4 + 2) th 1 = H
  have KH : Kx (fun a => a = th) h H := by
    rw [← hH]
    exact ((Kx.nA (X := fun a => a = th) hq1).trans (Kx.wR (X := fun a => a = th) (b := th) (fun _ => rfl))).trans (Kx.wI (X := fun a => a = th) (b := th) (fun _ => rfl))
  have a1 : kd H th = 5 := by rw [← hH]; exact k2
  have a2 : fR H 400 th = some q1 := by
    rw [← hH]
    show u2 (fR (newA h 3 16 q1)) 400 th (some q1) 400 th = _
    exact u2_same
  have a3 : kd H q1 = 23 := by rw [← hH]; exact va_up_s _ _ _
  have a4 : ln H q1 = 16 := by rw [← hH]; exact va_up_s _ _ _
  have a5 : fI H 402 th = 1 := by rw [← hH]; exact fI_wfI _ _ _ _
  have a6 : fI H 401 th = 0 := by
    rw [← hH, fI_wfI_ne _ _ (by decide)]
    exact h0
  have L : ∀ r i z (H : IH) (es : Nat → Nat), i + r = 16 → r < z → Kx (fun a => a = th) h H → kd H th = 5 → fR H 400 th = some q1 → kd H q1 = 23 → ln H q1 = 16 → fI H 402 th = 1 → fI H 401 th = 0 → (∀ j, j < i → rR H q1 j = some (es j) ∧ kd H (es j) = 3 ∧ kd h (es j) = 0) → (∀ j k, j < i → k < i → es j = es k → j = k) → s_X4_init_L20 N z th (nI i) H P := by
    intro r
    induction r with
    | zero =>
      intro i z H es hi hz K b1 b2 b3 b4 b5 b6 b7 b8
      obtain ⟨z, rfl⟩ : ∃ y, z = y + 1 := ⟨z - 1, by omega⟩
      have : i = 16 := by omega
      subst this
      rw [s_X4_init_L20.eq_2, if_pos (by decide)]
      exact q H q1 es K ⟨b1, b2, b3, b4, b7, b8, hq1, b6, b5⟩
    | succ r ih =>
      intro i z H es hi hz K b1 b2 b3 b4 b5 b6 b7 b8
      obtain ⟨z, rfl⟩ : ∃ y, z = y + 1 := ⟨z - 1, by omega⟩
      rw [s_X4_init_L20.eq_2, if_neg (show ¬ (16 : Int32) ≤ nI i from nI_ge (b := 16) (by omega) (by omega))]
      refine bP_ok (gR_ok (c := 4) 0 b1) ?_
      have b2' : fR H (100 * 4 + 0) th = some q1 := b2
      rw [b2']
      intro q6 h7 hq6 e7
      subst e7
      have n1 : th ≠ q6 := fun z => by rw [z] at b1; omega
      have n2 : q1 ≠ q6 := fun z => by rw [z] at b3; omega
      have c1 : kd (newO H 2 q6) q1 = 23 := (va_up_n _ _ n2).trans b3
      have c2 : kd (newO H 2 q6) q6 = 3 := va_up_s _ _ _
      have c3 : ln (newO H 2 q6) q1 = 16 := b4
      refine bP_ok (sR_ok (k := 3) (c := 2) c1 c2 (by omega) (by omega)) ?_
      have f6 : kd h q6 = 0 := by
        by_cases z : kd h q6 = 0
        · exact z
        · rw [(K q6 z).1] at hq6
          exact hq6
      have n3 : ∀ j, j < i → es j ≠ q6 := fun j hj z => by have := (b7 j hj).2.1; rw [z] at this; omega
      rw [nI_1]
      refine ih (i + 1) z _ (fun j => if j = i then q6 else es j) (by omega) (by omega) ?_ ?_ ?_ c1 c3 ?_ ?_ ?_ ?_
      · exact (K.trans (Kx.nO hq6)).tr (Kx.rR (X := fun a => a = q1) (b := q1) (fun _ => rfl)) (fun a ha z => absurd (z ▸ hq1) ha)
      · exact (va_up_n _ _ n1).trans b1
      · show (if th = q6 then none else fR H 400 th) = some q1
        rw [if_neg n1, b2]
      · show (if th = q6 then 0 else fI H 402 th) = 1
        rw [if_neg n1, b5]
      · show (if th = q6 then 0 else fI H 401 th) = 0
        rw [if_neg n1, b6]
      · intro j hj
        by_cases c : j = i
        · subst c
          rw [if_pos rfl]
          refine ⟨?_, c2, f6⟩
          show u2 (rR (newO H 2 q6)) q1 j (some q6) q1 j = _
          exact u2_same
        · rw [if_neg c]
          have old := b7 j (by omega)
          refine ⟨?_, (va_up_n _ _ (n3 j (by omega))).trans old.2.1, old.2.2⟩
          show u2 (rR H) q1 i (some q6) q1 j = _
          rw [u2_ne2 c]
          exact old.1
      · intro j k hj hk' e
        by_cases c : j = i
        · by_cases d : k = i
          · omega
          · rw [if_pos c, if_neg d] at e
            exact absurd e.symm (n3 k (by omega))
        · by_cases d : k = i
          · rw [if_neg c, if_pos d] at e
            exact absurd e (n3 j (by omega))
          · rw [if_neg c, if_neg d] at e
            exact b8 j k (by omega) (by omega) e
  exact L 16 0 N H (fun _ => 0) rfl (by omega) KH a1 a2 a3 a4 a5 a6 (fun j hj => absurd hj (by omega)) (fun j k hj => absurd hj (by omega))

/-- what a log that was made holds, in a later heap -/
theorem NLog.keep {X : Nat → Prop} {h0 h h' : IH} {lg rw : Nat} {es : Nat → Nat} (x : NLog h0 h lg rw es) (k : Kx X h h') (n1 : ¬ X lg) (n2 : ¬ X rw) : NLog h0 h' lg rw es := by
  obtain ⟨a1, a2, a3, a4, a5, a6, a7, a8, a9⟩ := x
  obtain ⟨b1, b2, b3⟩ := k lg (by omega)
  obtain ⟨c1, c2, c3⟩ := k rw (by omega)
  refine ⟨by omega, by rw [(b3 n1).2.2.1]; exact a2, by omega, by omega, fun i hi => ?_, a6, a7, by rw [(b3 n1).1]; exact a8, by rw [(b3 n1).1]; exact a9⟩
  obtain ⟨d1, d2, d3⟩ := a5 i hi
  refine ⟨by rw [(c3 n2).2.2.2.2.2]; exact d1, ?_, d3⟩
  rw [(k (es i) (by omega)).1]
  exact d2
theorem stStep {N z : Nat} (hN : 2000 ≤ N) {h : IH} {th la b : Nat} {P : IH → Prop} (hb : b < 3) (k1 : kd h th = 10) (k2 : fR h 905 th = some la) (k3 : kd h la = 24) (k4 : ln h la = 3) (q : ∀ h' lg rw es, Kx (fun a => a = la) h h' → rR h' la b = some lg → (∀ j, j ≠ b → rR h' la j = rR h la j) → kd h lg = 0 → NLog h h' lg rw es → s_X9_init_L47 N z th (nI (b + 1)) h' P) : s_X9_init_L47 N (z + 1) th (nI b) h P := by
  rw [s_X9_init_L47.eq_2, if_neg (show ¬ (3 : Int32) ≤ nI b from nI_ge (b := 3) hb (by omega))]
  refine bP_ok (gR_ok (c := 9) 5 k1) ?_
  have k2' : fR h (100 * 9 + 5) th = some la := k2
  rw [k2']
  intro q11 h12 hq e12
  subst e12
  have n1 : la ≠ q11 := fun z => by rw [z] at k3; omega
  refine logInit hN (va_up_s _ _ _) (show (if q11 = q11 then 0 else fI h 401 q11) = 0 from if_pos rfl) (fun h13 rw es K L => ?_)
  have la13 := K la (by rw [show kd (newO h 4 q11) la = kd h la from va_up_n _ _ n1]; omega)
  have kla : kd (newO h 4 q11) la = 24 := (va_up_n _ _ n1).trans k3
  have e1 : kd h13 la = 24 := by rw [la13.1]; exact kla
  have e2 : ln h13 la = 3 := by rw [la13.2.1]; exact k4
  have e3 : kd h13 q11 = 5 := L.1
  refine bP_ok (sR_ok (k := 4) (c := 4) e1 e3 (by omega) (by omega)) ?_
  rw [nI_1]
  have lgne : q11 ≠ la := fun z => n1 z.symm
  have rwne : rw ≠ la := fun z => by have := L.2.2.1; rw [z] at this; omega
  refine q _ q11 rw es ?_ ?_ (fun j hj => ?_) hq ?_
  · refine ((Kx.nO (X := fun a => a = la) hq).tr K (fun a ha z => absurd (z ▸ hq) ha)).trans (Kx.rR (b := la) (fun _ => rfl))
  · show u2 (rR h13) la b (some q11) la b = _
    exact u2_same
  · show u2 (rR h13) la b (some q11) la j = _
    rw [u2_ne2 hj]
    have := (la13.2.2 n1).2.2.2.2.2
    rw [this]
    rfl
  · have L2 := L.keep (Kx.rR (X := fun a => a = la) (h := h13) (b := la) (j := b) (v := some q11) (fun _ => rfl)) lgne rwne
    obtain ⟨a1, a2, a3, a4, a5, a6, a7, a8, a9⟩ := L2
    have f0 : ∀ a, kd (newO h 4 q11) a = 0 → kd h a = 0 := fun a ha => by
      by_cases z : a = q11
      · rw [z]
        exact hq
      · rw [show kd (newO h 4 q11) a = kd h a from va_up_n _ _ z] at ha
        exact ha
    exact ⟨a1, a2, a3, a4, fun i hi => ⟨(a5 i hi).1, (a5 i hi).2.1, f0 _ (a5 i hi).2.2⟩, a6, f0 _ a7, a8, a9⟩
theorem stInit {N : Nat} (hN : 2000 ≤ N) {h0 : IH} {th : Nat} {P : IH → Prop} (hth : kd h0 th = 0) (a0 a1 a2 a3 : Int32) (a4 : Int64) (q : ∀ (h' : IH) (la : Nat) (lg rw : Nat → Nat) (es : Nat → Nat → Nat), Kx no1 h0 h' → kd h' th = 10 → fR h' 905 th = some la → kd h' la = 24 → ln h' la = 3 → kd h0 la = 0 → fI h' 900 th = a0 → fI h' 901 th = a1 → fI h' 902 th = a2 → fI h' 903 th = a3 → fL h' 904 th = a4 → fI h' 906 th = -1 → fI h' 907 th = 0 → (∀ b, b < 3 → rR h' la b = some (lg b) ∧ kd h0 (lg b) = 0 ∧ NLog h0 h' (lg b) (rw b) (es b)) → (∀ b c, b < 3 → c < 3 → lg b = lg c → b = c) → (∀ b c, b < 3 → c < 3 → rw b = rw c → b = c) → (∀ b c i j, b < 3 → c < 3 → i < 16 → j < 16 → es b i = es c j → b = c) → P h') : s_X9_initP N (newO h0 9 th) th a0 a1 a2 a3 a4 P := by
  intro la h2 hla e2
  subst e2
  have nth : th ≠ la := fun z => by
    have : kd (newO h0 9 th) th = 10 := va_up_s _ _ _
    rw [z] at this
    rw [z] at hla
    omega
  have f0 : kd h0 la = 0 := by
    rw [show kd (newO h0 9 th) la = kd h0 la from va_up_n _ _ (fun z => nth z.symm)] at hla
    exact hla
  generalize h2e : newA (newO h0 9 th) 4 3 la = H2
  have kt : kd H2 th = 10 := by
    rw [← h2e]
    exact (va_up_n _ _ nth).trans (va_up_s _ _ _)
  refine bP_ok (pR_ok (c := 9) 5 _ kt) (bP_ok (pI_ok (c := 9) 6 _ kt) (bP_ok (pI_ok (c := 9) 0 _ kt) (bP_ok (pI_ok (c := 9) 1 _ kt) (bP_ok (pI_ok (c := 9) 2 _ kt) (bP_ok (pI_ok (c := 9) 3 _ kt) (bP_ok (pL_ok (c := 9) 4 _ kt) ?_))))))
  generalize h9e : wfL (wfI (wfI (wfI (wfI (wfI (wfR H2 (100 * 9 + 5) th (some la)) (100 * 9 + 6) th (-1)) (100 * 9 + 0) th a0) (100 * 9 + 1) th a1) (100 * 9 + 2) th a2) (100 * 9 + 3) th a3) (100 * 9 + 4) th a4 = H9
  have K0 : Kx no1 h0 H9 := by
    have K1 : Kx no1 h0 H2 := by
      rw [← h2e]
      exact (Kx.nO hth).trans (Kx.nA hla)
    rw [← h9e]
    have K2 : Kx (fun a => a = th) H2 (wfL (wfI (wfI (wfI (wfI (wfI (wfR H2 (100 * 9 + 5) th (some la)) (100 * 9 + 6) th (-1)) (100 * 9 + 0) th a0) (100 * 9 + 1) th a1) (100 * 9 + 2) th a2) (100 * 9 + 3) th a3) (100 * 9 + 4) th a4) := ((((((Kx.wR (X := fun a => a = th) (b := th) (fun _ => rfl)).trans (Kx.wI (b := th) (fun _ => rfl))).trans (Kx.wI (b := th) (fun _ => rfl))).trans (Kx.wI (b := th) (fun _ => rfl))).trans (Kx.wI (b := th) (fun _ => rfl))).trans (Kx.wI (b := th) (fun _ => rfl))).trans (Kx.wL (b := th) (fun _ => rfl))
    exact K1.tr K2 (fun a ha z => absurd (z ▸ hth) ha)
  have b1 : kd H9 th = 10 := by rw [← h9e]; exact kt
  have b2 : fR H9 905 th = some la := by
    rw [← h9e]
    show u2 (fR H2) 905 th (some la) 905 th = _
    exact u2_same
  have b3 : kd H9 la = 24 := by
    rw [← h9e]
    show kd H2 la = 24
    rw [← h2e]
    exact va_up_s _ _ _
  have b4 : ln H9 la = 3 := by
    rw [← h9e]
    show ln H2 la = 3
    rw [← h2e]
    exact va_up_s _ _ _
  have c3 : fI H9 903 th = a3 := by rw [← h9e, fI_wfL]; exact fI_wfI _ _ _ _
  have c2 : fI H9 902 th = a2 := by rw [← h9e, fI_wfL, fI_wfI_ne _ _ (by decide)]; exact fI_wfI _ _ _ _
  have c1 : fI H9 901 th = a1 := by rw [← h9e, fI_wfL, fI_wfI_ne _ _ (by decide), fI_wfI_ne _ _ (by decide)]; exact fI_wfI _ _ _ _
  have c0 : fI H9 900 th = a0 := by rw [← h9e, fI_wfL, fI_wfI_ne _ _ (by decide), fI_wfI_ne _ _ (by decide), fI_wfI_ne _ _ (by decide)]; exact fI_wfI _ _ _ _
  have c6 : fI H9 906 th = -1 := by rw [← h9e, fI_wfL, fI_wfI_ne _ _ (by decide), fI_wfI_ne _ _ (by decide), fI_wfI_ne _ _ (by decide), fI_wfI_ne _ _ (by decide)]; exact fI_wfI _ _ _ _
  have c7 : fI H9 907 th = 0 := by
    rw [← h9e, fI_wfL, fI_wfI_ne _ _ (by decide), fI_wfI_ne _ _ (by decide), fI_wfI_ne _ _ (by decide), fI_wfI_ne _ _ (by decide), fI_wfI_ne _ _ (by decide)]
    show fI H2 907 th = 0
    rw [← h2e]
    show (if th = th then 0 else fI h0 907 th) = 0
    exact if_pos rfl
  have c4 : fL H9 904 th = a4 := by rw [← h9e]; exact fL_wfL _ _ _ _
  obtain ⟨z, rfl⟩ : ∃ z, N = z + 1 + 1 + 1 + 1 := ⟨N - 4, by omega⟩
  show s_X9_init_L47 (z + 1 + 1 + 1 + 1) (z + 1 + 1 + 1 + 1) th (nI 0) H9 (fun h15 => P h15)
  refine stStep hN (by omega) b1 b2 b3 b4 (fun h1 l0 r0 e0 K1 g1 g1' f1 L0 => ?_)
  have th1 := K1 th (by omega)
  have la1 := K1 la (by omega)
  have T1 := th1.2.2 nth
  refine stStep hN (by omega) (by omega) (by rw [T1.2.2.1]; exact b2) (by omega) (by omega) (fun h2 l1 r1 e1 K2 g2 g2' f2 L1 => ?_)
  have th2 := K2 th (by omega)
  have la2 := K2 la (by omega)
  have T2 := th2.2.2 nth
  refine stStep hN (by omega) (by omega) (by rw [T2.2.2.1, T1.2.2.1]; exact b2) (by omega) (by omega) (fun h3 l2 r2 e2 K3 g3 g3' f3 L2 => ?_)
  have th3 := K3 th (by omega)
  have la3 := K3 la (by omega)
  have T3 := th3.2.2 nth
  rw [s_X9_init_L47.eq_2, if_pos (by decide)]
  -- nothing of a new log is the array of logs
  have nla : ∀ {h a : _}, kd h la = 24 → kd h a = 0 → a ≠ la := fun h1 h2 z => by rw [z] at h2; omega
  have fr : ∀ a, kd H9 a = 0 → kd h0 a = 0 := fun a ha => by
    by_cases z : kd h0 a = 0
    · exact z
    · rw [(K0 a z).1] at ha
      exact ha
  have fr1 : ∀ a, kd h1 a = 0 → kd H9 a = 0 := fun a ha => by
    by_cases z : kd H9 a = 0
    · exact z
    · rw [(K1 a z).1] at ha
      exact ha
  have fr2 : ∀ a, kd h2 a = 0 → kd h1 a = 0 := fun a ha => by
    by_cases z : kd h1 a = 0
    · exact z
    · rw [(K2 a z).1] at ha
      exact ha
  have w : ∀ {hh : IH} {lg rw : Nat} {es : Nat → Nat}, (∀ a, kd hh a = 0 → kd h0 a = 0) → NLog hh h3 lg rw es → NLog h0 h3 lg rw es := fun f L => ⟨L.1, L.2.1, L.2.2.1, L.2.2.2.1, fun i hi => ⟨(L.2.2.2.2.1 i hi).1, (L.2.2.2.2.1 i hi).2.1, f _ (L.2.2.2.2.1 i hi).2.2⟩, L.2.2.2.2.2.1, f _ L.2.2.2.2.2.2.1, L.2.2.2.2.2.2.2⟩
  have m0 : NLog h0 h3 l0 r0 e0 := w fr ((L0.keep K2 (nla b3 f1) (nla b3 L0.2.2.2.2.2.2.1)).keep K3 (nla b3 f1) (nla b3 L0.2.2.2.2.2.2.1))
  have m1 : NLog h0 h3 l1 r1 e1 := w (fun a ha => fr a (fr1 a ha)) (L1.keep K3 (nla (by omega) f2) (nla (h := h1) (by omega) L1.2.2.2.2.2.2.1))
  have m2 : NLog h0 h3 l2 r2 e2 := w (fun a ha => fr a (fr1 a (fr2 a ha))) L2
  -- what lives already is none of the later ones
  have lv1 : ∀ a, kd h1 a ≠ 0 → kd h2 a ≠ 0 := fun a ha => by rw [(K2 a ha).1]; exact ha
  refine q h3 la (fun b => if b = 0 then l0 else if b = 1 then l1 else l2) (fun b => if b = 0 then r0 else if b = 1 then r1 else r2) (fun b => if b = 0 then e0 else if b = 1 then e1 else e2) ?_ (by omega) (by rw [T3.2.2.1, T2.2.2.1, T1.2.2.1]; exact b2) (by omega) (by omega) f0 (by rw [T3.1, T2.1, T1.1]; exact c0) (by rw [T3.1, T2.1, T1.1]; exact c1) (by rw [T3.1, T2.1, T1.1]; exact c2) (by rw [T3.1, T2.1, T1.1]; exact c3) (by rw [T3.2.1, T2.2.1, T1.2.1]; exact c4) (by rw [T3.1, T2.1, T1.1]; exact c6) (by rw [T3.1, T2.1, T1.1]; exact c7) ?_ ?_ ?_ ?_
  · exact ((K0.tr K1 (fun a ha z => absurd (z ▸ f0) ha)).tr K2 (fun a ha z => absurd (z ▸ f0) ha)).tr K3 (fun a ha z => absurd (z ▸ f0) ha)
  · intro b hb
    have : b = 0 ∨ b = 1 ∨ b = 2 := by omega
    rcases this with e | e | e <;> subst e
    · exact ⟨by rw [g3' 0 (by omega), g2' 0 (by omega)]; exact g1, fr _ f1, m0⟩
    · exact ⟨by rw [g3' 1 (by omega)]; exact g2, fr _ (fr1 _ f2), m1⟩
    · exact ⟨g3, fr _ (fr1 _ (fr2 _ f3)), m2⟩
  · have d01 : l0 ≠ l1 := fun z => by rw [← z] at f2; have := L0.1; omega
    have d02 : l0 ≠ l2 := fun z => by rw [← z] at f3; exact lv1 l0 (by have := L0.1; omega) f3
    have d12 : l1 ≠ l2 := fun z => by rw [← z] at f3; have := L1.1; omega
    intro b c hb hc e
    have hb' : b = 0 ∨ b = 1 ∨ b = 2 := by omega
    have hc' : c = 0 ∨ c = 1 ∨ c = 2 := by omega
    rcases hb' with q1 | q1 | q1 <;> rcases hc' with q2 | q2 | q2 <;> subst q1 <;> subst q2 <;> first | rfl | exact absurd e d01 | exact absurd e d02 | exact absurd e d12 | exact absurd e.symm d01 | exact absurd e.symm d02 | exact absurd e.symm d12
  · have d01 : r0 ≠ r1 := fun z => by have := L1.2.2.2.2.2.2.1; rw [← z] at this; have := L0.2.2.1; omega
    have d02 : r0 ≠ r2 := fun z => by have q := L2.2.2.2.2.2.2.1; rw [← z] at q; exact lv1 r0 (by have := L0.2.2.1; omega) q
    have d12 : r1 ≠ r2 := fun z => by have := L2.2.2.2.2.2.2.1; rw [← z] at this; have := L1.2.2.1; omega
    intro b c hb hc e
    have hb' : b = 0 ∨ b = 1 ∨ b = 2 := by omega
    have hc' : c = 0 ∨ c = 1 ∨ c = 2 := by omega
    rcases hb' with q1 | q1 | q1 <;> rcases hc' with q2 | q2 | q2 <;> subst q1 <;> subst q2 <;> first | rfl | exact absurd e d01 | exact absurd e d02 | exact absurd e d12 | exact absurd e.symm d01 | exact absurd e.symm d02 | exact absurd e.symm d12
  · intro b c i j hb hc hi hj e
    have d01 : e0 i ≠ e1 j := fun z => by have q := (L1.2.2.2.2.1 j hj).2.2; rw [← z] at q; have := (L0.2.2.2.2.1 i hi).2.1; omega
    have d10 : e1 i ≠ e0 j := fun z => by have q := (L1.2.2.2.2.1 i hi).2.2; rw [z] at q; have := (L0.2.2.2.2.1 j hj).2.1; omega
    have d02 : e0 i ≠ e2 j := fun z => by have q := (L2.2.2.2.2.1 j hj).2.2; rw [← z] at q; exact lv1 _ (by have := (L0.2.2.2.2.1 i hi).2.1; omega) q
    have d20 : e2 i ≠ e0 j := fun z => by have q := (L2.2.2.2.2.1 i hi).2.2; rw [z] at q; exact lv1 _ (by have := (L0.2.2.2.2.1 j hj).2.1; omega) q
    have d12 : e1 i ≠ e2 j := fun z => by have q := (L2.2.2.2.2.1 j hj).2.2; rw [← z] at q; have := (L1.2.2.2.2.1 i hi).2.1; omega
    have d21 : e2 i ≠ e1 j := fun z => by have q := (L2.2.2.2.2.1 i hi).2.2; rw [z] at q; have := (L1.2.2.2.2.1 j hj).2.1; omega
    have hb' : b = 0 ∨ b = 1 ∨ b = 2 := by omega
    have hc' : c = 0 ∨ c = 1 ∨ c = 2 := by omega
    rcases hb' with q1 | q1 | q1 <;> rcases hc' with q2 | q2 | q2 <;> subst q1 <;> subst q2 <;> first | rfl | exact absurd e d01 | exact absurd e d02 | exact absurd e d12 | exact absurd e d10 | exact absurd e d20 | exact absurd e d21
