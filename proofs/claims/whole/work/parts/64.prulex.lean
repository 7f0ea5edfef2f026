theorem nx_end (b : Nat → Int32) {l c : Nat} (hc : c ≤ l) (h : ¬ nxS b l c < nxE b l c) : nxS b l c = l ∧ nxE b l c = l := by
  have hb := nx_bd b hc
  have h1 : nxS b l c = l := by
    by_cases q : nxS b l c < l
    · have e1 : noSp (b (nxS b l c)) = true := by
        have t : isSp (b (nxS b l c)) = false := scn_end b isSp (l - c) c (by unfold nxS at q; omega)
        show (!(isSp (b (nxS b l c)))) = true
        rw [t]
        rfl
      have e2 : nxE b l c = scn b noSp (l - nxS b l c) (nxS b l c) := rfl
      obtain ⟨r, hr⟩ : ∃ r, l - nxS b l c = r + 1 := ⟨l - nxS b l c - 1, by omega⟩
      rw [hr] at e2
      unfold scn at e2
      rw [if_pos e1] at e2
      have := (scn_bd b noSp r (nxS b l c + 1)).1
      omega
    · omega
  exact ⟨h1, by omega⟩
theorem tx_empty (b : Nat → Int32) (s k : Nat) (hk : k < 13) : txB b s 0 k = false := by
  have : ∀ k, k < 13 → scLen.getD k 0 ≠ 0 := by decide
  apply Bool.eq_false_iff.mpr
  intro z
  exact this k hk ((txB_iff b s 0 k).mp z).1.symm
theorem cCode_empty (b : Nat → Int32) (s : Nat) : cCode b s s = -11 := by
  unfold cCode
  rw [if_neg (fun z => by have := (of_decide_eq_true z).1; omega), Nat.sub_self]
  simp only [tx_empty b s _ (show 3 < 13 by omega), tx_empty b s _ (show 4 < 13 by omega), tx_empty b s _ (show 5 < 13 by omega), tx_empty b s _ (show 6 < 13 by omega), tx_empty b s _ (show 7 < 13 by omega), tx_empty b s _ (show 8 < 13 by omega), tx_empty b s _ (show 9 < 13 by omega), tx_empty b s _ (show 10 < 13 by omega), tx_empty b s _ (show 11 < 13 by omega), tx_empty b s _ (show 12 < 13 by omega)]
  rfl
def ruF (f : Nat) : Prop := (1002 ≤ f ∧ f ≤ 1005) ∨ f = 304
def ruR (i : Nat) : Prop := i = 10 ∨ i = 11
abbrev FrU (A : Nat → Nat) : IH → IH → Prop := FX A ruF no1 ruR no1
theorem nextU {h : IH} {A : Nat → Nat} {n : Nat} (S : ShX h A n) {T l c N : Nat} {b : Nat → Int32} (hN : 2000 ≤ N) (w : WX h A T l c b) : ∃ h', s_X10_nextWord N h (A 1) = some (if nxS b l c < nxE b l c then 1 else 0, h') ∧ FrU A h h' ∧ WX h' A T l (nxE b l c) b ∧ WdX h' A (nxS b l c) (nxE b l c) ∧ (∀ f a, f < 1000 → fI h' f a = fI h f a) ∧ rI h' = rI h := by
  obtain ⟨w1, w2, w3, w4, w5, w6, w7⟩ := id w
  have e := nextWord_spec S hN w1 w2 w3 w4 w5 w6
  obtain ⟨h', e', f', w', d', k', g'⟩ := nextX S hN w
  rw [e] at e'
  obtain ⟨q1, q2⟩ := Prod.mk.inj (Option.some.inj e')
  subst q2
  rw [w7] at e
  refine ⟨_, e, ?_, w', d', k', rfl⟩
  have t : ∀ (x : IH) f v, 1002 ≤ f → f ≤ 1005 → FrU A x (wfI x f (A 1) v) := fun x f v h1 h2 => Fr.wI _ _ _ _ (Or.inl ⟨h1, h2⟩)
  unfold nxX
  exact ((t _ _ _ (by omega) (by omega)).trans (t _ _ _ (by omega) (by omega))).trans (t _ _ _ (by omega) (by omega))
theorem WX.fr {h : IH} {A : Nat → Nat} {n : Nat} (S : ShX h A n) {h' : IH} {T l c : Nat} {b : Nat → Int32} (w : WX h A T l c b) (x : FrA A h h') : WX h' A T l c b := by
  obtain ⟨w1, w2, w3, w4, w5, w6, w7⟩ := w
  refine ⟨by rw [x.fI (e1n (by decide))]; exact w1, w2, by rw [x.fI (e1n (by decide))]; exact w3, w4, by rw [x.fI (e1n (by decide))]; exact w5, w6, ?_⟩
  rw [x.rI (RA_no S (fun i z => by rcases z with z | z <;> subst z <;> exact lv_lit (by decide) (by decide)) (lv_lit (by decide) (by decide)) (by omega))]
  exact w7
theorem rdRX {A : Nat → Nat} {n T N : Nat} {b : Nat → Int32} (hN : 2000 ≤ N) : ∀ (r z c d k : Nat) (f : Nat → Nat) (h : IH), ShX h A n → WX h A T T c b → LkX h A d f → SOk d f → 32 ≤ r + k → k ≤ 30 → r < z → ∃ h', FrU A h h' ∧ (∀ p, prs b T r c d f k = .inl p → s_X3_read_L23 N z (A 8) (some (A 1)) (nI k) h = some (.inl ((-1) - nI p, h')) ∨ (∃ k', s_X3_read_L23 N z (A 8) (some (A 1)) (nI k) h = some (.inr (nI k', h')) ∧ ¬ rI h' (A 11) 0 ≤ 0 ∧ p = T)) ∧ (∀ l, prs b T r c d f k = .inr l → s_X3_read_L23 N z (A 8) (some (A 1)) (nI k) h = some (.inr (nI (k + l.length), h')) ∧ rI h' (A 11) 0 = 0 ∧ (∀ i, i < l.length → rI h' (A 10) (k + i) = l.getD i 0) ∧ (∀ i, i < k → rI h' (A 10) i = rI h (A 10) i) ∧ k + l.length ≤ 30) := by
  intro r
  induction r with
  | zero => intro z c d k f h _ _ _ _ h1 h2; omega
  | succ r ih =>
    intro z c d k f h S w L o h1 h2 h3
    obtain ⟨z, rfl⟩ : ∃ y, z = y + 1 := ⟨z - 1, by omega⟩
    have hcl := w.2.2.2.2.2.1
    have hT := w.2.1
    have hb := nx_bd b hcl
    obtain ⟨h7, e7, f7, w7, d7, k7, r7⟩ := nextU S hN w
    have S7 := f7.shX S
    have L7 : LkX h7 A d f := ⟨by rw [k7 _ _ (by omega)]; exact L.1, by rw [r7]; exact L.2⟩
    have start : ∀ K, (if (if nxS b T c < nxE b T c then (1 : Int32) else 0) = 0 then some (.inr (nI k, h7)) else if nI k = 30 then (gI h7 10 4 (some (A 1))).bind fun v10 => some (.inl ((-1) - v10, h7)) else (s_X3_codeOf N h7 (some (A 1))).bind fun v11 => (cV h7 3 (some (A 8)) fun a15 => s_X3_addCode N h7 a15 (nI k) v11).bind fun v12 => if v12.1 = 0 then (gI v12.2 10 4 (some (A 1))).bind fun v14 => some (.inl ((-1) - v14, v12.2)) else s_X3_read_L23 N z (A 8) (some (A 1)) (nI k + 1) v12.2) = K → s_X3_read_L23 N (z + 1) (A 8) (some (A 1)) (nI k) h = K := by
      intro K hK
      rw [s_X3_read_L23.eq_2, if_neg (show ¬ (30 : Int32) < nI k from nI_nlt (a := 30) h2 (by omega)), vX10 S, e7, Option.bind_some]
      exact hK
    unfold prs
    rw [ite01] at start
    by_cases c1 : nxS b T c < nxE b T c
    · rw [if_pos c1] at start
      by_cases c30 : k = 30
      · have hs : s_X3_read_L23 N (z + 1) (A 8) (some (A 1)) (nI k) h = some (.inl ((-1) - nI (nxS b T c), h7)) := by
          apply start
          rw [if_pos (by rw [c30]; rfl), gX10_4 S7, Option.bind_some, d7.1]
        refine ⟨h7, f7, fun p hp => ?_, fun l hp => ?_⟩
        · rw [if_pos c1] at hp
          have : p = nxS b T c := by
            split at hp
            · cases hp
              rfl
            · rw [if_pos (Or.inr (Or.inl c30))] at hp
              cases hp
              rfl
          rw [this]
          exact Or.inl hs
        · rw [if_pos c1] at hp
          split at hp
          · cases hp
          · rw [if_pos (Or.inr (Or.inl c30))] at hp
            cases hp
      · have hk : k < 30 := by omega
        rw [if_neg (show ¬ nI k = 30 from fun z => c30 ((nI_eq (b := 30) (by omega) (by omega)).mp z)), codeX S7 hN w7 d7 hb.2.1 (by omega), Option.bind_some, vX3 S7] at start
        obtain ⟨h12, e12, f12, x12⟩ := addCX S7 hN L7 o hk (cCode b (nxS b T c) (nxE b T c))
        have S12 := f12.shX S7
        have w12 := WX.fr S7 w7 f12
        have fU : FrU A h h12 := f7.trans (Fr.mono f12 (fun f a z => Or.inr z) (fun f a z => z) (fun a z => z) (fun a z => z))
        rw [e12, Option.bind_some] at start
        by_cases cb : cCode b (nxS b T c) (nxE b T c) = -11 ∨ (d = 0 ∧ f 0 = 0) ∨ (0 < arC (cCode b (nxS b T c) (nxE b T c)) ∧ d = 8)
        · have ws : fI h12 1004 (A 1) = nI (nxS b T c) := by rw [f12.fI (e1n (by decide))]; exact d7.1
          have hs : s_X3_read_L23 N (z + 1) (A 8) (some (A 1)) (nI k) h = some (.inl ((-1) - nI (nxS b T c), h12)) := by
            apply start
            dsimp only
            rw [if_pos cb, if_pos rfl, gX10_4 S12, Option.bind_some, ws]
          have pe : (if d = 0 ∧ f 0 = 0 then (if nxS b T c < nxE b T c then .inl (nxS b T c) else .inr []) else if cCode b (nxS b T c) (nxE b T c) = -11 ∨ k = 30 ∨ (0 < arC (cCode b (nxS b T c) (nxE b T c)) ∧ d = 8) then .inl (nxS b T c) else (prs b T r (nxE b T c) (stS d f (cCode b (nxS b T c) (nxE b T c))).1 (stS d f (cCode b (nxS b T c) (nxE b T c))).2 (k + 1)).elim .inl (fun l => .inr (cCode b (nxS b T c) (nxE b T c) :: l)) : Nat ⊕ List Int32) = .inl (nxS b T c) := by
            by_cases cz : d = 0 ∧ f 0 = 0
            · rw [if_pos cz, if_pos c1]
            · rw [if_neg cz, if_pos (by
                rcases cb with q | q | q
                · exact Or.inl q
                · exact absurd q cz
                · exact Or.inr (Or.inr q))]
          rw [pe]
          refine ⟨h12, fU, fun p hp => ?_, fun l hp => by cases hp⟩
          cases hp
          exact Or.inl hs
        · have cz : ¬ (d = 0 ∧ f 0 = 0) := fun z => cb (Or.inr (Or.inl z))
          have c8 : ¬ (0 < arC (cCode b (nxS b T c) (nxE b T c)) ∧ d = 8) := fun z => cb (Or.inr (Or.inr z))
          obtain ⟨y1, y2, y3⟩ := x12 cb
          have o2 := stS_ok (cCode b (nxS b T c) (nxE b T c)) o cz c8
          obtain ⟨h', a1, a2, a3⟩ := ih z (nxE b T c) _ (k + 1) _ h12 S12 w12 y1 o2 (by omega) (by omega) (by omega)
          have hs : s_X3_read_L23 N (z + 1) (A 8) (some (A 1)) (nI k) h = s_X3_read_L23 N z (A 8) (some (A 1)) (nI (k + 1)) h12 := by
            apply start
            dsimp only
            rw [if_neg cb, if_neg (show ¬ (1 : Int32) = 0 by decide), nI_1]
          rw [if_neg cz, if_neg (fun z => by
            rcases z with q | q | q
            · exact cb (Or.inl q)
            · exact c30 q
            · exact c8 q), hs]
          refine ⟨h', fU.trans a1, fun p hp => ?_, fun l hp => ?_⟩
          · cases hq : prs b T r (nxE b T c) (stS d f (cCode b (nxS b T c) (nxE b T c))).1 (stS d f (cCode b (nxS b T c) (nxE b T c))).2 (k + 1) with
            | inl p' =>
              rw [hq] at hp
              cases hp
              exact a2 _ hq
            | inr l' =>
              rw [hq] at hp
              cases hp
          · cases hq : prs b T r (nxE b T c) (stS d f (cCode b (nxS b T c) (nxE b T c))).1 (stS d f (cCode b (nxS b T c) (nxE b T c))).2 (k + 1) with
            | inl p' =>
              rw [hq] at hp
              cases hp
            | inr l' =>
              rw [hq] at hp
              cases hp
              obtain ⟨b1, b2, b3, b4, b5⟩ := a3 _ hq
              refine ⟨by rw [b1, List.length_cons, show k + 1 + l'.length = k + (l'.length + 1) by omega], b2, fun i hi => ?_, fun i hi => ?_, by rw [List.length_cons]; omega⟩
              · cases i with
                | zero => rw [Nat.add_zero, b4 k (by omega), y2]; rfl
                | succ i =>
                  rw [show k + (i + 1) = k + 1 + i by omega, b3 i (by simpa using hi)]
                  rfl
              · rw [b4 i (by omega), y3 i (by omega), r7]
    · rw [if_neg c1] at start
      have en := nx_end b hcl c1
      have hs : s_X3_read_L23 N (z + 1) (A 8) (some (A 1)) (nI k) h = some (.inr (nI k, h7)) := start _ rfl
      refine ⟨h7, f7, fun p hp => ?_, fun l hp => ?_⟩
      · by_cases cz : d = 0 ∧ f 0 = 0
        · rw [if_pos cz, if_neg c1] at hp
          cases hp
        · rw [if_neg cz, if_pos (Or.inl (by rw [en.1, en.2]; exact cCode_empty b T))] at hp
          cases hp
          refine Or.inr ⟨k, hs, ?_, en.1⟩
          have h0 := (o.2.resolve_left cz) 0 (by omega)
          rw [L7.2 0 (by omega)]
          exact nI_ge (a := 0) h0.1 (by omega)
      · by_cases cz : d = 0 ∧ f 0 = 0
        · rw [if_pos cz, if_neg c1] at hp
          cases hp
          exact ⟨hs, by rw [L7.2 0 (by omega), cz.2]; rfl, fun i hi => absurd hi (Nat.not_lt_zero i), fun i _ => by rw [r7], by simp; omega⟩
        · rw [if_neg cz, if_pos (Or.inl (by rw [en.1, en.2]; exact cCode_empty b T))] at hp
          cases hp
/-! the class: codes and draft change their names -/
def rule0 (D : Dt) : Nat ⊕ List Int32 := prs (dB D) (dT D) 32 0 0 (fun _ => 1) 0
def ruleV (D : Dt) : Int32 := match rule0 D with
  | .inl p => (-1) - nI p
  | .inr l => nI l.length
def ruleD (D : Dt) : Dt := match rule0 D with
  | .inl _ => uT D 0 (dB D)
  | .inr l => uR (uT D 0 (dB D)) l.length (fun i => l.getD i 0)
def sw9 (i : Nat) : Nat := if i = 9 then 10 else if i = 10 then 9 else i
theorem sw9_n {i : Nat} (h1 : i ≠ 9) (h2 : i ≠ 10) : sw9 i = i := by unfold sw9; rw [if_neg h1, if_neg h2]
theorem sw9_sw9 (i : Nat) : sw9 (sw9 i) = i := by
  unfold sw9
  by_cases h1 : i = 9
  · rw [if_pos h1]
    rw [if_neg (by decide), if_pos rfl, h1]
  · rw [if_neg h1]
    by_cases h2 : i = 10
    · rw [if_pos h2, if_pos rfl, h2]
    · rw [if_neg h2, if_neg h1, if_neg h2]
theorem sw9_lv {n i : Nat} (h : lvX n i) : lvX n (sw9 i) ∧ KX (sw9 i) = KX i ∧ LX (sw9 i) = LX i := by
  by_cases h1 : i = 9
  · subst h1
    exact ⟨lv_lit (by decide) (by decide), by decide, by decide⟩
  · by_cases h2 : i = 10
    · subst h2
      exact ⟨lv_lit (by decide) (by decide), by decide, by decide⟩
    · rw [sw9_n h1 h2]
      exact ⟨h, rfl, rfl⟩
theorem refT_e : ∀ t ∈ refT, t = (300, 8, 9) ∨ t = (302, 8, 10) ∨ (t.1 ≠ 300 ∧ t.1 ≠ 302 ∧ t.2.1 ≠ 9 ∧ t.2.1 ≠ 10 ∧ t.2.2 ≠ 9 ∧ t.2.2 ≠ 10) := by decide
theorem ShX_sw9 {h : IH} {A : Nat → Nat} {n : Nat} (S : ShX h A n) : ShX (wfR (wfR h 300 (A 8) (some (A 10))) 302 (A 8) (some (A 9))) (fun i => A (sw9 i)) n := by
  generalize hH : wfR (wfR h 300 (A 8) (some (A 10))) 302 (A 8) (some (A 9)) = H
  have eK : kd H = kd h := by rw [← hH]; rfl
  have eN : ln H = ln h := by rw [← hH]; rfl
  have eR : rR H = rR h := by rw [← hH]; rfl
  have eF : ∀ f a, f ≠ 300 → f ≠ 302 → fR H f a = fR h f a := fun f a h1 h2 => by
    rw [← hH]
    show u2 (u2 (fR h) 300 (A 8) (some (A 10))) 302 (A 8) (some (A 9)) f a = _
    rw [u2_ne1 h2, u2_ne1 h1]
  have e0 : fR H 300 (A 8) = some (A 10) := by
    rw [← hH]
    show u2 (u2 (fR h) 300 (A 8) (some (A 10))) 302 (A 8) (some (A 9)) 300 (A 8) = _
    rw [u2_ne1 (by decide), u2_same]
  have e2 : fR H 302 (A 8) = some (A 9) := by
    rw [← hH]
    show u2 (u2 (fR h) 300 (A 8) (some (A 10))) 302 (A 8) (some (A 9)) 302 (A 8) = _
    rw [u2_same]
  unfold ShX
  refine ⟨S.1, fun i hi => ?_, fun i j hi hj e => ?_, fun t ht => ?_, fun i hi => ?_, fun i hi => ?_, fun i hi => ?_, fun s hs => ?_, fun q hq => ?_⟩
  · obtain ⟨a1, a2, a3⟩ := sw9_lv hi
    have := S.2.1 _ a1
    rw [a2, a3] at this
    rw [eK, eN]
    exact this
  · have := iA S (sw9_lv hi).1 (sw9_lv hj).1 e
    rw [← sw9_sw9 i, this, sw9_sw9]
  · rcases refT_e t ht with e | e | ⟨q1, q2, q3, q4, q5, q6⟩
    · subst e
      exact e0
    · subst e
      exact e2
    · dsimp only
      rw [sw9_n q3 q4, sw9_n q5 q6, eF _ _ q1 q2]
      exact S.2.2.2.1 t ht
  · dsimp only
    rw [sw9_n (by omega) (by omega), sw9_n (by omega) (by omega), eR]
    exact S.2.2.2.2.1 i hi
  · dsimp only
    rw [sw9_n (by omega) (by omega), sw9_n (by omega) (by omega), eR]
    exact S.2.2.2.2.2.1 i hi
  · dsimp only
    rw [sw9_n (by omega) (by omega), sw9_n (by omega) (by omega), eR]
    exact S.2.2.2.2.2.2.1 i hi
  · obtain ⟨o1, o2, o3⟩ := S.2.2.2.2.2.2.2.1 s hs
    dsimp only
    rw [sw9_n (by omega) (by omega), sw9_n (by omega) (by omega), sw9_n (by omega) (by omega), eR, eF _ _ (by decide) (by decide)]
    refine ⟨o1, o2, fun b hb => ?_⟩
    rw [sw9_n (by omega) (by omega)]
    exact o3 b hb
  · obtain ⟨o1, o2⟩ := S.2.2.2.2.2.2.2.2 q hq
    dsimp only
    rw [sw9_n (by omega) (by omega), sw9_n (by omega) (by omega), eR, eF _ _ (by decide) (by decide)]
    refine ⟨o1, fun i hi => ?_⟩
    rw [sw9_n (by omega) (by omega)]
    exact o2 i hi

theorem ruleX {h : IH} {A : Nat → Nat} {n : Nat} (S : ShX h A n) {D : Dt} {N : Nat} (hN : 2000 ≤ N) (g : GX h A D) (wT : WgT D) (wE : WgE D) (wn : dn D ≤ 12) : ∃ A' h' H2, s_X11_rule N h (A 0) = some (ruleV D, h') ∧ ShX h' A' n ∧ (∀ i, i ≠ 9 → i ≠ 10 → A' i = A i) ∧ FX A (fun f => ruF f ∨ f = 1001 ∨ f = 301) no1 ruR no1 h H2 ∧ SmV H2 h' ∧ GX h' A' (ruleD D) := by
  obtain ⟨gT, gS, gL, gW, gRu, gP, gE, gA⟩ := id g
  have hT := wT.1
  have ruL : lvR n ruR := fun i z => by rcases z with z | z <;> subst z <;> exact lv_lit (by decide) (by decide)
  -- the start
  have S2 : ShX (wfI (wfI h 1002 (A 1) 0) 1003 (A 1) (nI (dT D))) A n := S
  have S3 : ShX (wfI (wfI (wfI h 1002 (A 1) 0) 1003 (A 1) (nI (dT D))) 304 (A 8) 0) A n := S
  have es : s_X10_startWords h (A 1) 0 (nI (dT D)) = some (wfI (wfI h 1002 (A 1) 0) 1003 (A 1) (nI (dT D))) := by
    unfold s_X10_startWords
    rw [pX10_2 S, Option.bind_some, pX10_3 (show ShX (wfI h 1002 (A 1) 0) A n from S), Option.bind_some]
  have s0 := sXI S3 11 (j := 0) 1 (by decide) (by decide) (by decide) (by decide)
  rw [nI_0] at s0
  generalize h5e : setI (wfI (wfI (wfI h 1002 (A 1) 0) 1003 (A 1) (nI (dT D))) 304 (A 8) 0) (A 11) (upd (rI (wfI (wfI (wfI h 1002 (A 1) 0) 1003 (A 1) (nI (dT D))) 304 (A 8) 0) (A 11)) 0 1) = H5 at s0
  have S5 : ShX H5 A n := by rw [← h5e]; exact S
  have f5 : FrU A h H5 := by
    rw [← h5e]
    have t1 : FrU A h (wfI h 1002 (A 1) 0) := Fr.wI _ _ _ _ (Or.inl ⟨by omega, by omega⟩)
    have t2 : FrU A (wfI h 1002 (A 1) 0) (wfI (wfI h 1002 (A 1) 0) 1003 (A 1) (nI (dT D))) := Fr.wI _ _ _ _ (Or.inl ⟨by omega, by omega⟩)
    have t3 : FrU A (wfI (wfI h 1002 (A 1) 0) 1003 (A 1) (nI (dT D))) (wfI (wfI (wfI h 1002 (A 1) 0) 1003 (A 1) (nI (dT D))) 304 (A 8) 0) := Fr.wI _ _ _ _ (Or.inr rfl)
    exact ((t1.trans t2).trans t3).trans (Fr.sI _ _ _ ⟨11, Or.inr rfl, rfl⟩)
  have ne2 : A 2 ≠ A 11 := nA S (lv_lit (by decide) (by decide)) (lv_lit (by decide) (by decide)) (by decide)
  have w5 : WX H5 A (dT D) (dT D) 0 (dB D) := by
    rw [← h5e]
    refine ⟨?_, hT, ?_, Nat.le_refl _, ?_, Nat.zero_le _, ?_⟩
    · rw [fI_setI, fI_wfI_ne _ _ (by decide), fI_wfI_ne _ _ (by decide), fI_wfI_ne _ _ (by decide)]
      exact gT.1
    · rw [fI_setI, fI_wfI_ne _ _ (by decide), fI_wfI]
    · rw [fI_setI, fI_wfI_ne _ _ (by decide), fI_wfI_ne _ _ (by decide), fI_wfI]
      rfl
    · rw [rI_setI_ne _ _ ne2]
      exact gT.2
  have L5 : LkX H5 A 0 (fun _ => 1) := by
    rw [← h5e]
    refine ⟨by rw [fI_setI, fI_wfI]; rfl, fun i hi => ?_⟩
    have : i = 0 := by omega
    subst this
    rw [rI_setI]
    unfold upd
    rw [if_pos rfl]
    rfl
  obtain ⟨h', fr, pl, pr⟩ := rdRX hN 32 N 0 0 0 (fun _ => 1) H5 S5 w5 L5 ⟨by omega, Or.inr (fun i _ => ⟨Nat.le_refl 1, show 1 ≤ 3 by decide⟩)⟩ (by omega) (by omega) (by omega)
  have S' := fr.shX S5
  have fA := f5.trans fr
  have a11 := aXI S' 11 (j := 0) (by decide) (by decide) (by decide) (by decide)
  rw [nI_0] at a11
  rw [nI_0] at pl pr
  have t' : fI h' 1001 (A 1) = nI (dT D) := by rw [fA.fI (by unfold ruF; omega)]; exact gT.1
  -- the groups that the reading leaves
  have keep : ∀ H, FX A (fun f => ruF f ∨ f = 1001 ∨ f = 301) no1 ruR no1 h H → XgS H A D ∧ XgL H A D ∧ XgW H A D ∧ XgP H A D ∧ XgE H A D ∧ XgA H A D ∧ rI H (A 2) = dB D := by
    intro H x
    refine ⟨gS.fr x (fun f z => by unfold ruF at z; omega) (fun z => z), gL.fr x (fun f z => by unfold ruF at z; omega) (fun f z => z.elim), gW.fr S x ruL (by unfold ruF; omega) (by unfold ruR; omega), gP.fr x (by unfold ruF; omega) (by unfold ruF; omega), gE.fr S x ruL wE.1 (by unfold ruF; omega) (by unfold ruR; omega) (fun i hi => by unfold ruR; omega), gA.fr x (fun f z => by unfold ruF at z; omega), ?_⟩
    rw [x.rI (RA_no S ruL (lv_lit (by decide) (by decide)) (by unfold ruR; omega))]
    exact gT.2
  have fX : ∀ {x y : IH}, FrU A x y → FX A (fun f => ruF f ∨ f = 1001 ∨ f = 301) no1 ruR no1 x y := fun z => Fr.mono z (fun f a q => Or.inl q) (fun f a q => q) (fun a q => q) (fun a q => q)
  unfold s_X11_rule s_X3_read
  simp only [gX11_3 S, gX11_0 S, Option.bind_some, vX3 S, gX10_1 S, gT.1, vX10 S, es, pX3_4 S2, gX3_3 S3, s0]
  unfold ruleV ruleD
  cases hp : rule0 D with
  | inl p =>
    -- refused
    have fin : ∃ A' h9 H2, some ((-1) - nI p, wfI h' 1001 (A 1) 0) = some ((-1) - nI p, h9) ∧ ShX h9 A' n ∧ (∀ i, i ≠ 9 → i ≠ 10 → A' i = A i) ∧ FX A (fun f => ruF f ∨ f = 1001 ∨ f = 301) no1 ruR no1 h H2 ∧ SmV H2 h9 ∧ GX h9 A' (uT D 0 (dB D)) := by
      have x9 : FX A (fun f => ruF f ∨ f = 1001 ∨ f = 301) no1 ruR no1 h (wfI h' 1001 (A 1) 0) := (fX fA).trans (Fr.wI _ _ _ _ (Or.inr (Or.inl rfl)))
      obtain ⟨k1, k2, k3, k4, k5, k6, k7⟩ := keep _ x9
      refine ⟨A, _, _, rfl, S', fun _ _ _ => rfl, x9, ⟨rfl, rfl, rfl, rfl⟩, ⟨fI_wfI _ _ _ _, k7⟩, k1, k2, k3, ⟨?_, ?_⟩, k4, k5, k6⟩
      · rw [fI_wfI_ne _ _ (by decide), fA.fI (by unfold ruF; omega)]
        exact gRu.1
      · rw [rI_wfI, fA.rI (RA_no S ruL (lv_lit (by decide) (by decide)) (by unfold ruR; omega))]
        exact gRu.2
    rcases pl p hp with e | ⟨k', e, e2, e3⟩
    · rw [e, Option.bind_some, Sum.elim_inl, Option.bind_some, gX11_0 S', Option.bind_some, pX10_1 S', Option.bind_some]
      exact fin
    · rw [e, Option.bind_some, Sum.elim_inr]
      dsimp only
      rw [gX3_3 S', Option.bind_some, a11, Option.bind_some, if_neg e2, gX10_1 S', Option.bind_some, t', ← e3, Option.bind_some]
      dsimp only
      rw [gX11_0 S', Option.bind_some, pX10_1 S', Option.bind_some]
      exact fin
  | inr l =>
    obtain ⟨e, e2, e3, e4, e5⟩ := pr l hp
    rw [Nat.zero_add] at e e5
    have tk : s_X3_takeDraft h' (A 8) (nI l.length) = some (wfI (wfR (wfR h' 300 (A 8) (some (A 10))) 302 (A 8) (some (A 9))) 301 (A 8) (nI l.length)) := by
      have K8 : kd h' (A 8) = 4 := k8 S'
      unfold s_X3_takeDraft
      rw [gX3_0 S', Option.bind_some, gX3_2 S', Option.bind_some, pR_ok (c := 3) 0 _ (k8 S'), Option.bind_some, pR_ok (c := 3) 2 _ (show kd (wfR h' (100 * 3 + 0) (A 8) (some (A 10))) (A 8) = 4 from K8), Option.bind_some, pI_ok (c := 3) 1 _ (show kd (wfR (wfR h' (100 * 3 + 0) (A 8) (some (A 10))) (100 * 3 + 2) (A 8) (some (A 9))) (A 8) = 4 from K8), Option.bind_some]
    rw [e, Option.bind_some, Sum.elim_inr]
    dsimp only
    rw [gX3_3 S', Option.bind_some, a11, Option.bind_some, if_pos (by rw [e2]; decide), vX3 S', tk, Option.bind_some, Option.bind_some]
    dsimp only
    have SS := ShX_sw9 S'
    have SS' : ShX (wfI (wfR (wfR h' 300 (A 8) (some (A 10))) 302 (A 8) (some (A 9))) 301 (A 8) (nI l.length)) (fun i => A (sw9 i)) n := SS
    have g0 : gR (wfI (wfR (wfR h' 300 (A 8) (some (A 10))) 302 (A 8) (some (A 9))) 301 (A 8) (nI l.length)) 11 0 (some (A 0)) = some (some (A 1)) := gX11_0 (A := fun i => A (sw9 i)) SS'
    have p0 : pI (wfI (wfR (wfR h' 300 (A 8) (some (A 10))) 302 (A 8) (some (A 9))) 301 (A 8) (nI l.length)) 10 1 (some (A 1)) 0 = some (wfI (wfI (wfR (wfR h' 300 (A 8) (some (A 10))) 302 (A 8) (some (A 9))) 301 (A 8) (nI l.length)) 1001 (A 1) 0) := pX10_1 (A := fun i => A (sw9 i)) SS' 0
    rw [g0, Option.bind_some, p0, Option.bind_some]
    have x9 : FX A (fun f => ruF f ∨ f = 1001 ∨ f = 301) no1 ruR no1 h (wfI (wfI h' 301 (A 8) (nI l.length)) 1001 (A 1) 0) := ((fX fA).trans (Fr.wI _ _ _ _ (Or.inr (Or.inr rfl)))).trans (Fr.wI _ _ _ _ (Or.inr (Or.inl rfl)))
    obtain ⟨k1, k2, k3, k4, k5, k6, k7⟩ := keep _ x9
    have sv : SmV (wfI (wfI h' 301 (A 8) (nI l.length)) 1001 (A 1) 0) (wfI (wfI (wfR (wfR h' 300 (A 8) (some (A 10))) 302 (A 8) (some (A 9))) 301 (A 8) (nI l.length)) 1001 (A 1) 0) := ⟨rfl, rfl, rfl, rfl⟩
    have nm : ∀ i, i ≠ 9 → i ≠ 10 → (fun i => A (sw9 i)) i = A i := fun i h1 h2 => by dsimp only; rw [sw9_n h1 h2]
    refine ⟨fun i => A (sw9 i), _, _, rfl, SS, nm, x9, sv, XgT.sv sv ?_, XgS.sv sv ?_, XgL.sv sv ?_, XgW.sv sv ?_, XgR.sv sv ?_, XgP.sv sv ?_, XgE.sv sv ?_, XgA.sv sv ?_⟩
    · exact ⟨fI_wfI _ _ _ _, k7⟩
    · refine ⟨k1.1, fun s hs => ?_⟩
      rw [nm (100 + s) (by omega) (by omega)]
      exact k1.2 s hs
    · intro q hq
      obtain ⟨z1, z2, z3⟩ := k2 q hq
      rw [nm (200 + q) (by omega) (by omega)]
      refine ⟨z1, z2, fun i hi => ?_⟩
      rw [nm _ (by omega) (by omega)]
      exact z3 i hi
    · exact k3
    · refine ⟨?_, fun i hi => ?_⟩
      · show fI (wfI (wfI h' 301 (A 8) (nI l.length)) 1001 (A 1) 0) 301 (A 8) = nI l.length
        rw [fI_wfI_ne _ _ (by decide), fI_wfI]
      · have := e3 i hi
        rw [Nat.zero_add] at this
        exact this
    · exact k4
    · refine ⟨k5.1, fun i hi => ?_⟩
      rw [nm (70 + i) (by omega) (by omega)]
      exact k5.2 i hi
    · exact k6
