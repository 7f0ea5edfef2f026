/-! ===== rule: its words, and how the class reads them ===== -/
def arC (c : Int32) : Nat := if c = -10 then 3 else if -9 ≤ c ∧ c ≤ -6 then 2 else 0
def cCode (b : Nat → Int32) (s e : Nat) : Int32 := if numOk b s e 4 = true then (numV b (e - s) s 0).toInt32 else if txB b s (e - s) 3 = true then -1 else if txB b s (e - s) 4 = true then -2 else if txB b s (e - s) 5 = true then -3 else if txB b s (e - s) 6 = true then -4 else if txB b s (e - s) 7 = true then -5 else if txB b s (e - s) 8 = true then -6 else if txB b s (e - s) 9 = true then -7 else if txB b s (e - s) 10 = true then -8 else if txB b s (e - s) 11 = true then -9 else if txB b s (e - s) 12 = true then -10 else -11
def upN (f : Nat → Nat) (k v : Nat) : Nat → Nat := fun i => if i = k then v else f i
/-- an operand ends -/
def eO : Nat → (Nat → Nat) → Nat × (Nat → Nat)
  | 0, f => (0, upN f 0 (f 0 - 1))
  | d + 1, f => if f (d + 1) - 1 = 0 then eO d (upN f (d + 1) 0) else (d + 1, upN f (d + 1) (f (d + 1) - 1))
def stS (d : Nat) (f : Nat → Nat) (c : Int32) : Nat × (Nat → Nat) := if 0 < arC c then (d + 1, upN f (d + 1) (arC c)) else eO d f
def prs (b : Nat → Int32) (T : Nat) : Nat → Nat → Nat → (Nat → Nat) → Nat → Nat ⊕ List Int32
  | 0, _, _, _, _ => .inl 0
  | r + 1, c, d, f, k => if d = 0 ∧ f 0 = 0 then (if nxS b T c < nxE b T c then .inl (nxS b T c) else .inr [])
    else if cCode b (nxS b T c) (nxE b T c) = -11 ∨ k = 30 ∨ (0 < arC (cCode b (nxS b T c) (nxE b T c)) ∧ d = 8) then .inl (nxS b T c)
    else (prs b T r (nxE b T c) (stS d f (cCode b (nxS b T c) (nxE b T c))).1 (stS d f (cCode b (nxS b T c) (nxE b T c))).2 (k + 1)).elim .inl (fun l => .inr (cCode b (nxS b T c) (nxE b T c) :: l))
/-- what is always so while a rule is read -/
def SOk (d : Nat) (f : Nat → Nat) : Prop := d ≤ 8 ∧ ((d = 0 ∧ f 0 = 0) ∨ ∀ i, i ≤ d → 1 ≤ f i ∧ f i ≤ 3)
theorem eO_ok : ∀ d f, d ≤ 8 → (∀ i, i ≤ d → 1 ≤ f i ∧ f i ≤ 3) → SOk (eO d f).1 (eO d f).2 ∧ (eO d f).1 ≤ d := by
  intro d
  induction d with
  | zero =>
    intro f _ h
    have h0 := h 0 (by omega)
    refine ⟨⟨by show (0 : Nat) ≤ 8; omega, ?_⟩, Nat.le_refl _⟩
    show (0 = 0 ∧ upN f 0 (f 0 - 1) 0 = 0) ∨ ∀ i, i ≤ 0 → 1 ≤ upN f 0 (f 0 - 1) i ∧ upN f 0 (f 0 - 1) i ≤ 3
    unfold upN
    by_cases c : f 0 = 1
    · exact Or.inl ⟨rfl, by rw [if_pos rfl, c]⟩
    · refine Or.inr (fun i hi => ?_)
      rw [if_pos (by omega)]
      omega
  | succ d ih =>
    intro f hd h
    have h0 := h (d + 1) (by omega)
    unfold eO
    by_cases c : f (d + 1) - 1 = 0
    · rw [if_pos c]
      have := ih (upN f (d + 1) 0) (by omega) (fun i hi => by
        unfold upN
        rw [if_neg (by omega)]
        exact h i (by omega))
      exact ⟨this.1, by omega⟩
    · rw [if_neg c]
      refine ⟨⟨hd, Or.inr (fun i hi => ?_)⟩, Nat.le_refl _⟩
      show 1 ≤ upN f (d + 1) (f (d + 1) - 1) i ∧ upN f (d + 1) (f (d + 1) - 1) i ≤ 3
      unfold upN
      by_cases e : i = d + 1
      · rw [if_pos e]
        omega
      · rw [if_neg e]
        exact h i hi
theorem arC_le (c : Int32) : arC c ≤ 3 := by
  unfold arC
  split
  · omega
  · split <;> omega
theorem arC_2 {c : Int32} (h : 0 < arC c) : 2 ≤ arC c := by
  unfold arC at h ⊢
  split
  · omega
  · rename_i q
    rw [if_neg q] at h
    split
    · omega
    · rename_i q2
      rw [if_neg q2] at h
      omega
theorem stS_ok {d : Nat} {f : Nat → Nat} (c : Int32) (h : SOk d f) (h0 : ¬ (d = 0 ∧ f 0 = 0)) (h8 : ¬ (0 < arC c ∧ d = 8)) : SOk (stS d f c).1 (stS d f c).2 := by
  have h1 := h.2.resolve_left h0
  unfold stS
  by_cases q : 0 < arC c
  · rw [if_pos q]
    have := h.1
    refine ⟨show d + 1 ≤ 8 by omega, Or.inr (fun i hi => ?_)⟩
    have hi : i ≤ d + 1 := hi
    show 1 ≤ upN f (d + 1) (arC c) i ∧ upN f (d + 1) (arC c) i ≤ 3
    unfold upN
    by_cases e : i = d + 1
    · rw [if_pos e]
      exact ⟨q, arC_le c⟩
    · rw [if_neg e]
      exact h1 i (by omega)
  · rw [if_neg q]
    exact (eO_ok d f h.1 h1).1
theorem codeX {h : IH} {A : Nat → Nat} {n : Nat} (S : ShX h A n) {T l c s e N : Nat} {b : Nat → Int32} (hN : 2000 ≤ N) (w : WX h A T l c b) (d : WdX h A s e) (hs : s ≤ e) (he : e ≤ T) : s_X3_codeOf N h (some (A 1)) = some (cCode b s e) := by
  have n4 := numX S hN w d hs he 4 (by omega)
  have t := fun k (hk : k < 13) => txX S hN w d hs he hk
  unfold s_X3_codeOf cCode
  rw [show (4 : Int32) = nI 4 from rfl]
  simp only [vX10 S, n4, Option.bind_some, t 3 (by omega), t 4 (by omega), t 5 (by omega), t 6 (by omega), t 7 (by omega), t 8 (by omega), t 9 (by omega), t 10 (by omega), t 11 (by omega), t 12 (by omega), ite01, ite_some]
  by_cases q : numOk b s e 4 = true
  · rw [if_pos q, if_neg (ne_m1 (numV_ok (by omega) q).1), if_pos q]
  · rw [if_neg q, if_pos (by decide), if_neg q]
theorem opsX (h : IH) (c : Int32) : s_X3_operandsOf h c = some (nI (arC c)) := by
  unfold s_X3_operandsOf arC
  by_cases q : c = -10
  · rw [if_pos q, if_pos q]
    rfl
  · rw [if_neg q, if_neg q]
    have e6 : (-6 < c) ↔ ¬ (c ≤ -6) := by rw [iLt, iLe]; omega
    have e9 : (c < -9) ↔ ¬ (-9 ≤ c) := by rw [iLt, iLe]; omega
    by_cases q1 : c ≤ -6
    · rw [if_neg (fun z => e6.mp z q1)]
      by_cases q2 : -9 ≤ c
      · rw [if_neg (fun z => e9.mp z q2), if_pos ⟨q2, q1⟩]
        rfl
      · rw [if_pos (e9.mpr q2), if_neg (fun z => q2 z.1)]
        rfl
    · rw [if_pos (e6.mpr q1), if_neg (fun z => q1 z.2)]
      rfl
/-- the class's stack of lacking operands -/
def LkX (h : IH) (A : Nat → Nat) (d : Nat) (f : Nat → Nat) : Prop := fI h 304 (A 8) = nI d ∧ ∀ i, i ≤ d → rI h (A 11) i = nI (f i)
abbrev FrE (A : Nat → Nat) : IH → IH → Prop := FX A (e1 304) no1 (e1 11) no1
theorem dec1 {v : Nat} (h : 1 ≤ v) : nI v - 1 = nI (v - 1) := by
  rw [show (1 : Int32) = nI 1 from rfl, nI_sub h]
theorem endL {A : Nat → Nat} {n N : Nat} : ∀ (d z : Nat) (h : IH) (f : Nat → Nat), ShX h A n → d ≤ 8 → d < z → (∀ i, i < d → 1 ≤ f i) → fI h 304 (A 8) = nI d → (∀ i, i ≤ d → rI h (A 11) i = nI (if i = d then f i - 1 else f i)) → (∀ i, i ≤ d → f i ≤ 3) → ∃ h', s_X3_endOperand_L13 N z (A 8) h = some h' ∧ FrE A h h' ∧ LkX h' A (eO d f).1 (eO d f).2 := by
  intro d
  induction d with
  | zero =>
    intro z h f S hd hz hf h4 hr h3
    obtain ⟨z, rfl⟩ : ∃ y, z = y + 1 := ⟨z - 1, by omega⟩
    rw [s_X3_endOperand_L13.eq_2, gX3_4 S, Option.bind_some, h4, if_pos (by decide)]
    refine ⟨h, rfl, Fr.refl _, h4, fun i hi => ?_⟩
    have hi : i ≤ 0 := hi
    rw [hr i hi]
    show _ = nI (upN f 0 (f 0 - 1) i)
    unfold upN
    have : i = 0 := by omega
    subst this
    rw [if_pos rfl]
  | succ d ih =>
    intro z h f S hd hz hf h4 hr h3
    obtain ⟨z, rfl⟩ : ∃ y, z = y + 1 := ⟨z - 1, by omega⟩
    have hr0 := hr (d + 1) (by omega)
    have h30 := h3 (d + 1) (by omega)
    rw [if_pos rfl] at hr0
    unfold eO
    rw [s_X3_endOperand_L13.eq_2, gX3_4 S, Option.bind_some, h4, if_neg (show ¬ nI (d + 1) ≤ 0 from nI_ge (a := 0) (by omega) (by omega)), gX3_3 S, Option.bind_some, Option.bind_some, aXI S 11 (by decide) (by decide) (by decide) (show d + 1 < LX 11 from (by have : LX 11 = 9 := rfl; omega)), Option.bind_some, hr0]
    by_cases c : f (d + 1) - 1 = 0
    · rw [if_pos (by rw [c]; rfl), if_pos c, Option.bind_some, dec1 (by omega), Nat.add_sub_cancel, pX3_4 S, Option.bind_some]
      have S1 : ShX (wfI h 304 (A 8) (nI d)) A n := S
      rw [gX3_3 S1, Option.bind_some, gX3_4 S1, Option.bind_some, fI_wfI, aXI S1 11 (by decide) (by decide) (by decide) (show d < LX 11 from (by have : LX 11 = 9 := rfl; omega)), Option.bind_some, sXI S1 11 _ (by decide) (by decide) (by decide) (show d < LX 11 from (by have : LX 11 = 9 := rfl; omega)), Option.bind_some, rI_wfI, hr d (by omega), if_neg (by omega), dec1 (hf d (by omega))]
      obtain ⟨h', a1, a2, a3⟩ := ih z (setI (wfI h 304 (A 8) (nI d)) (A 11) (upd (rI h (A 11)) d (nI (f d - 1)))) (upN f (d + 1) 0) S1 (by omega) (by omega) (fun i hi => by unfold upN; rw [if_neg (by omega)]; exact hf i (by omega)) (by rw [fI_setI, fI_wfI]) (fun i hi => by
        rw [rI_setI]
        unfold upd upN
        by_cases e : i = d
        · rw [if_pos e, if_pos e, if_neg (by omega), e]
        · rw [if_neg e, if_neg e, if_neg (by omega), hr i (by omega), if_neg (by omega)]) (fun i hi => by unfold upN; rw [if_neg (by omega)]; exact h3 i (by omega))
      have g1 : FrE A h (wfI h 304 (A 8) (nI d)) := Fr.wI _ _ _ _ rfl
      have g2 : FrE A (wfI h 304 (A 8) (nI d)) (setI (wfI h 304 (A 8) (nI d)) (A 11) (upd (rI h (A 11)) d (nI (f d - 1)))) := Fr.sI _ _ _ ⟨11, rfl, rfl⟩
      exact ⟨h', a1, (g1.trans g2).trans a2, a3⟩
    · rw [if_neg (show ¬ nI (f (d + 1) - 1) = 0 from fun z => c ((nI_eq (b := 0) (by omega) (by omega)).mp z)), if_neg c]
      refine ⟨h, rfl, Fr.refl _, h4, fun i hi => ?_⟩
      have hi : i ≤ d + 1 := hi
      rw [hr i hi]
      show _ = nI (upN f (d + 1) (f (d + 1) - 1) i)
      unfold upN
      by_cases e : i = d + 1
      · rw [if_pos e, if_pos e, e]
      · rw [if_neg e, if_neg e]
theorem endX_ {h : IH} {A : Nat → Nat} {n : Nat} (S : ShX h A n) {N d : Nat} {f : Nat → Nat} (hN : 2000 ≤ N) (k : LkX h A d f) (hd : d ≤ 8) (hf : ∀ i, i ≤ d → 1 ≤ f i ∧ f i ≤ 3) : ∃ h', s_X3_endOperand N h (A 8) = some h' ∧ FrE A h h' ∧ LkX h' A (eO d f).1 (eO d f).2 := by
  have hl : d < LX 11 := by have : LX 11 = 9 := rfl; omega
  unfold s_X3_endOperand
  rw [gX3_3 S, Option.bind_some, gX3_4 S, Option.bind_some, k.1, aXI S 11 (by decide) (by decide) (by decide) hl, Option.bind_some, sXI S 11 _ (by decide) (by decide) (by decide) hl, Option.bind_some, k.2 d (by omega), dec1 (hf d (by omega)).1]
  have S1 : ShX (setI h (A 11) (upd (rI h (A 11)) d (nI (f d - 1)))) A n := S
  obtain ⟨h', a1, a2, a3⟩ := endL (N := N) d N _ f S1 hd (by omega) (fun i hi => (hf i (by omega)).1) (by rw [fI_setI]; exact k.1) (fun i hi => by
    rw [rI_setI]
    unfold upd
    by_cases e : i = d
    · rw [if_pos e, if_pos e, e]
    · rw [if_neg e, if_neg e]
      exact k.2 i hi) (fun i hi => (hf i hi).2)
  rw [a1, Option.bind_some]
  exact ⟨h', rfl, (Fr.sI _ _ _ ⟨11, rfl, rfl⟩).trans a2, a3⟩
abbrev FrA (A : Nat → Nat) : IH → IH → Prop := FX A (e1 304) no1 (fun i => i = 10 ∨ i = 11) no1
theorem addCX {h : IH} {A : Nat → Nat} {n : Nat} (S : ShX h A n) {N d k : Nat} {f : Nat → Nat} (hN : 2000 ≤ N) (L : LkX h A d f) (o : SOk d f) (hk : k < 30) (c : Int32) : ∃ h', s_X3_addCode N h (A 8) (nI k) c = some (if c = -11 ∨ (d = 0 ∧ f 0 = 0) ∨ (0 < arC c ∧ d = 8) then 0 else 1, h') ∧ FrA A h h' ∧ (¬ (c = -11 ∨ (d = 0 ∧ f 0 = 0) ∨ (0 < arC c ∧ d = 8)) → LkX h' A (stS d f c).1 (stS d f c).2 ∧ rI h' (A 10) k = c ∧ ∀ i, i ≠ k → rI h' (A 10) i = rI h (A 10) i) := by
  have l11 : LX 11 = 9 := rfl
  have hd := o.1
  have ne : A 10 ≠ A 11 := nA S (lv_lit (by decide) (by decide)) (lv_lit (by decide) (by decide)) (by decide)
  have a0 := aXI S 11 (j := 0) (by decide) (by decide) (by decide) (by decide)
  rw [nI_0] at a0
  have toA : ∀ {x y : IH}, FrE A x y → FrA A x y := fun z => Fr.mono z (fun f a q => q) (fun f a q => q) (fun a ⟨i, q, y⟩ => ⟨i, Or.inr q, y⟩) (fun a q => q)
  have hr0 : rI h (A 11) 0 = 0 ↔ (d = 0 ∧ f 0 = 0) := by
    rw [L.2 0 (by omega)]
    constructor
    · intro z
      rcases o.2 with q | q
      · exact q
      · have q := q 0 (by omega)
        have := (nI_eq (b := 0) (by omega) (by omega)).mp z
        omega
    · intro z
      rw [z.2]
      rfl
  unfold s_X3_addCode
  by_cases c1 : c = -11
  · rw [if_pos c1, if_pos (Or.inl c1)]
    exact ⟨h, rfl, Fr.refl _, fun z => absurd (Or.inl c1) z⟩
  · rw [if_neg c1, gX3_3 S, Option.bind_some, a0, Option.bind_some]
    by_cases c2 : d = 0 ∧ f 0 = 0
    · rw [if_pos (hr0.mpr c2), if_pos (Or.inr (Or.inl c2))]
      exact ⟨h, rfl, Fr.refl _, fun z => absurd (Or.inr (Or.inl c2)) z⟩
    · have hf := o.2.resolve_left c2
      rw [if_neg (fun z => c2 (hr0.mp z)), below_spec, Option.bind_some, ite01, if_pos ⟨nI_pos' (by omega), nI_lt (b := 30) hk (by omega)⟩, opsX, Option.bind_some]
      have harl := arC_le c
      have i10 : k < LX 10 := hk
      by_cases c3 : 0 < arC c
      · rw [if_neg (show ¬ nI (arC c) ≤ 0 from nI_ge (a := 0) c3 (by omega)), gX3_4 S, Option.bind_some, L.1]
        by_cases c4 : d = 8
        · rw [if_neg (by rw [c4]; decide), if_pos (Or.inr (Or.inr ⟨c3, c4⟩))]
          exact ⟨h, rfl, Fr.refl _, fun z => absurd (Or.inr (Or.inr ⟨c3, c4⟩)) z⟩
        · rw [if_pos (show nI d < 8 from nI_lt (b := 8) (by omega) (by omega)), Option.bind_some, nI_1, pX3_4 S, Option.bind_some]
          have S1 : ShX (wfI h 304 (A 8) (nI (d + 1))) A n := S
          rw [gX3_3 S1, Option.bind_some, gX3_4 S1, Option.bind_some, fI_wfI, sXI S1 11 _ (by decide) (by decide) (by decide) (show d + 1 < LX 11 by omega), Option.bind_some]
          have S2 : ∀ g, ShX (setI (wfI h 304 (A 8) (nI (d + 1))) (A 11) g) A n := fun g => S
          rw [gX3_2 (S2 _), Option.bind_some, sXI (S2 _) 10 _ (by decide) (by decide) (by decide) i10, Option.bind_some, if_neg (fun z => by
            rcases z with z | z | z
            · exact c1 z
            · exact c2 z
            · exact c4 z.2)]
          have g1 : FrA A h (wfI h 304 (A 8) (nI (d + 1))) := Fr.wI _ _ _ _ rfl
          refine ⟨_, rfl, (g1.trans (Fr.sI _ _ _ ⟨11, Or.inr rfl, rfl⟩)).trans (Fr.sI _ _ _ ⟨10, Or.inl rfl, rfl⟩), fun _ => ⟨?_, ?_, fun i hi => ?_⟩⟩
          · unfold stS
            rw [if_pos c3]
            refine ⟨by rw [fI_setI, fI_setI]; exact fI_wfI _ _ _ _, fun i hi => ?_⟩
            have hi : i ≤ d + 1 := hi
            rw [rI_setI_ne _ _ (fun z => ne z.symm), rI_setI, rI_wfI]
            show upd (rI h (A 11)) (d + 1) (nI (arC c)) i = nI (upN f (d + 1) (arC c) i)
            unfold upd upN
            by_cases e : i = d + 1
            · rw [if_pos e, if_pos e]
            · rw [if_neg e, if_neg e]
              exact L.2 i (by omega)
          · rw [rI_setI]
            unfold upd
            rw [if_pos rfl]
          · rw [rI_setI, rI_setI_ne _ _ ne]
            unfold upd
            rw [if_neg hi]
            rfl
      · rw [if_pos (by rw [show arC c = 0 by omega]; decide), vX3 S]
        obtain ⟨h9, e9, f9, k9⟩ := endX_ S hN L hd hf
        have S9 := f9.shX S
        rw [e9, Option.bind_some, gX3_2 S9, Option.bind_some, sXI S9 10 _ (by decide) (by decide) (by decide) i10, Option.bind_some, if_neg (fun z => by
          rcases z with z | z | z
          · exact c1 z
          · exact c2 z
          · exact c3 z.1)]
        have r10 : rI h9 (A 10) = rI h (A 10) := f9.rI (RA_no S (fun i z => by cases z; exact lv_lit (by decide) (by decide)) (lv_lit (by decide) (by decide)) (e1n (by decide)))
        refine ⟨_, rfl, (toA f9).trans (Fr.sI _ _ _ ⟨10, Or.inl rfl, rfl⟩), fun _ => ⟨?_, ?_, fun i hi => ?_⟩⟩
        · unfold stS
          rw [if_neg c3]
          refine ⟨by rw [fI_setI]; exact k9.1, fun i hi => ?_⟩
          rw [rI_setI_ne _ _ (fun z => ne z.symm)]
          exact k9.2 i hi
        · rw [rI_setI]
          unfold upd
          rw [if_pos rfl]
        · rw [rI_setI, r10]
          unfold upd
          rw [if_neg hi]
