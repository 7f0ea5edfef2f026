/-! ===== the class pairs two logs ===== -/
theorem pw_le (D : Dt) (s t b l k : Nat) : pw D s t b l k ≤ 100000 := by
  unfold pw
  split <;> omega
def maR (i : Nat) : Prop := i = 22 ∨ i = 23 ∨ (50 ≤ i ∧ i < 67)
theorem maR_lv {n : Nat} : lvR n maR := fun i z => by
  rcases z with z | z | z
  · subst z; exact lv_lit (by decide) (by decide)
  · subst z; exact lv_lit (by decide) (by decide)
  · exact beR_lv i z
def moQ (Q : Nat → Bool) (o : Option Nat) : Nat → Bool := match o with
  | none => Q
  | some j => woQ Q j
section
variable {A : Nat → Nat} {n N : Nat} {D : Dt} {s t b p c : Nat} {f g : Nat → Nat}
theorem QuX.setQ {h : IH} (S : ShX h A n) {w : Nat → Nat → Nat} {P Q Q' : Nat → Bool} (q : QuX h A p c f g w P Q) {j : Nat} {x : Int32} (hj : bI (!Q' j) = x) (hQ : ∀ m, m ≠ j → Q' m = Q m) : QuX (setI h (A 23) (upd (rI h (A 23)) j x)) A p c f g w P Q' := by
  have n1 : A 20 ≠ A 23 := nA S (lv_lit (by decide) (by decide)) (lv_lit (by decide) (by decide)) (by decide)
  have n2 : A 21 ≠ A 23 := nA S (lv_lit (by decide) (by decide)) (lv_lit (by decide) (by decide)) (by decide)
  have n3 : A 22 ≠ A 23 := nA S (lv_lit (by decide) (by decide)) (lv_lit (by decide) (by decide)) (by decide)
  refine ⟨q.1, q.2.1, fun i hi => ?_, fun i hi => ?_, fun l m hl hm => ?_, fun l hl => ?_, fun m hm => ?_⟩
  · rw [rI_setI_ne _ _ n1]; exact q.2.2.1 i hi
  · rw [rI_setI_ne _ _ n2]; exact q.2.2.2.1 i hi
  · rw [rI_setI_ne _ _ (nA S (lv30 hl) (lv_lit (by decide) (by decide)) (by omega))]; exact q.2.2.2.2.1 l m hl hm
  · rw [rI_setI_ne _ _ n3]; exact q.2.2.2.2.2.1 l hl
  · rw [rI_setI]
    unfold upd
    by_cases d : m = j
    · rw [if_pos d, d, hj]
    · rw [if_neg d, hQ m d]; exact q.2.2.2.2.2.2 m hm
theorem QuX.setP {h : IH} (S : ShX h A n) {w : Nat → Nat → Nat} {P P' Q : Nat → Bool} (q : QuX h A p c f g w P Q) {j : Nat} {x : Int32} (hj : bI (!P' j) = x) (hP : ∀ m, m ≠ j → P' m = P m) : QuX (setI h (A 22) (upd (rI h (A 22)) j x)) A p c f g w P' Q := by
  have n1 : A 20 ≠ A 22 := nA S (lv_lit (by decide) (by decide)) (lv_lit (by decide) (by decide)) (by decide)
  have n2 : A 21 ≠ A 22 := nA S (lv_lit (by decide) (by decide)) (lv_lit (by decide) (by decide)) (by decide)
  have n3 : A 23 ≠ A 22 := nA S (lv_lit (by decide) (by decide)) (lv_lit (by decide) (by decide)) (by decide)
  refine ⟨q.1, q.2.1, fun i hi => ?_, fun i hi => ?_, fun l m hl hm => ?_, fun l hl => ?_, fun m hm => ?_⟩
  · rw [rI_setI_ne _ _ n1]; exact q.2.2.1 i hi
  · rw [rI_setI_ne _ _ n2]; exact q.2.2.2.1 i hi
  · rw [rI_setI_ne _ _ (nA S (lv30 hl) (lv_lit (by decide) (by decide)) (by omega))]; exact q.2.2.2.2.1 l m hl hm
  · rw [rI_setI]
    unfold upd
    by_cases d : l = j
    · rw [if_pos d, d, hj]
    · rw [if_neg d, hP l d]; exact q.2.2.2.2.2.1 l hl
  · rw [rI_setI_ne _ _ n3]; exact q.2.2.2.2.2.2 m hm
theorem mateX {h : IH} (S : ShX h A n) (hN : 2000 ≤ N) (wP : WgP D) (hb : b < 3) (x : OrdL D false s t b 16 p f) (y : OrdL D true t s b 16 c g) {l v : Nat} {Q : Nat → Bool} (hl : l < 16) (hv : v ≤ 1600000) (q : QuX h A p c f g (pw D s t b) (fun k => decide (l ≤ k)) Q) : ∃ h', s_X6_firstMate N h (A 17) (nI l) (nI v) = some (oI (fsM (gdB (pw D s t b) l Q v) 16), h') ∧ FX A no1 no1 maR no1 h h' ∧ QuX h' A p c f g (pw D s t b) (fun k => decide (l + 1 ≤ k)) (moQ Q (fsM (gdB (pw D s t b) l Q v) 16)) := by
  have p16 := x.1
  have c16 := y.1
  have wr := wRow l hl
  have L : ∀ (r j z : Nat) (H : IH), j + r = 16 → r < z → FX A no1 no1 maR no1 h H → QuX H A p c f g (pw D s t b) (fun k => decide (l + 1 ≤ k)) Q → (∀ j', j' < j → gdB (pw D s t b) l Q v j' = false) → ∃ h' o, s_X6_firstMate_L21 N z (A 17) (nI l) (nI v) (nI j) H = some (match o with | none => .inr h' | some j => .inl (nI j, h')) ∧ fsM (gdB (pw D s t b) l Q v) 16 = o ∧ FX A no1 no1 maR no1 h h' ∧ QuX h' A p c f g (pw D s t b) (fun k => decide (l + 1 ≤ k)) (moQ Q o) := by
    intro r
    induction r with
    | zero =>
      intro j z H hj hz fr qH hn
      obtain ⟨z, rfl⟩ : ∃ y, z = y + 1 := ⟨z - 1, by omega⟩
      have : j = 16 := by omega
      subst this
      rw [s_X6_firstMate_L21.eq_2, if_pos (by decide)]
      exact ⟨H, none, rfl, fsM_none.mpr hn, fr, qH⟩
    | succ r ih =>
      intro j z H hj hz fr qH hn
      obtain ⟨z, rfl⟩ : ∃ y, z = y + 1 := ⟨z - 1, by omega⟩
      have SH := fr.shX S
      have v8 : rI H (A (30 + l)) j = nI (pw D s t b l j) := qH.2.2.2.2.1 l j hl (by omega)
      have w1 := pw_le D s t b l j
      have next : gdB (pw D s t b) l Q v j = false → ∀ j', j' < j + 1 → gdB (pw D s t b) l Q v j' = false := fun hx j' hj' => by
        by_cases d : j' = j
        · rw [d]; exact hx
        · exact hn j' (by omega)
      rw [s_X6_firstMate_L21.eq_2, if_neg (show ¬ (16 : Int32) ≤ nI j from nI_ge (b := 16) (by omega) (by omega)), gX6_0 SH, Option.bind_some, rX18 SH hl, Option.bind_some, aXI SH (30 + l) (by omega) wr.1 (by rw [wr.2]; decide) (show j < LX (30 + l) by rw [wr.2]; omega), Option.bind_some, v8, nI_1]
      by_cases d0 : pw D s t b l j = 0
      · rw [if_pos (by rw [d0]; decide)]
        refine ih (j + 1) z H (by omega) (by omega) fr qH (next ?_)
        cases e : gdB (pw D s t b) l Q v j with
        | false => rfl
        | true => have := (gdB_iff.mp e).2.1; omega
      · rw [if_neg (show ¬ nI (pw D s t b l j) = 0 from fun z => d0 ((nI_eq (by omega) (by omega)).mp (show nI (pw D s t b l j) = nI 0 from z))), gX6_7 SH, Option.bind_some, aXZ SH 23 (by decide) (by decide) (by decide) (show j < LX 23 from (show j < 16 by omega)), Option.bind_some, qH.2.2.2.2.2.2 j (by omega)]
        cases hQ : Q j with
        | false =>
          rw [if_neg (show ¬ bI (!false) = 0 by decide)]
          refine ih (j + 1) z H (by omega) (by omega) fr qH (next ?_)
          cases e : gdB (pw D s t b) l Q v j with
          | false => rfl
          | true => have := (gdB_iff.mp e).1; rw [hQ] at this; cases this
        | true =>
          rw [if_pos (show bI (!true) = 0 by decide), Option.bind_some, sXZ SH 23 (by decide) (by decide) (by decide) (show j < LX 23 from (show j < 16 by omega)) (Or.inr rfl), Option.bind_some]
          have q1 : QuX (setI H (A 23) (upd (rI H (A 23)) j 1)) A p c f g (pw D s t b) (fun k => decide (l + 1 ≤ k)) (woQ Q j) := qH.setQ SH (by rw [woQ_same]; rfl) (fun m hm => woQ_ne Q hm)
          have f1 : FX A no1 no1 maR no1 h (setI H (A 23) (upd (rI H (A 23)) j 1)) := fr.trans (Fr.sI _ _ _ ⟨23, Or.inr (Or.inl rfl), rfl⟩)
          generalize setI H (A 23) (upd (rI H (A 23)) j 1) = H1 at *
          have S1 := f1.shX S
          obtain ⟨H2, e2, f2⟩ := bestX (N := N) S1 hN q1 p16 c16 (fun i hi => (x.2.1 i hi).1) (fun i hi => (y.2.1 i hi).1) (fun l m => pw_le D s t b l m)
          have eo := OrdL.opt wP hb x y (l + 1) (woQ Q j)
          rw [← eo] at e2
          have ob : opt (pw D s t b) (l + 1) (woQ Q j) ≤ 1600000 := by
            rw [eo]
            have := bsK_bd (v := mkW (fun k m => pw D s t b (f k) (g m)) (fun k => decide (l + 1 ≤ f k)) (fun m => woQ Q j (g m))) (n := p) (c := c) (fun k m => by
              unfold mkW
              split
              · exact pw_le _ _ _ _ _ _
              · omega) p 0 0 (by omega) (by omega)
            omega
          have q2 : QuX H2 A p c f g (pw D s t b) (fun k => decide (l + 1 ≤ k)) (woQ Q j) := QuX.fr S1 f2 beR_lv q1 (fun z => z) (fun z => z) (fun i z => by unfold beR at z; omega)
          have fh2 : FX A no1 no1 maR no1 h H2 := f1.trans (Fr.mono f2 (fun _ _ q => q) (fun _ _ q => q) (fun a ⟨i, q, y⟩ => ⟨i, Or.inr (Or.inr q), y⟩) (fun a q => q))
          have S2 := fh2.shX S
          have v18 : rI H2 (A (30 + l)) j = nI (pw D s t b l j) := q2.2.2.2.2.1 l j hl (by omega)
          rw [vX6 S1, e2, Option.bind_some, gX6_0 S2, Option.bind_some, rX18 S2 hl, Option.bind_some, aXI S2 (30 + l) (by omega) wr.1 (by rw [wr.2]; decide) (show j < LX (30 + l) by rw [wr.2]; omega), Option.bind_some, v18, nI_add]
          by_cases d1 : opt (pw D s t b) (l + 1) (woQ Q j) + pw D s t b l j = v
          · rw [if_pos (by rw [d1])]
            refine ⟨H2, some j, rfl, fsM_some.mpr ⟨by omega, gdB_iff.mpr ⟨hQ, by omega, by omega⟩, hn⟩, fh2, q2⟩
          · rw [if_neg (fun z => d1 ((nI_eq (by omega) (by omega)).mp z)), gX6_7 S2, Option.bind_some, sXZ S2 23 (by decide) (by decide) (by decide) (show j < LX 23 from (show j < 16 by omega)) (Or.inl rfl), Option.bind_some]
            refine ih (j + 1) z _ (by omega) (by omega) (fh2.trans (Fr.sI _ _ _ ⟨23, Or.inr (Or.inl rfl), rfl⟩)) (q2.setQ S2 (by rw [hQ]; rfl) (fun m hm => (woQ_ne Q hm).symm)) (next ?_)
            cases e : gdB (pw D s t b) l Q v j with
            | false => rfl
            | true => have := (gdB_iff.mp e).2.2; omega
  have q1 : QuX (setI h (A 22) (upd (rI h (A 22)) l 1)) A p c f g (pw D s t b) (fun k => decide (l + 1 ≤ k)) Q := q.setP S (by show bI (!decide (l + 1 ≤ l)) = 1; rw [decide_eq_false (by omega)]; rfl) (fun m hm => decide_eq_decide.mpr (by omega))
  have f1 : FX A no1 no1 maR no1 h (setI h (A 22) (upd (rI h (A 22)) l 1)) := Fr.sI _ _ _ ⟨22, Or.inl rfl, rfl⟩
  unfold s_X6_firstMate
  rw [if_neg (nI_pos (by omega)), if_pos (show nI l < (16 : Int32) from nI_lt (b := 16) hl (by omega)), gX6_6 S, Option.bind_some, sXZ S 22 (by decide) (by decide) (by decide) (show l < LX 22 from hl) (Or.inr rfl), Option.bind_some]
  obtain ⟨h', o, e', eo, f', q'⟩ := L 16 0 N _ (by omega) (by omega) f1 q1 (fun j' hj' => absurd hj' (by omega))
  rw [nI_0] at e'
  rw [e', Option.bind_some, eo]
  cases o with
  | none => exact ⟨h', rfl, f', q'⟩
  | some j => exact ⟨h', rfl, f', q'⟩
/-- the mate of an entry, as the class keeps it -/
def MaE (h : IH) (A : Nat → Nat) (e : Nat) (o : Option Nat) : Prop := fI h 207 (A (1000 + e)) = oI (o.map (fun d => d / 48)) ∧ ∀ d, o = some d → fI h 208 (A (1000 + e)) = nI (d % 16)
def PrX (h h0 : IH) (A : Nat → Nat) (D : Dt) (s t b : Nat) (M : Nat → Option Nat) : Prop := ∀ e, e / 16 < 3 * dn D → ctB D e = true → (e / 16 = 3 * s + b → tgO D e = some t → MaE h A e ((M (e % 16)).map (eX t b))) ∧ (e / 16 = 3 * t + b → tgO D e = some s → MaE h A e ((invC M (e % 16)).map (eX s b))) ∧ (¬ grp D s t b e → fI h 207 (A (1000 + e)) = fI h0 207 (A (1000 + e)) ∧ fI h 208 (A (1000 + e)) = fI h0 208 (A (1000 + e)))
def puF (f : Nat) : Prop := f = 207 ∨ f = 208 ∨ f = 604 ∨ f = 605
def puR (i : Nat) : Prop := (20 ≤ i ∧ i < 24) ∨ (30 ≤ i ∧ i < 46) ∨ (50 ≤ i ∧ i < 67)
abbrev FrPU (A : Nat → Nat) : IH → IH → Prop := FX A puF no1 puR no1
theorem setMateX {h : IH} (S : ShX h A n) {e : Nat} (he : e / 16 < 3 * n) (u v : Nat) : s_X6_setMate h (some (A (1000 + e))) (nI u) (nI v) = some (wfI (wfI h 207 (A (1000 + e)) (nI u)) 208 (A (1000 + e)) (nI v)) := by
  have k := kEn S he
  have e1 : pI h 2 7 (some (A (1000 + e))) (nI u) = some (wfI h 207 (A (1000 + e)) (nI u)) := pI_ok (c := 2) 7 _ k
  have e2 : pI (wfI h 207 (A (1000 + e)) (nI u)) 2 8 (some (A (1000 + e))) (nI v) = some (wfI (wfI h 207 (A (1000 + e)) (nI u)) 208 (A (1000 + e)) (nI v)) := pI_ok (c := 2) 8 _ k
  unfold s_X6_setMate
  rw [if_neg (fun z => by cases z), e1, Option.bind_some, e2, Option.bind_some, Option.bind_some]
theorem mate_get {h : IH} {a u v : Nat} : fI (wfI (wfI h 207 a (nI u)) 208 a (nI v)) 207 a = nI u ∧ fI (wfI (wfI h 207 a (nI u)) 208 a (nI v)) 208 a = nI v := by
  refine ⟨?_, fI_wfI _ _ _ _⟩
  rw [fI_wfI_ne _ _ (by decide)]
  exact fI_wfI _ _ _ _
theorem mate_ne {h : IH} {a a' u v : Nat} (hn : a' ≠ a) (f : Nat) : fI (wfI (wfI h 207 a (nI u)) 208 a (nI v)) f a' = fI h f a' := by
  rw [fI_wfI_na _ _ hn, fI_wfI_na _ _ hn]
end
