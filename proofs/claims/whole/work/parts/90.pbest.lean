/-! ===== the best of what is not settled: the class ===== -/
def beR (i : Nat) : Prop := 50 ≤ i ∧ i < 67
theorem beR_lv {n : Nat} : lvR n beR := fun i z => by
  obtain ⟨j, rfl⟩ : ∃ j, i = 50 + j := ⟨i - 50, by unfold beR at z; omega⟩
  exact lv50 (by unfold beR at z; omega)
theorem maxJ (h : IH) {a b : Nat} (ha : a < 2147483648) (hb : b < 2147483648) : s_J9_max_7cf53 h (nI a) (nI b) = some (nI (max a b)) := by
  unfold s_J9_max_7cf53
  by_cases c : a < b
  · rw [if_pos ((nI_ltI (by omega) (by omega)).mpr c), Option.bind_some, show max a b = b by omega]
  · rw [if_neg (fun z => c ((nI_ltI (by omega) (by omega)).mp z)), Option.bind_some, show max a b = a by omega]
theorem m1_lt (k : Nat) (hk : k < 2147483647) : nI k + (-1) < 0 ↔ k = 0 := by
  cases k with
  | zero => exact ⟨fun _ => rfl, fun _ => by decide⟩
  | succ k =>
    rw [nI_m1]
    exact ⟨fun z => absurd z (nI_pos (by omega)), fun z => absurd z (by omega)⟩
section
variable {A : Nat → Nat} {n N : Nat} {D : Dt} {p c : Nat} {f g : Nat → Nat} {w : Nat → Nat → Nat} {P Q : Nat → Bool}
/-- what the class keeps while it pairs two logs -/
def QuX (h : IH) (A : Nat → Nat) (p c : Nat) (f g : Nat → Nat) (w : Nat → Nat → Nat) (P Q : Nat → Bool) : Prop := fI h 604 (A 17) = nI p ∧ fI h 605 (A 17) = nI c ∧ (∀ i, i < p → rI h (A 20) i = nI (f i)) ∧ (∀ i, i < c → rI h (A 21) i = nI (g i)) ∧ WoX h A w ∧ SeX h A P Q
theorem QuX.fr {h h' : IH} (S : ShX h A n) {F G R Q' : Nat → Prop} (x : FX A F G R Q' h h') (hR : lvR n R) (q : QuX h A p c f g w P Q) (f1 : ¬ F 604) (f2 : ¬ F 605) (r1 : ∀ i, R i → i ≠ 20 ∧ i ≠ 21 ∧ i ≠ 22 ∧ i ≠ 23 ∧ (i < 30 ∨ 45 < i)) : QuX h' A p c f g w P Q := by
  have rr : ∀ i, lvX n i → ¬ R i → rI h' (A i) = rI h (A i) := fun i hi hn => x.rI (RA_no S hR hi hn)
  have e20 := rr 20 (lv_lit (by decide) (by decide)) (fun z => by have := r1 _ z; omega)
  have e21 := rr 21 (lv_lit (by decide) (by decide)) (fun z => by have := r1 _ z; omega)
  have e22 := rr 22 (lv_lit (by decide) (by decide)) (fun z => by have := r1 _ z; omega)
  have e23 := rr 23 (lv_lit (by decide) (by decide)) (fun z => by have := r1 _ z; omega)
  unfold QuX SeX
  rw [x.fI f1, x.fI f2, e20, e21, e22, e23]
  refine ⟨q.1, q.2.1, q.2.2.1, q.2.2.2.1, fun l m hl hm => ?_, q.2.2.2.2.2⟩
  rw [rr (30 + l) (lv30 hl) (fun z => by have := r1 _ z; omega)]
  exact q.2.2.2.2.1 l m hl hm
/-- bestOfUnsettled -/
theorem bestX {h : IH} (S : ShX h A n) (hN : 2000 ≤ N) (q : QuX h A p c f g w P Q) (hp : p ≤ 16) (hc : c ≤ 16) (hf : ∀ i, i < p → f i < 16) (hg : ∀ i, i < c → g i < 16) (hw : ∀ l m, w l m ≤ 100000) : ∃ h', s_X6_bestOfUnsettled N h (A 17) = some (nI (bsK (mkW (fun k m => w (f k) (g m)) (fun k => P (f k)) (fun m => Q (g m))) p c 0 0), h') ∧ FX A no1 no1 beR no1 h h' := by
  have vb : ∀ k m, mkW (fun k m => w (f k) (g m)) (fun k => P (f k)) (fun m => Q (g m)) k m ≤ 100000 := fun k m => by
    unfold mkW
    split
    · exact hw _ _
    · omega
  generalize hv : mkW (fun k m => w (f k) (g m)) (fun k => P (f k)) (fun m => Q (g m)) = v at *
  have bd : ∀ k m, k ≤ p → m ≤ c → bsK v p c k m ≤ 1600000 := fun k m hk hm => by
    have := bsK_bd (n := p) (c := c) vb (p - k) k m (by omega) hm
    omega
  have ne50 : ∀ i j, i < 17 → j < 17 → i ≠ j → A (50 + i) ≠ A (50 + j) := fun i j hi hj hd => nA S (lv50 hi) (lv50 hj) (by omega)
  have QH : ∀ {H : IH}, FX A no1 no1 beR no1 h H → QuX H A p c f g w P Q := fun fr => QuX.fr S fr beR_lv q (fun z => z) (fun z => z) (fun i z => by unfold beR at z; omega)
  have wrt : ∀ (H : IH) (k m : Nat) (x : Int32) (k' m' : Nat), k < 17 → k' < 17 → rI (setI H (A (50 + k)) (upd (rI H (A (50 + k))) m x)) (A (50 + k')) m' = if k' = k ∧ m' = m then x else rI H (A (50 + k')) m' := fun H k m x k' m' hk hk' => by
    by_cases d : k' = k
    · rw [d, rI_setI]
      unfold upd
      by_cases e : m' = m
      · rw [if_pos e, if_pos ⟨rfl, e⟩]
      · rw [if_neg e, if_neg (fun z => e z.2)]
    · rw [rI_setI_ne _ _ (ne50 k' k hk' hk d), if_neg (fun z => d z.1)]
  have L1 : ∀ (r k z : Nat) (H : IH), k + r = p + 1 → r < z → FX A no1 no1 beR no1 h H → (∀ k', k' < k → rI H (A (50 + k')) c = 0) → ∃ h', s_X6_bestOfUnsettled_L2 N z (A 17) (nI k) H = some h' ∧ FX A no1 no1 beR no1 h h' ∧ ∀ k', k' ≤ p → rI h' (A (50 + k')) c = 0 := by
    intro r
    induction r with
    | zero =>
      intro k z H hk hz fr a
      obtain ⟨z, rfl⟩ : ∃ y, z = y + 1 := ⟨z - 1, by omega⟩
      have SH := fr.shX S
      rw [s_X6_bestOfUnsettled_L2.eq_2, gX6_4 SH, Option.bind_some, (QH fr).1, if_pos (nI_lt (by omega) (by omega))]
      exact ⟨H, rfl, fr, fun k' hk' => a k' (by omega)⟩
    | succ r ih =>
      intro k z H hk hz fr a
      obtain ⟨z, rfl⟩ : ∃ y, z = y + 1 := ⟨z - 1, by omega⟩
      have SH := fr.shX S
      have br := bRow k (by omega)
      rw [s_X6_bestOfUnsettled_L2.eq_2, gX6_4 SH, Option.bind_some, (QH fr).1, if_neg (fun z => by have := (nI_ltI (by omega) (by omega)).mp z; omega), gX6_1 SH, Option.bind_some, rX19 SH (by omega), Option.bind_some, gX6_5 SH, Option.bind_some, (QH fr).2.1, sXI SH (50 + k) _ (by omega) br.1 (by rw [br.2]; decide) (show c < LX (50 + k) by rw [br.2]; omega), Option.bind_some, nI_1]
      refine ih (k + 1) z _ (by omega) (by omega) (fr.trans (Fr.sI _ _ _ ⟨50 + k, ⟨by omega, by omega⟩, rfl⟩)) (fun k' hk' => ?_)
      rw [wrt H k c 0 k' c (by omega) (by omega)]
      by_cases d : k' = k
      · rw [if_pos ⟨d, rfl⟩]
      · rw [if_neg (fun z => d z.1)]; exact a k' (by omega)
  have L2 : ∀ (r m z : Nat) (H : IH), m + r = c + 1 → r < z → FX A no1 no1 beR no1 h H → (∀ k', k' ≤ p → rI H (A (50 + k')) c = 0) → (∀ m', m' < m → rI H (A (50 + p)) m' = 0) → ∃ h', s_X6_bestOfUnsettled_L30 N z (A 17) (nI m) H = some h' ∧ FX A no1 no1 beR no1 h h' ∧ (∀ k', k' ≤ p → rI h' (A (50 + k')) c = 0) ∧ ∀ m', m' ≤ c → rI h' (A (50 + p)) m' = 0 := by
    intro r
    induction r with
    | zero =>
      intro m z H hm hz fr a a2
      obtain ⟨z, rfl⟩ : ∃ y, z = y + 1 := ⟨z - 1, by omega⟩
      have SH := fr.shX S
      rw [s_X6_bestOfUnsettled_L30.eq_2, gX6_5 SH, Option.bind_some, (QH fr).2.1, if_pos (nI_lt (by omega) (by omega))]
      exact ⟨H, rfl, fr, a, fun m' hm' => a2 m' (by omega)⟩
    | succ r ih =>
      intro m z H hm hz fr a a2
      obtain ⟨z, rfl⟩ : ∃ y, z = y + 1 := ⟨z - 1, by omega⟩
      have SH := fr.shX S
      have br := bRow p (by omega)
      rw [s_X6_bestOfUnsettled_L30.eq_2, gX6_5 SH, Option.bind_some, (QH fr).2.1, if_neg (fun z => by have := (nI_ltI (by omega) (by omega)).mp z; omega), gX6_1 SH, Option.bind_some, gX6_4 SH, Option.bind_some, (QH fr).1, rX19 SH (by omega), Option.bind_some, sXI SH (50 + p) _ (by omega) br.1 (by rw [br.2]; decide) (show m < LX (50 + p) by rw [br.2]; omega), Option.bind_some, nI_1]
      refine ih (m + 1) z _ (by omega) (by omega) (fr.trans (Fr.sI _ _ _ ⟨50 + p, ⟨by omega, by omega⟩, rfl⟩)) (fun k' hk' => ?_) (fun m' hm' => ?_)
      · rw [wrt H p m 0 k' c (by omega) (by omega)]
        by_cases d : k' = p ∧ c = m
        · rw [if_pos d]
        · rw [if_neg d]; exact a k' hk'
      · rw [wrt H p m 0 p m' (by omega) (by omega)]
        by_cases d : m' = m
        · rw [if_pos ⟨rfl, d⟩]
        · rw [if_neg (fun z => d z.2)]; exact a2 m' (by omega)
  -- one row, from behind
  have L3 : ∀ k, k < p → ∀ (r z : Nat) (H : IH), r ≤ c → r < z → FX A no1 no1 beR no1 h H → (∀ k' m', k' ≤ p → m' ≤ c → (k < k' ∨ m' = c ∨ k' = k ∧ r ≤ m') → rI H (A (50 + k')) m' = nI (bsK v p c k' m')) → ∃ h', s_X6_bestOfUnsettled_L81 N z (A 17) (nI k) (nI (f k)) (nI r + (-1)) H = some h' ∧ FX A no1 no1 beR no1 h h' ∧ ∀ k' m', k' ≤ p → m' ≤ c → (k ≤ k' ∨ m' = c) → rI h' (A (50 + k')) m' = nI (bsK v p c k' m') := by
    intro k hk r
    induction r with
    | zero =>
      intro z H hr hz fr a
      obtain ⟨z, rfl⟩ : ∃ y, z = y + 1 := ⟨z - 1, by omega⟩
      rw [s_X6_bestOfUnsettled_L81.eq_2, if_pos ((m1_lt 0 (by omega)).mpr rfl)]
      exact ⟨H, rfl, fr, fun k' m' h1 h2 h3 => a k' m' h1 h2 (by omega)⟩
    | succ m ih =>
      intro z H hr hz fr a
      obtain ⟨z, rfl⟩ : ∃ y, z = y + 1 := ⟨z - 1, by omega⟩
      have SH := fr.shX S
      have qH := QH fr
      have br := bRow k (by omega)
      have br1 := bRow (k + 1) (by omega)
      have wr := wRow (f k) (hf k hk)
      have gm := hg m (by omega)
      have fk := hf k hk
      have v25 : rI H (A (50 + (k + 1))) m = nI (bsK v p c (k + 1) m) := a (k + 1) m (by omega) (by omega) (by omega)
      have v28 : rI H (A (50 + k)) (m + 1) = nI (bsK v p c k (m + 1)) := a k (m + 1) (by omega) (by omega) (by omega)
      have v42 : rI H (A (50 + (k + 1))) (m + 1) = nI (bsK v p c (k + 1) (m + 1)) := a (k + 1) (m + 1) (by omega) (by omega) (by omega)
      have b1 := bd (k + 1) m (by omega) (by omega)
      have b2 := bd k (m + 1) (by omega) (by omega)
      have b3 := bd (k + 1) (m + 1) (by omega) (by omega)
      have v32 : rI H (A (30 + f k)) (g m) = nI (w (f k) (g m)) := qH.2.2.2.2.1 _ _ fk gm
      have w1 := hw (f k) (g m)
      have eq := bsK_s (v := v) (n := p) (c := c) hk (show m < c by omega)
      have evk : v k m = if P (f k) = true ∧ Q (g m) = true then w (f k) (g m) else 0 := by rw [← hv]; rfl
      have val : ((if nI (w (f k) (g m)) ≤ 0 then some (nI (max (bsK v p c (k + 1) m) (bsK v p c k (m + 1)))) else (gR H 6 6 (some (A 17))).bind fun v34 => (aZ H v34 (nI (f k))).bind fun v35 => if v35 = 0 then (gR H 6 7 (some (A 17))).bind fun v37 => (aZ H v37 (nI (g m))).bind fun v38 => if v38 = 0 then (gR H 6 1 (some (A 17))).bind fun v40 => (aR H 6 v40 (nI (k + 1))).bind fun v41 => (aI H v41 (nI (m + 1))).bind fun v42 => (gR H 6 0 (some (A 17))).bind fun v43 => (aR H 6 v43 (nI (f k))).bind fun v44 => (aI H v44 (nI (g m))).bind fun v45 => (s_J9_max_7cf53 H (nI (max (bsK v p c (k + 1) m) (bsK v p c k (m + 1)))) (v42 + v45)).bind fun v46 => some v46 else some (nI (max (bsK v p c (k + 1) m) (bsK v p c k (m + 1)))) else some (nI (max (bsK v p c (k + 1) m) (bsK v p c k (m + 1))))) : Option (Int32)) = some (nI (bsK v p c k m)) := by
        rw [eq]
        by_cases d0 : w (f k) (g m) = 0
        · have : v k m = 0 := by rw [evk, d0]; split <;> rfl
          rw [this, if_neg (show ¬ 0 < 0 by omega), if_pos (by rw [d0]; decide), show max (max (bsK v p c (k + 1) m) (bsK v p c k (m + 1))) 0 = max (bsK v p c (k + 1) m) (bsK v p c k (m + 1)) by omega]
        · have n0 : ¬ nI (w (f k) (g m)) ≤ 0 := by
            rw [← nI_0]
            exact nI_ge (by omega) (by omega)
          rw [if_neg n0, gX6_6 SH, Option.bind_some, aXZ SH 22 (by decide) (by decide) (by decide) (show f k < LX 22 from fk), Option.bind_some, qH.2.2.2.2.2.1 _ fk]
          cases hP : P (f k) with
          | false =>
            have : v k m = 0 := by rw [evk, hP]; rfl
            rw [this, if_neg (show ¬ 0 < 0 by omega), if_neg (show ¬ bI (!false) = 0 by decide), show max (max (bsK v p c (k + 1) m) (bsK v p c k (m + 1))) 0 = max (bsK v p c (k + 1) m) (bsK v p c k (m + 1)) by omega]
          | true =>
            rw [if_pos (show bI (!true) = 0 by decide), gX6_7 SH, Option.bind_some, aXZ SH 23 (by decide) (by decide) (by decide) (show g m < LX 23 from gm), Option.bind_some, qH.2.2.2.2.2.2 _ gm]
            cases hQ : Q (g m) with
            | false =>
              have : v k m = 0 := by rw [evk, hP, hQ]; rfl
              rw [this, if_neg (show ¬ 0 < 0 by omega), if_neg (show ¬ bI (!false) = 0 by decide), show max (max (bsK v p c (k + 1) m) (bsK v p c k (m + 1))) 0 = max (bsK v p c (k + 1) m) (bsK v p c k (m + 1)) by omega]
            | true =>
              have : v k m = w (f k) (g m) := by rw [evk, hP, hQ]; rfl
              rw [this, if_pos (show 0 < w (f k) (g m) by omega), if_pos (show bI (!true) = 0 by decide), gX6_1 SH, Option.bind_some, rX19 SH (by omega), Option.bind_some, aXI SH (50 + (k + 1)) (by omega) br1.1 (by rw [br1.2]; decide) (show m + 1 < LX (50 + (k + 1)) by rw [br1.2]; omega), Option.bind_some, gX6_0 SH, Option.bind_some, rX18 SH fk, Option.bind_some, aXI SH (30 + f k) (by omega) wr.1 (by rw [wr.2]; decide) (show g m < LX (30 + f k) by rw [wr.2]; exact gm), Option.bind_some, v42, v32, nI_add, maxJ H (by omega) (by omega), Option.bind_some]
      rw [s_X6_bestOfUnsettled_L81.eq_2, nI_m1, if_neg (nI_pos (by omega)), gX6_3 SH, Option.bind_some, aXI SH 21 (by decide) (by decide) (by decide) (show m < LX 21 from (show m < 16 by omega)), Option.bind_some, qH.2.2.2.1 m (by omega), gX6_1 SH, Option.bind_some, nI_1 k, rX19 SH (by omega), Option.bind_some, aXI SH (50 + (k + 1)) (by omega) br1.1 (by rw [br1.2]; decide) (show m < LX (50 + (k + 1)) by rw [br1.2]; omega), Option.bind_some, Option.bind_some, rX19 SH (by omega), Option.bind_some, nI_1 m, aXI SH (50 + k) (by omega) br.1 (by rw [br.2]; decide) (show m + 1 < LX (50 + k) by rw [br.2]; omega), Option.bind_some, v25, v28, maxJ H (by omega) (by omega), Option.bind_some, gX6_0 SH, Option.bind_some, rX18 SH fk, Option.bind_some, aXI SH (30 + f k) (by omega) wr.1 (by rw [wr.2]; decide) (show g m < LX (30 + f k) by rw [wr.2]; exact gm), Option.bind_some, v32]
      rw [gX6_0 SH, gX6_1 SH] at val
      rw [val, Option.bind_some, Option.bind_some, rX19 SH (by omega), Option.bind_some, sXI SH (50 + k) _ (by omega) br.1 (by rw [br.2]; decide) (show m < LX (50 + k) by rw [br.2]; omega), Option.bind_some]
      refine ih z _ (by omega) (by omega) (fr.trans (Fr.sI _ _ _ ⟨50 + k, ⟨by omega, by omega⟩, rfl⟩)) (fun k' m' h1 h2 h3 => ?_)
      rw [wrt H k m _ k' m' (by omega) (by omega)]
      by_cases d : k' = k ∧ m' = m
      · rw [if_pos d, d.1, d.2]
      · rw [if_neg d]; exact a k' m' h1 h2 (by omega)
  have L4 : ∀ (r z : Nat) (H : IH), r ≤ p → r < z → FX A no1 no1 beR no1 h H → (∀ k' m', k' ≤ p → m' ≤ c → (r ≤ k' ∨ m' = c) → rI H (A (50 + k')) m' = nI (bsK v p c k' m')) → ∃ h', s_X6_bestOfUnsettled_L63 N z (A 17) (nI r + (-1)) H = some h' ∧ FX A no1 no1 beR no1 h h' ∧ ∀ k' m', k' ≤ p → m' ≤ c → rI h' (A (50 + k')) m' = nI (bsK v p c k' m') := by
    intro r
    induction r with
    | zero =>
      intro z H hr hz fr a
      obtain ⟨z, rfl⟩ : ∃ y, z = y + 1 := ⟨z - 1, by omega⟩
      rw [s_X6_bestOfUnsettled_L63.eq_2, if_pos ((m1_lt 0 (by omega)).mpr rfl)]
      exact ⟨H, rfl, fr, fun k' m' h1 h2 => a k' m' h1 h2 (by omega)⟩
    | succ k ih =>
      intro z H hr hz fr a
      obtain ⟨z, rfl⟩ : ∃ y, z = y + 1 := ⟨z - 1, by omega⟩
      have SH := fr.shX S
      obtain ⟨h', e', f', a'⟩ := L3 k (by omega) c N H (by omega) (by omega) fr (fun k' m' h1 h2 h3 => a k' m' h1 h2 (by omega))
      have es : nI c - 1 = nI c + (-1) := Int32.sub_eq_add_neg _ _
      rw [s_X6_bestOfUnsettled_L63.eq_2, nI_m1, if_neg (nI_pos (by omega)), gX6_2 SH, Option.bind_some, aXI SH 20 (by decide) (by decide) (by decide) (show k < LX 20 from (show k < 16 by omega)), Option.bind_some, (QH fr).2.2.1 k (by omega), gX6_5 SH, Option.bind_some, (QH fr).2.1, es, e', Option.bind_some]
      exact ih z h' (by omega) (by omega) f' (fun k' m' h1 h2 h3 => a' k' m' h1 h2 (by omega))
  obtain ⟨h1, e1, f1, a1⟩ := L1 (p + 1) 0 N h (by omega) (by omega) (Fr.refl _) (fun k' hk' => absurd hk' (by omega))
  obtain ⟨h2, e2, f2, a2, a3⟩ := L2 (c + 1) 0 N h1 (by omega) (by omega) f1 a1 (fun m' hm' => absurd hm' (by omega))
  have S2 := f2.shX S
  obtain ⟨h3, e3, f3, a4⟩ := L4 p N h2 (by omega) (by omega) f2 (fun k' m' h1 h2 h3 => by
    rcases h3 with d | d
    · have : k' = p := by omega
      rw [this, bsK_n, a3 m' h2]; rfl
    · rw [d, bsK_c, a2 k' h1]; rfl)
  have S3 := f3.shX S
  have br := bRow 0 (by omega)
  have es : nI p - 1 = nI p + (-1) := Int32.sub_eq_add_neg _ _
  have ax : aI h3 (some (A (50 + 0))) (nI 0) = some (rI h3 (A (50 + 0)) 0) := aXI S3 (50 + 0) (by omega) br.1 (by rw [br.2]; decide) (show 0 < LX (50 + 0) by rw [br.2]; omega)
  rw [nI_0] at e1 e2
  unfold s_X6_bestOfUnsettled
  rw [e1, Option.bind_some, e2, Option.bind_some, gX6_4 S2, Option.bind_some, (QH f2).1, es, e3, Option.bind_some, gX6_1 S3, Option.bind_some]
  have r0 := rX19 S3 (show 0 < 17 by omega)
  rw [nI_0] at r0 ax
  rw [r0, Option.bind_some, ax, Option.bind_some, a4 0 0 (by omega) (by omega)]
  exact ⟨h3, rfl, f3⟩
end
