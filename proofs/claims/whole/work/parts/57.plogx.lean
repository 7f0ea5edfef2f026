/-! ===== log, the class: the old log and the draft change their names ===== -/
def swN (q0 i : Nat) : Nat := if i = 200 + q0 then 236 else if i = 236 then 200 + q0 else if i = 300 + q0 then 336 else if i = 336 then 300 + q0 else if 1000 ≤ i then (if (i - 1000) / 16 = q0 then 1000 + (16 * 36 + (i - 1000) % 16) else if (i - 1000) / 16 = 36 then 1000 + (16 * q0 + (i - 1000) % 16) else i) else i
theorem swN_lo {q0 i : Nat} (h : i < 200) : swN q0 i = i := by
  unfold swN
  rw [if_neg (by omega), if_neg (by omega), if_neg (by omega), if_neg (by omega), if_neg (by omega)]
theorem swN_q {q0 q : Nat} (h0 : q0 < 36) (hq : q < 37) : swN q0 (200 + q) = 200 + (if q = q0 then 36 else if q = 36 then q0 else q) := by
  unfold swN
  by_cases c1 : q = q0
  · rw [if_pos (by omega), if_pos c1]
  · by_cases c2 : q = 36
    · rw [if_neg (by omega), if_pos (by omega), if_neg c1, if_pos c2]
    · rw [if_neg (by omega), if_neg (by omega), if_neg (by omega), if_neg (by omega), if_neg (by omega), if_neg c1, if_neg c2]
theorem swN_r {q0 q : Nat} (h0 : q0 < 36) (hq : q < 37) : swN q0 (300 + q) = 300 + (if q = q0 then 36 else if q = 36 then q0 else q) := by
  unfold swN
  rw [if_neg (by omega), if_neg (by omega)]
  by_cases c1 : q = q0
  · rw [if_pos (by omega), if_pos c1]
  · by_cases c2 : q = 36
    · rw [if_neg (by omega), if_pos (by omega), if_neg c1, if_pos c2]
    · rw [if_neg (by omega), if_neg (by omega), if_neg (by omega), if_neg c1, if_neg c2]
theorem swN_e {q0 q i : Nat} (h0 : q0 < 36) (hi : i < 16) : swN q0 (1000 + (16 * q + i)) = 1000 + (16 * (if q = q0 then 36 else if q = 36 then q0 else q) + i) := by
  unfold swN
  have e1 : (1000 + (16 * q + i) - 1000) / 16 = q := by omega
  have e2 : (1000 + (16 * q + i) - 1000) % 16 = i := by omega
  rw [if_neg (by omega), if_neg (by omega), if_neg (by omega), if_neg (by omega), if_pos (by omega), e1, e2]
  by_cases c1 : q = q0
  · rw [if_pos c1, if_pos c1]
  · rw [if_neg c1, if_neg c1]
    by_cases c2 : q = 36
    · rw [if_pos c2, if_pos c2]
    · rw [if_neg c2, if_neg c2]
/-- the places that live, sorted -/
theorem lvC {n i : Nat} (hn : n ≤ 12) (h : lvX n i) : i < 200 ∨ (∃ q, lvQ n q ∧ q < 37 ∧ i = 200 + q) ∨ (∃ q, lvQ n q ∧ q < 37 ∧ i = 300 + q) ∨ (∃ q j, lvQ n q ∧ q < 37 ∧ j < 16 ∧ i = 1000 + (16 * q + j)) := by
  rcases h with h | h | h | h | h | h
  · exact Or.inl (by omega)
  · exact Or.inl (by omega)
  · exact Or.inl (by omega)
  · exact Or.inr (Or.inl ⟨i - 200, h.2.2, lvQ_lt hn h.2.2, by omega⟩)
  · exact Or.inr (Or.inr (Or.inl ⟨i - 300, h.2.2, lvQ_lt hn h.2.2, by omega⟩))
  · exact Or.inr (Or.inr (Or.inr ⟨(i - 1000) / 16, (i - 1000) % 16, h.2.2, lvQ_lt hn h.2.2, by omega, by omega⟩))
theorem sw_lvQ {n q0 q : Nat} (h0 : q0 < 3 * n) (hq : lvQ n q) : lvQ n (if q = q0 then 36 else if q = 36 then q0 else q) := by
  by_cases c1 : q = q0
  · rw [if_pos c1]
    exact Or.inr rfl
  · rw [if_neg c1]
    by_cases c2 : q = 36
    · rw [if_pos c2]
      exact Or.inl h0
    · rw [if_neg c2]
      exact hq
theorem sw_37 {q0 q : Nat} (h0 : q0 < 36) (hq : q < 37) : (if q = q0 then 36 else if q = 36 then q0 else q) < 37 := by
  split
  · omega
  · split <;> omega
theorem LX_q {q : Nat} (h : q < 37) : LX (300 + q) = 16 := by
  unfold LX
  rw [if_neg (by omega), if_neg (by omega)]
theorem sw_lv {n q0 i : Nat} (hn : n ≤ 12) (h0 : q0 < 3 * n) (h : lvX n i) : lvX n (swN q0 i) ∧ KX (swN q0 i) = KX i ∧ (20 ≤ KX i → LX (swN q0 i) = LX i) := by
  rcases lvC hn h with c | ⟨q, a, b, rfl⟩ | ⟨q, a, b, rfl⟩ | ⟨q, j, a, b, c, rfl⟩
  · rw [swN_lo c]
    exact ⟨h, rfl, fun _ => rfl⟩
  · rw [swN_q (by omega) b]
    refine ⟨lv_q hn (sw_lvQ h0 a), by rw [KX_q (sw_37 (by omega) b), KX_q b], fun z => ?_⟩
    rw [KX_q b] at z
    omega
  · rw [swN_r (by omega) b]
    exact ⟨lv_rw hn (sw_lvQ h0 a), by rw [KX_rw (sw_37 (by omega) b), KX_rw b], fun z => by rw [LX_q (sw_37 (by omega) b), LX_q b]⟩
  · rw [swN_e (by omega) c]
    refine ⟨lv_e hn (sw_lvQ h0 a) c, by rw [KX_e, KX_e], fun z => ?_⟩
    rw [KX_e] at z
    omega
theorem swN_inv {q0 i : Nat} (h0 : q0 < 36) (h : i < 200 ∨ (∃ q, q < 37 ∧ i = 200 + q) ∨ (∃ q, q < 37 ∧ i = 300 + q) ∨ (∃ q j, q < 37 ∧ j < 16 ∧ i = 1000 + (16 * q + j))) : swN q0 (swN q0 i) = i := by
  have t : ∀ q, q < 37 → (if (if q = q0 then 36 else if q = 36 then q0 else q) = q0 then 36 else if (if q = q0 then 36 else if q = 36 then q0 else q) = 36 then q0 else (if q = q0 then 36 else if q = 36 then q0 else q)) = q := by
    intro q hq
    by_cases c1 : q = q0
    · subst c1
      rw [if_pos rfl, if_neg (by omega), if_pos rfl]
    · rw [if_neg c1]
      by_cases c2 : q = 36
      · rw [if_pos c2, if_pos rfl, c2]
      · rw [if_neg c2, if_neg c1, if_neg c2]
  rcases h with c | ⟨q, b, rfl⟩ | ⟨q, b, rfl⟩ | ⟨q, j, b, c, rfl⟩
  · rw [swN_lo c, swN_lo c]
  · rw [swN_q h0 b, swN_q h0 (sw_37 h0 b), t q b]
  · rw [swN_r h0 b, swN_r h0 (sw_37 h0 b), t q b]
  · rw [swN_e h0 c, swN_e h0 c, t q b]
theorem refT_c : ∀ t ∈ refT, t = (504, 5, 236) ∨ (t.1 ≠ 504 ∧ t.2.1 < 90 ∧ t.2.2 < 90) := by decide
theorem ShX_sw {h : IH} {A : Nat → Nat} {n : Nat} (S : ShX h A n) {s k : Nat} (hs : s < n) (hk : k < 3) : ShX (wfR (wrR h (A (120 + s)) k (some (A 236))) 504 (A 5) (some (A (200 + (3 * s + k))))) (fun i => A (swN (3 * s + k) i)) n := by
  have hn := S.1
  have h0 : 3 * s + k < 3 * n := by omega
  have h36 : 3 * s + k < 36 := by omega
  generalize hH : wfR (wrR h (A (120 + s)) k (some (A 236))) 504 (A 5) (some (A (200 + (3 * s + k)))) = H
  have eK : kd H = kd h := by rw [← hH]; rfl
  have eN : ln H = ln h := by rw [← hH]; rfl
  have eF : ∀ f a, f ≠ 504 → fR H f a = fR h f a := fun f a hf => by rw [← hH]; exact u2_ne1 hf
  have eF5 : fR H 504 (A 5) = some (A (200 + (3 * s + k))) := by
    rw [← hH]
    show u2 (fR h) 504 (A 5) (some (A (200 + (3 * s + k)))) 504 (A 5) = _
    exact u2_same
  have eR : ∀ a j, a ≠ A (120 + s) → rR H a j = rR h a j := fun a j ha => by rw [← hH]; exact u2_ne1 ha
  have eR2 : ∀ j, j ≠ k → rR H (A (120 + s)) j = rR h (A (120 + s)) j := fun j hj => by rw [← hH]; exact u2_ne2 hj
  have eR3 : rR H (A (120 + s)) k = some (A 236) := by
    rw [← hH]
    show u2 (rR h) (A (120 + s)) k (some (A 236)) (A (120 + s)) k = _
    exact u2_same
  have ne : ∀ {i}, lvX n i → i ≠ 120 + s → A i ≠ A (120 + s) := fun h1 h2 => nA S h1 (lv_la hs) h2
  unfold ShX
  refine ⟨hn, fun i hi => ?_, fun i j hi hj e => ?_, fun t ht => ?_, fun i hi => ?_, fun i hi => ?_, fun i hi => ?_, fun u hu => ⟨?_, ?_, fun b hb => ?_⟩, fun q hq => ⟨?_, fun i hi => ?_⟩⟩
  · obtain ⟨a1, a2, a3⟩ := sw_lv hn h0 hi
    have := S.2.1 _ a1
    rw [eK, eN, this.1, a2]
    refine ⟨rfl, fun z => ?_⟩
    rw [this.2 (by omega), a3 z]
  · have e2 := iA S (sw_lv hn h0 hi).1 (sw_lv hn h0 hj).1 e
    have c : ∀ {i}, lvX n i → (i < 200 ∨ (∃ q, q < 37 ∧ i = 200 + q) ∨ (∃ q, q < 37 ∧ i = 300 + q) ∨ (∃ q j, q < 37 ∧ j < 16 ∧ i = 1000 + (16 * q + j))) := fun hi => by
      rcases lvC hn hi with c | ⟨q, a, b, c⟩ | ⟨q, a, b, c⟩ | ⟨q, j, a, b, c, d⟩
      · exact Or.inl c
      · exact Or.inr (Or.inl ⟨q, b, c⟩)
      · exact Or.inr (Or.inr (Or.inl ⟨q, b, c⟩))
      · exact Or.inr (Or.inr (Or.inr ⟨q, j, b, c, d⟩))
    rw [← swN_inv h36 (c hi), e2, swN_inv h36 (c hj)]
  · rcases refT_c t ht with e | ⟨e1, e2, e3⟩
    · subst e
      show fR H 504 (A (swN (3 * s + k) 5)) = some (A (swN (3 * s + k) (200 + 36)))
      rw [swN_lo (by omega), swN_q h36 (by omega), eF5, if_neg (by omega), if_pos rfl]
    · dsimp only
      rw [swN_lo (show t.2.1 < 200 by omega), swN_lo (show t.2.2 < 200 by omega), eF _ _ e1]
      exact S.2.2.2.1 t ht
  · dsimp only
    rw [swN_lo (by omega), swN_lo (by omega), eR _ _ (ne (lv_lit (by decide) (by decide)) (by omega))]
    exact S.2.2.2.2.1 i hi
  · dsimp only
    rw [swN_lo (by omega), swN_lo (by omega), eR _ _ (ne (lv_lit (by decide) (by decide)) (by omega))]
    exact S.2.2.2.2.2.1 i hi
  · dsimp only
    rw [swN_lo (by omega), swN_lo (by omega), eR _ _ (ne (lv_lit (by decide) (by decide)) (by omega))]
    exact S.2.2.2.2.2.2.1 i hi
  · dsimp only
    rw [swN_lo (by omega), swN_lo (by omega), eR _ _ (ne (lv_lit (by decide) (by decide)) (by omega))]
    exact (S.2.2.2.2.2.2.2.1 u hu).1
  · dsimp only
    rw [swN_lo (by omega), swN_lo (by omega), eF _ _ (by decide)]
    exact (S.2.2.2.2.2.2.2.1 u hu).2.1
  · dsimp only
    have old := (S.2.2.2.2.2.2.2.1 u hu).2.2 b hb
    rw [swN_lo (show 120 + u < 200 by omega), swN_q h36 (by omega)]
    by_cases c : u = s
    · subst c
      by_cases d : b = k
      · subst d
        rw [eR3, if_pos rfl]
      · rw [eR2 b d, old, if_neg (by omega), if_neg (by omega)]
    · rw [eR _ _ (ne (lv_la hu) (by omega)), old, if_neg (by omega), if_neg (by omega)]
  · dsimp only
    have old := (S.2.2.2.2.2.2.2.2 _ (sw_lvQ h0 hq)).1
    have h37 := lvQ_lt hn hq
    rw [swN_q h36 h37, swN_r h36 h37, eF _ _ (by decide)]
    exact old
  · dsimp only
    have old := (S.2.2.2.2.2.2.2.2 _ (sw_lvQ h0 hq)).2 i hi
    have h37 := lvQ_lt hn hq
    have hq' := sw_lvQ h0 hq
    have hlt := lvQ_lt hn hq'
    rw [swN_r h36 h37, swN_e h36 hi, eR _ _ (ne (lv_rw hn hq') (by omega))]
    exact old
section
variable {h : IH} {A A' : Nat → Nat} {D : Dt}
theorem XgT.nm (e : ∀ i, i < 200 → A' i = A i) (g : XgT h A D) : XgT h A' D := by
  unfold XgT
  rw [e 1 (by omega), e 2 (by omega)]
  exact g
theorem XgS.nm (e : ∀ i, i < 200 → A' i = A i) (w : dn D ≤ 12) (g : XgS h A D) : XgS h A' D := by
  unfold XgS
  rw [e 3 (by omega)]
  refine ⟨g.1, fun s hs => ?_⟩
  rw [e (100 + s) (by omega)]
  exact g.2 s hs
theorem XgW.nm (e : ∀ i, i < 200 → A' i = A i) (g : XgW h A D) : XgW h A' D := by
  unfold XgW
  rw [e 5 (by omega), e 7 (by omega)]
  exact g
theorem XgR.nm (e : ∀ i, i < 200 → A' i = A i) (g : XgR h A D) : XgR h A' D := by
  unfold XgR
  rw [e 8 (by omega), e 9 (by omega)]
  exact g
theorem XgP.nm (e : ∀ i, i < 200 → A' i = A i) (g : XgP h A D) : XgP h A' D := by
  unfold XgP
  rw [e 13 (by omega), e 24 (by omega)]
  exact g
theorem XgE.nm (e : ∀ i, i < 200 → A' i = A i) (w : dE D ≤ 20) (g : XgE h A D) : XgE h A' D := by
  unfold XgE
  rw [e 0 (by omega), e 26 (by omega)]
  refine ⟨g.1, fun i hi => ?_⟩
  rw [e (70 + i) (by omega)]
  exact g.2 i hi
theorem XgA.nm (e : ∀ i, i < 200 → A' i = A i) (g : XgA h A D) : XgA h A' D := by
  unfold XgA
  rw [e 0 (by omega)]
  exact g
end
