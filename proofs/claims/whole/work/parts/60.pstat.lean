/-! ===== station ===== -/
def GX (h : IH) (A : Nat → Nat) (D : Dt) : Prop := XgT h A D ∧ XgS h A D ∧ XgL h A D ∧ XgW h A D ∧ XgR h A D ∧ XgP h A D ∧ XgE h A D ∧ XgA h A D
def GM (h : IH) (m : Nat) (ar : Nat → Nat) (D : Dt) : Prop := MgT h m ar D ∧ MgS h m ar D ∧ MgL h m ar D ∧ MgW h m ar D ∧ MgR h m ar D ∧ MgP h m ar D ∧ MgE h m ar D ∧ MgA h m ar D
def exN (A : Nat → Nat) (n th la : Nat) (lg rw : Nat → Nat) (es : Nat → Nat → Nat) (i : Nat) : Nat := if i = 100 + n then th else if i = 120 + n then la else if 200 + 3 * n ≤ i ∧ i < 200 + 3 * n + 3 then lg (i - (200 + 3 * n)) else if 300 + 3 * n ≤ i ∧ i < 300 + 3 * n + 3 then rw (i - (300 + 3 * n)) else if 1000 + 48 * n ≤ i ∧ i < 1000 + 48 * n + 48 then es ((i - (1000 + 48 * n)) / 16) ((i - (1000 + 48 * n)) % 16) else A i
section
variable {A : Nat → Nat} {n th la : Nat} {lg rw : Nat → Nat} {es : Nat → Nat → Nat}
theorem exN_s : exN A n th la lg rw es (100 + n) = th := by unfold exN; rw [if_pos rfl]
theorem exN_la (hn : n < 12) : exN A n th la lg rw es (120 + n) = la := by unfold exN; rw [if_neg (by omega), if_pos rfl]
theorem exN_q (hn : n < 12) {b : Nat} (hb : b < 3) : exN A n th la lg rw es (200 + (3 * n + b)) = lg b := by
  unfold exN
  rw [if_neg (by omega), if_neg (by omega), if_pos (by omega)]
  congr 1
  omega
theorem exN_r (hn : n < 12) {b : Nat} (hb : b < 3) : exN A n th la lg rw es (300 + (3 * n + b)) = rw b := by
  unfold exN
  rw [if_neg (by omega), if_neg (by omega), if_neg (by omega), if_pos (by omega)]
  congr 1
  omega
theorem exN_e (hn : n < 12) {b i : Nat} (hb : b < 3) (hi : i < 16) : exN A n th la lg rw es (1000 + (16 * (3 * n + b) + i)) = es b i := by
  unfold exN
  rw [if_neg (by omega), if_neg (by omega), if_neg (by omega), if_neg (by omega), if_pos (by omega)]
  have e1 : (1000 + (16 * (3 * n + b) + i) - (1000 + 48 * n)) / 16 = b := by omega
  have e2 : (1000 + (16 * (3 * n + b) + i) - (1000 + 48 * n)) % 16 = i := by omega
  rw [e1, e2]
theorem exN_old (hn : n < 12) {i : Nat} (hi : lvX n i) : exN A n th la lg rw es i = A i := by
  unfold exN
  have h1 : lvX n i := hi
  unfold lvX lvQ at h1
  rw [if_neg (by omega), if_neg (by omega), if_neg (by omega), if_neg (by omega), if_neg (by omega)]
end
theorem lv_new {n i : Nat} (hn : n < 12) (h : lvX (n + 1) i) : lvX n i ∨ i = 100 + n ∨ i = 120 + n ∨ (∃ b, b < 3 ∧ i = 200 + (3 * n + b)) ∨ (∃ b, b < 3 ∧ i = 300 + (3 * n + b)) ∨ (∃ b j, b < 3 ∧ j < 16 ∧ i = 1000 + (16 * (3 * n + b) + j)) := by
  rcases h with h | h | h | h | h | h
  · exact Or.inl (Or.inl h)
  · by_cases c : i = 100 + n
    · exact Or.inr (Or.inl c)
    · exact Or.inl (Or.inr (Or.inl (by omega)))
  · by_cases c : i = 120 + n
    · exact Or.inr (Or.inr (Or.inl c))
    · exact Or.inl (Or.inr (Or.inr (Or.inl (by omega))))
  · obtain ⟨h1, h2, h3⟩ := h
    by_cases c : 3 * n ≤ i - 200 ∧ i - 200 < 3 * n + 3
    · exact Or.inr (Or.inr (Or.inr (Or.inl ⟨i - 200 - 3 * n, by omega, by omega⟩)))
    · refine Or.inl (Or.inr (Or.inr (Or.inr (Or.inl ⟨h1, h2, ?_⟩))))
      rcases h3 with h3 | h3
      · exact Or.inl (by omega)
      · exact Or.inr h3
  · obtain ⟨h1, h2, h3⟩ := h
    by_cases c : 3 * n ≤ i - 300 ∧ i - 300 < 3 * n + 3
    · exact Or.inr (Or.inr (Or.inr (Or.inr (Or.inl ⟨i - 300 - 3 * n, by omega, by omega⟩))))
    · refine Or.inl (Or.inr (Or.inr (Or.inr (Or.inr (Or.inl ⟨h1, h2, ?_⟩)))))
      rcases h3 with h3 | h3
      · exact Or.inl (by omega)
      · exact Or.inr h3
  · obtain ⟨h1, h2, h3⟩ := h
    by_cases c : 3 * n ≤ (i - 1000) / 16 ∧ (i - 1000) / 16 < 3 * n + 3
    · exact Or.inr (Or.inr (Or.inr (Or.inr (Or.inr ⟨(i - 1000) / 16 - 3 * n, (i - 1000) % 16, by omega, by omega, by omega⟩))))
    · refine Or.inl (Or.inr (Or.inr (Or.inr (Or.inr (Or.inr ⟨h1, h2, ?_⟩)))))
      rcases h3 with h3 | h3
      · exact Or.inl (by omega)
      · exact Or.inr h3
theorem KX_nz {n i : Nat} (hn : n ≤ 12) (h : lvX n i) : KX i ≠ 0 := by
  rcases h with h | h | h | h | h | h
  · exact h.2
  · rw [show i = 100 + (i - 100) by omega, KX_s (by omega)]
    omega
  · rw [show i = 120 + (i - 120) by omega, KX_la (by omega)]
    omega
  · rw [show i = 200 + (i - 200) by omega, KX_q (by omega)]
    omega
  · rw [show i = 300 + (i - 300) by omega, KX_rw (by omega)]
    omega
  · rw [show i = 1000 + (i - 1000) by omega, KX_e]
    omega
theorem refT_d : ∀ t ∈ refT, (t.2.1 < 90 ∧ KX t.2.1 ≠ 0) ∧ (t.2.2 = 236 ∨ (t.2.2 < 90 ∧ KX t.2.2 ≠ 0)) := by decide
theorem ShX_ext {h : IH} {A : Nat → Nat} {n : Nat} (S : ShX h A n) (hn : n < 12) {h' : IH} {th la : Nat} {lg rw : Nat → Nat} {es : Nat → Nat → Nat} (K : Kx no1 h h') (k1 : kd h' th = 10) (k0 : kd h th = 0) (k2 : fR h' 905 th = some la) (k3 : kd h' la = 24) (k4 : ln h' la = 3) (k5 : kd h la = 0) (L : ∀ b, b < 3 → rR h' la b = some (lg b) ∧ kd h (lg b) = 0 ∧ NLog h h' (lg b) (rw b) (es b)) (i1 : ∀ b c, b < 3 → c < 3 → lg b = lg c → b = c) (i2 : ∀ b c, b < 3 → c < 3 → rw b = rw c → b = c) (i3 : ∀ b c i j, b < 3 → c < 3 → i < 16 → j < 16 → es b i = es c j → b = c) : ShX (wrR h' (A 4) n (some th)) (exN A n th la lg rw es) (n + 1) := by
  have old : ∀ {i}, lvX n i → exN A n th la lg rw es i = A i := fun hi => exN_old hn hi
  have nz : ∀ {i}, lvX n i → kd h (A i) ≠ 0 := fun hi => by rw [kA S hi]; exact KX_nz (by omega) hi
  have lit : ∀ {i}, i < 90 → KX i ≠ 0 → lvX n i := fun h1 h2 => lv_lit h1 h2
  have rn : ∀ {a j}, kd h a ≠ 0 → a ≠ A 4 → rR (wrR h' (A 4) n (some th)) a j = rR h a j := fun h1 h2 => by
    show u2 (rR h') (A 4) n (some th) _ _ = _
    rw [u2_ne1 h2, ((K _ h1).2.2 (fun z => z)).2.2.2.2.2]
  have rnew : ∀ {a j}, kd h a = 0 → rR (wrR h' (A 4) n (some th)) a j = rR h' a j := fun h1 => by
    show u2 (rR h') (A 4) n (some th) _ _ = _
    exact u2_ne1 (fun z => nz (lit (by decide) (by decide)) (z ▸ h1))
  have fo : ∀ {f a}, kd h a ≠ 0 → fR (wrR h' (A 4) n (some th)) f a = fR h f a := fun h1 => ((K _ h1).2.2 (fun z => z)).2.2.1 _
  have n4 : ∀ {i}, lvX n i → i ≠ 4 → A i ≠ A 4 := fun h1 h2 => nA S h1 (lit (by decide) (by decide)) h2
  unfold ShX
  refine ⟨by omega, fun i hi => ?_, fun i j hi hj e => ?_, fun t ht => ?_, fun i hi => ?_, fun i hi => ?_, fun i hi => ?_, fun s hs => ?_, fun q hq => ?_⟩
  · rcases lv_new hn hi with c | c | c | ⟨b, hb, c⟩ | ⟨b, hb, c⟩ | ⟨b, j, hb, hj, c⟩
    · rw [old c]
      have := K (A i) (nz c)
      show kd h' (A i) = KX i ∧ (20 ≤ KX i → ln h' (A i) = LX i)
      rw [this.1, this.2.1]
      exact S.2.1 i c
    · subst c
      rw [exN_s, KX_s hn]
      exact ⟨k1, fun z => by omega⟩
    · subst c
      rw [exN_la hn, KX_la hn]
      refine ⟨k3, fun z => ?_⟩
      show ln h' la = _
      rw [k4]
      unfold LX
      rw [if_neg (by omega), if_pos (by omega)]
    · subst c
      rw [exN_q hn hb, KX_q (by omega)]
      exact ⟨(L b hb).2.2.1, fun z => by omega⟩
    · subst c
      rw [exN_r hn hb, KX_rw (by omega), LX_q (by omega)]
      exact ⟨(L b hb).2.2.2.2.1, fun z => (L b hb).2.2.2.2.2.1⟩
    · subst c
      rw [exN_e hn hb hj, KX_e]
      exact ⟨((L b hb).2.2.2.2.2.2.1 j hj).2.1, fun z => by omega⟩
  · have ko : ∀ {i}, lvX n i → kd h (exN A n th la lg rw es i) ≠ 0 := fun hi => by rw [old hi]; exact nz hi
    have cs : ∀ i, lvX (n + 1) i → lvX n i ∨ (kd h (exN A n th la lg rw es i) = 0 ∧ ((i = 100 + n ∧ kd h' (exN A n th la lg rw es i) = 10) ∨ (i = 120 + n ∧ kd h' (exN A n th la lg rw es i) = 24) ∨ (∃ b, b < 3 ∧ i = 200 + (3 * n + b) ∧ exN A n th la lg rw es i = lg b ∧ kd h' (exN A n th la lg rw es i) = 5) ∨ (∃ b, b < 3 ∧ i = 300 + (3 * n + b) ∧ exN A n th la lg rw es i = rw b ∧ kd h' (exN A n th la lg rw es i) = 23) ∨ (∃ b j, b < 3 ∧ j < 16 ∧ i = 1000 + (16 * (3 * n + b) + j) ∧ exN A n th la lg rw es i = es b j ∧ kd h' (exN A n th la lg rw es i) = 3))) := by
      intro i hi
      rcases lv_new hn hi with c | c | c | ⟨b, hb, c⟩ | ⟨b, hb, c⟩ | ⟨b, j, hb, hj, c⟩
      · exact Or.inl c
      · subst c
        rw [exN_s]
        exact Or.inr ⟨k0, Or.inl ⟨rfl, k1⟩⟩
      · subst c
        rw [exN_la hn]
        exact Or.inr ⟨k5, Or.inr (Or.inl ⟨rfl, k3⟩)⟩
      · subst c
        rw [exN_q hn hb]
        exact Or.inr ⟨(L b hb).2.1, Or.inr (Or.inr (Or.inl ⟨b, hb, rfl, rfl, (L b hb).2.2.1⟩))⟩
      · subst c
        rw [exN_r hn hb]
        exact Or.inr ⟨(L b hb).2.2.2.2.2.2.2.2.1, Or.inr (Or.inr (Or.inr (Or.inl ⟨b, hb, rfl, rfl, (L b hb).2.2.2.2.1⟩)))⟩
      · subst c
        rw [exN_e hn hb hj]
        exact Or.inr ⟨((L b hb).2.2.2.2.2.2.1 j hj).2.2, Or.inr (Or.inr (Or.inr (Or.inr ⟨b, j, hb, hj, rfl, rfl, ((L b hb).2.2.2.2.2.2.1 j hj).2.1⟩)))⟩
    rcases cs i hi with ci | ⟨zi, ci⟩
    · rcases cs j hj with cj | ⟨zj, cj⟩
      · rw [old ci, old cj] at e
        exact iA S ci cj e
      · rw [← e] at zj
        exact absurd zj (ko ci)
    · rcases cs j hj with cj | ⟨zj, cj⟩
      · rw [e] at zi
        exact absurd zi (ko cj)
      · have ek : kd h' (exN A n th la lg rw es i) = kd h' (exN A n th la lg rw es j) := by rw [e]
        rcases ci with ⟨c1, c2⟩ | ⟨c1, c2⟩ | ⟨b, hb, c1, c3, c2⟩ | ⟨b, hb, c1, c3, c2⟩ | ⟨b, x, hb, hx, c1, c3, c2⟩ <;> rcases cj with ⟨d1, d2⟩ | ⟨d1, d2⟩ | ⟨c, hc, d1, d3, d2⟩ | ⟨c, hc, d1, d3, d2⟩ | ⟨c, y, hc, hy, d1, d3, d2⟩ <;> try omega
        · have := i1 b c hb hc (c3.symm.trans (e.trans d3))
          omega
        · have := i2 b c hb hc (c3.symm.trans (e.trans d3))
          omega
        · have q := c3.symm.trans (e.trans d3)
          have := i3 b c x y hb hc hx hy q
          subst this
          have := (L b hb).2.2.2.2.2.2.2.1 x y hx hy q
          omega
  · obtain ⟨⟨r1, r2⟩, r3⟩ := refT_d t ht
    have l2 : lvX n t.2.2 := by
      rcases r3 with r3 | ⟨r3, r4⟩
      · rw [r3]
        exact lv_q (by omega) (q36 n)
      · exact lit r3 r4
    rw [old (lit r1 r2), old l2, fo (nz (lit r1 r2))]
    exact S.2.2.2.1 t ht
  · rw [old (lit (by decide) (by decide)), old (lit (by omega) (by have := (wRow i hi).1; omega)), rn (nz (lit (by decide) (by decide))) (n4 (lit (by decide) (by decide)) (by decide))]
    exact S.2.2.2.2.1 i hi
  · rw [old (lit (by decide) (by decide)), old (lit (by omega) (by have := (bRow i hi).1; omega)), rn (nz (lit (by decide) (by decide))) (n4 (lit (by decide) (by decide)) (by decide))]
    exact S.2.2.2.2.2.1 i hi
  · rw [old (lit (by decide) (by decide)), old (lit (by omega) (by have := (eRow i hi).1; omega)), rn (nz (lit (by decide) (by decide))) (n4 (lit (by decide) (by decide)) (by decide))]
    exact S.2.2.2.2.2.2.1 i hi
  · rw [old (lit (i := 4) (by decide) (by decide))]
    by_cases c : s = n
    · subst c
      rw [exN_s, exN_la hn]
      refine ⟨?_, k2, fun b hb => ?_⟩
      · show u2 (rR h') (A 4) s (some th) (A 4) s = _
        exact u2_same
      · rw [exN_q hn hb, rnew k5]
        exact (L b hb).1
    · have hs' : s < n := by omega
      obtain ⟨o1, o2, o3⟩ := S.2.2.2.2.2.2.2.1 s hs'
      rw [old (lv_s hs'), old (lv_la hs'), fo (nz (lv_s hs'))]
      refine ⟨?_, o2, fun b hb => ?_⟩
      · show u2 (rR h') (A 4) n (some th) (A 4) s = _
        rw [u2_ne2 c, ((K _ (nz (lit (by decide) (by decide)))).2.2 (fun z => z)).2.2.2.2.2]
        exact o1
      · rw [old (lv_q (by omega) (Or.inl (by omega))), rn (nz (lv_la hs')) (n4 (lv_la hs') (by omega))]
        exact o3 b hb
  · by_cases c : lvQ n q
    · obtain ⟨o1, o2⟩ := S.2.2.2.2.2.2.2.2 q c
      rw [old (lv_q (by omega) c), old (lv_rw (by omega) c), fo (nz (lv_q (by omega) c))]
      refine ⟨o1, fun i hi => ?_⟩
      rw [old (lv_e (by omega) c hi), rn (nz (lv_rw (by omega) c)) (n4 (lv_rw (by omega) c) (by omega))]
      exact o2 i hi
    · obtain ⟨b, hb, rfl⟩ : ∃ b, b < 3 ∧ q = 3 * n + b := by
        unfold lvQ at hq c
        exact ⟨q - 3 * n, by omega, by omega⟩
      have l := (L b hb).2.2
      rw [exN_q hn hb, exN_r hn hb]
      refine ⟨l.2.1, fun i hi => ?_⟩
      rw [exN_e hn hb hi, rnew l.2.2.2.2.2.2.1]
      exact (l.2.2.2.2.1 i hi).1
