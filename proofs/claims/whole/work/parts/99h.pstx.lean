/-! ===== a new object of the class ===== -/
section
variable {h : IH} {A : Nat → Nat} {P : List Nat} {R G : List (Nat × Nat × Nat)}
theorem InX.fin (I : InX h A P R G true true) (hP : ∀ i, i < 90 → KX i ≠ 0 → i ∈ P) (h236 : 236 ∈ P) (h336 : 336 ∈ P) (hes : ∀ i, i < 16 → 1576 + i ∈ P) (hR : ∀ t ∈ refT, t ∈ R) (h400 : (400, 236, 336) ∈ R) (g18 : (18, 30, 16) ∈ G) (g19 : (19, 50, 17) ∈ G) (g25 : (25, 70, 20) ∈ G) (gd : (336, 1576, 16) ∈ G) : ShX h A 0 ∧ GX h A D0 ∧ fI h 4 (A 13) = 0 := by
  obtain ⟨a1, a2, a3, a4, a5, a6, a7, a8⟩ := I
  have inP : ∀ i, lvX 0 i → i ∈ P := fun i hi => by
    rcases hi with z | z | z | z | z | z
    · exact hP i z.1 z.2
    · omega
    · omega
    · have : i = 236 := by
        rcases z.2.2 with y | y <;> omega
      rw [this]; exact h236
    · have : i = 336 := by
        rcases z.2.2 with y | y <;> omega
      rw [this]; exact h336
    · have e : (i - 1000) / 16 = 36 := by
        rcases z.2.2 with y | y <;> omega
      rw [show i = 1576 + (i - 1576) by omega]
      exact hes _ (by omega)
  have f0 : ∀ i f, i < 90 → KX i ≠ 0 → KX i < 20 → f ≠ 3 → f ≠ 301 → fI h f (A i) = 0 := fun i f h1 h2 h3 h4 h5 => a5 i (hP i h1 h2) h1 h3 f h4 h5
  refine ⟨⟨by decide, fun i hi => (a1 i (inP i hi)).2, fun i j hi hj e => a2 i (inP i hi) j (inP j hj) e, fun t ht => (a3 t (hR t ht)).2.2, fun i hi => ((a4 _ g18).2 i hi).2, fun i hi => ((a4 _ g19).2 i hi).2, fun i hi => ((a4 _ g25).2 i hi).2, fun s hs => absurd hs (Nat.not_lt_zero s), fun q hq => ?_⟩, ⟨⟨f0 1 1001 (by decide) (by decide) (by decide) (by decide) (by decide), ?_⟩, ⟨f0 3 701 (by decide) (by decide) (by decide) (by decide) (by decide), fun s hs => absurd hs (Nat.not_lt_zero s)⟩, fun q hq => absurd hq (Nat.not_lt_zero q), ⟨f0 5 503 (by decide) (by decide) (by decide) (by decide) (by decide), fun i hi => absurd hi (Nat.not_lt_zero i)⟩, ⟨(a7 rfl).2.2.1, fun i hi => ?_⟩, ⟨(a8 rfl).2, f0 24 802 (by decide) (by decide) (by decide) (by decide) (by decide)⟩, ⟨f0 0 1108 (by decide) (by decide) (by decide) (by decide) (by decide), fun i hi => absurd hi (Nat.not_lt_zero i)⟩, ⟨f0 0 1109 (by decide) (by decide) (by decide) (by decide) (by decide), f0 0 1110 (by decide) (by decide) (by decide) (by decide) (by decide), f0 0 1111 (by decide) (by decide) (by decide) (by decide) (by decide), f0 0 1112 (by decide) (by decide) (by decide) (by decide) (by decide), f0 0 1113 (by decide) (by decide) (by decide) (by decide) (by decide)⟩⟩, f0 13 4 (by decide) (by decide) (by decide) (by decide) (by decide)⟩
  · have : q = 36 := by rcases hq with y | y <;> omega
    subst this
    refine ⟨(a3 _ h400).2.2, fun i hi => ?_⟩
    have z := ((a4 _ gd).2 i hi).2
    rw [show 1000 + (16 * 36 + i) = 1576 + i by omega]
    exact z
  · funext j
    exact a6 2 (hP 2 (by decide) (by decide)) (by decide) (by decide) (by decide) j
  · have hi : i < 1 := hi
    have : i = 0 := by omega
    subst this
    exact (a7 rfl).2.2.2
end
set_option maxRecDepth 100000 in
set_option maxHeartbeats 4000000 in
theorem startX {N : Nat} (hN : 2000 ≤ N) (x : Nat) {C : IH → Prop} (nx : ∀ h' A, A 0 = x → ShX h' A 0 → GX h' A D0 → fI h' 4 (A 13) = 0 → C h') : s_X11_initP N (newO hE 11 x) x C := by
  have I : InX (newO hE 11 x) (fun _ => x) [0] [] [] false false := by
    refine ⟨fun i hi => ?_, fun i hi j hj _ => ?_, fun t ht => absurd ht List.not_mem_nil, fun g hg => absurd hg List.not_mem_nil, fun i hi _ _ f _ _ => if_pos rfl, fun i hi _ _ hk => ?_, (fun z => by cases z), (fun z => by cases z)⟩
    · have : i = 0 := by rcases List.mem_cons.mp hi with z | z; exact z; exact absurd z List.not_mem_nil
      subst this
      exact ⟨by decide, (va_up_s _ _ _).trans (by decide), fun z => absurd z (by decide)⟩
    · have e1 : i = 0 := by rcases List.mem_cons.mp hi with z | z; exact z; exact absurd z List.not_mem_nil
      have e2 : j = 0 := by rcases List.mem_cons.mp hj with z | z; exact z; exact absurd z List.not_mem_nil
      rw [e1, e2]
    · have : i = 0 := by rcases List.mem_cons.mp hi with z | z; exact z; exact absurd z List.not_mem_nil
      subst this
      exact absurd hk (by decide)
  unfold s_X11_initP
  intro q1 g hq e; subst e
  have I := I.nO (i := 1) (c := 10) hq (by decide) (by decide) (by decide)
  clear hq
  unfold s_X10_initP
  intro q2 g hq e; subst e
  have I := I.nA (i := 2) (k := 0) (n := 1000) hq (by decide) (by decide) (by decide)
  clear hq
  refine I.putR (c := 10) (k := 0) (i := 1) (j := 2) (by decide) (by decide) rfl rfl (by decide) (by decide) (fun h I => ?_)
  refine I.putR (c := 11) (k := 0) (i := 0) (j := 1) (by decide) (by decide) rfl rfl (by decide) (by decide) (fun h I => ?_)
  intro q3 g hq e; subst e
  have I := I.nO (i := 3) (c := 7) hq (by decide) (by decide) (by decide)
  clear hq
  unfold s_X7_initP
  intro q4 g hq e; subst e
  have I := I.nA (i := 4) (k := 5) (n := 12) hq (by decide) (by decide) (by decide)
  clear hq
  refine I.putR (c := 7) (k := 0) (i := 3) (j := 4) (by decide) (by decide) rfl rfl (by decide) (by decide) (fun h I => ?_)
  refine I.putR (c := 11) (k := 1) (i := 0) (j := 3) (by decide) (by decide) rfl rfl (by decide) (by decide) (fun h I => ?_)
  intro q5 g hq e; subst e
  have I := I.nO (i := 5) (c := 5) hq (by decide) (by decide) (by decide)
  clear hq
  refine I.getR (c := 11) (k := 0) (i := 0) (j := 1) (b := q1) (by decide) rfl rfl (by decide) ?_
  unfold s_X5_initP
  intro q6 g hq e; subst e
  have I := I.nO (i := 6) (c := 2) hq (by decide) (by decide) (by decide)
  clear hq
  unfold s_X2_initP
  refine I.putR (c := 5) (k := 1) (i := 5) (j := 6) (by decide) (by decide) rfl rfl (by decide) (by decide) (fun h I => ?_)
  intro q7 g hq e; subst e
  have I := I.nA (i := 7) (k := 0) (n := 1000) hq (by decide) (by decide) (by decide)
  clear hq
  refine I.putR (c := 5) (k := 2) (i := 5) (j := 7) (by decide) (by decide) rfl rfl (by decide) (by decide) (fun h I => ?_)
  intro q236 g hq e; subst e
  have I := I.nO (i := 236) (c := 4) hq (by decide) (by decide) (by decide)
  clear hq
  refine I.log hN (by decide) rfl (by decide) (by decide) (by decide) (by decide) (if_pos rfl) (fun h rw336 es I => ?_)
  refine I.putR (c := 5) (k := 4) (i := 5) (j := 236) (by decide) (by decide) rfl rfl (by decide) (by decide) (fun h I => ?_)
  refine I.putR (c := 5) (k := 0) (i := 5) (j := 1) (by decide) (by decide) rfl rfl (by decide) (by decide) (fun h I => ?_)
  refine I.putR (c := 11) (k := 2) (i := 0) (j := 5) (by decide) (by decide) rfl rfl (by decide) (by decide) (fun h I => ?_)
  intro q8 g hq e; subst e
  have I := I.nO (i := 8) (c := 3) hq (by decide) (by decide) (by decide)
  clear hq
  unfold s_X3_initP
  intro q9 g hq e; subst e
  have I := I.nA (i := 9) (k := 0) (n := 30) hq (by decide) (by decide) (by decide)
  clear hq
  refine I.putR (c := 3) (k := 0) (i := 8) (j := 9) (by decide) (by decide) rfl rfl (by decide) (by decide) (fun h I => ?_)
  intro q10 g hq e; subst e
  have I := I.nA (i := 10) (k := 0) (n := 30) hq (by decide) (by decide) (by decide)
  clear hq
  refine I.putR (c := 3) (k := 2) (i := 8) (j := 10) (by decide) (by decide) rfl rfl (by decide) (by decide) (fun h I => ?_)
  intro q11 g hq e; subst e
  have I := I.nA (i := 11) (k := 0) (n := 9) hq (by decide) (by decide) (by decide)
  clear hq
  refine I.putR (c := 3) (k := 3) (i := 8) (j := 11) (by decide) (by decide) rfl rfl (by decide) (by decide) (fun h I => ?_)
  intro q12 g hq e; subst e
  have I := I.nA (i := 12) (k := 1) (n := 30) hq (by decide) (by decide) (by decide)
  clear hq
  refine I.putR (c := 3) (k := 5) (i := 8) (j := 12) (by decide) (by decide) rfl rfl (by decide) (by decide) (fun h I => ?_)
  refine I.codes (by decide) (by decide) rfl rfl (by decide) (fun h I => ?_)
  refine I.putR (c := 11) (k := 3) (i := 0) (j := 8) (by decide) (by decide) rfl rfl (by decide) (by decide) (fun h I => ?_)
  intro q13 g hq e; subst e
  have I := I.nO (i := 13) (c := 0) hq (by decide) (by decide) (by decide)
  clear hq
  refine I.getR (c := 11) (k := 1) (i := 0) (j := 3) (b := q3) (by decide) rfl rfl (by decide) ?_
  unfold s_X0_initP
  intro q17 g hq e; subst e
  have I := I.nO (i := 17) (c := 6) hq (by decide) (by decide) (by decide)
  clear hq
  unfold s_X6_initP
  intro q18 r18 g hq hr ri e; subst e
  have I := I.nG (i := 18) (b := 30) (k := 16) hq hr ri (by decide) (by decide) (by decide) (by decide) (by decide)
  clear hq hr ri
  refine I.putR (c := 6) (k := 0) (i := 17) (j := 18) (by decide) (by decide) rfl rfl (by decide) (by decide) (fun h I => ?_)
  intro q19 r19 g hq hr ri e; subst e
  have I := I.nG (i := 19) (b := 50) (k := 17) hq hr ri (by decide) (by decide) (by decide) (by decide) (by decide)
  clear hq hr ri
  refine I.putR (c := 6) (k := 1) (i := 17) (j := 19) (by decide) (by decide) rfl rfl (by decide) (by decide) (fun h I => ?_)
  intro q20 g hq e; subst e
  have I := I.nA (i := 20) (k := 0) (n := 16) hq (by decide) (by decide) (by decide)
  clear hq
  refine I.putR (c := 6) (k := 2) (i := 17) (j := 20) (by decide) (by decide) rfl rfl (by decide) (by decide) (fun h I => ?_)
  intro q21 g hq e; subst e
  have I := I.nA (i := 21) (k := 0) (n := 16) hq (by decide) (by decide) (by decide)
  clear hq
  refine I.putR (c := 6) (k := 3) (i := 17) (j := 21) (by decide) (by decide) rfl rfl (by decide) (by decide) (fun h I => ?_)
  intro q22 g hq e; subst e
  have I := I.nA (i := 22) (k := 2) (n := 16) hq (by decide) (by decide) (by decide)
  clear hq
  refine I.putR (c := 6) (k := 6) (i := 17) (j := 22) (by decide) (by decide) rfl rfl (by decide) (by decide) (fun h I => ?_)
  intro q23 g hq e; subst e
  have I := I.nA (i := 23) (k := 2) (n := 16) hq (by decide) (by decide) (by decide)
  clear hq
  refine I.putR (c := 6) (k := 7) (i := 17) (j := 23) (by decide) (by decide) rfl rfl (by decide) (by decide) (fun h I => ?_)
  refine I.putR (c := 0) (k := 2) (i := 13) (j := 17) (by decide) (by decide) rfl rfl (by decide) (by decide) (fun h I => ?_)
  refine I.win (by decide) rfl (fun h I => ?_)
  refine I.putR (c := 0) (k := 0) (i := 13) (j := 3) (by decide) (by decide) rfl rfl (by decide) (by decide) (fun h I => ?_)
  intro q14 g hq e; subst e
  have I := I.nO (i := 14) (c := 1) hq (by decide) (by decide) (by decide)
  clear hq
  unfold s_X1_initP
  intro q15 g hq e; subst e
  have I := I.nA (i := 15) (k := 1) (n := 768) hq (by decide) (by decide) (by decide)
  clear hq
  refine I.putR (c := 1) (k := 1) (i := 14) (j := 15) (by decide) (by decide) rfl rfl (by decide) (by decide) (fun h I => ?_)
  intro q16 g hq e; subst e
  have I := I.nA (i := 16) (k := 0) (n := 768) hq (by decide) (by decide) (by decide)
  clear hq
  refine I.putR (c := 1) (k := 2) (i := 14) (j := 16) (by decide) (by decide) rfl rfl (by decide) (by decide) (fun h I => ?_)
  refine I.putR (c := 1) (k := 0) (i := 14) (j := 3) (by decide) (by decide) rfl rfl (by decide) (by decide) (fun h I => ?_)
  refine I.putR (c := 0) (k := 1) (i := 13) (j := 14) (by decide) (by decide) rfl rfl (by decide) (by decide) (fun h I => ?_)
  refine I.putR (c := 11) (k := 4) (i := 0) (j := 13) (by decide) (by decide) rfl rfl (by decide) (by decide) (fun h I => ?_)
  intro q24 g hq e; subst e
  have I := I.nO (i := 24) (c := 8) hq (by decide) (by decide) (by decide)
  clear hq
  refine I.getR (c := 11) (k := 1) (i := 0) (j := 3) (b := q3) (by decide) rfl rfl (by decide) ?_
  refine I.getR (c := 11) (k := 3) (i := 0) (j := 8) (b := q8) (by decide) rfl rfl (by decide) ?_
  unfold s_X8_initP
  refine I.putR (c := 8) (k := 0) (i := 24) (j := 3) (by decide) (by decide) rfl rfl (by decide) (by decide) (fun h I => ?_)
  refine I.putR (c := 8) (k := 1) (i := 24) (j := 8) (by decide) (by decide) rfl rfl (by decide) (by decide) (fun h I => ?_)
  refine I.putR (c := 11) (k := 5) (i := 0) (j := 24) (by decide) (by decide) rfl rfl (by decide) (by decide) (fun h I => ?_)
  intro q25 r25 g hq hr ri e; subst e
  have I := I.nG (i := 25) (b := 70) (k := 12) hq hr ri (by decide) (by decide) (by decide) (by decide) (by decide)
  clear hq hr ri
  refine I.putR (c := 11) (k := 6) (i := 0) (j := 25) (by decide) (by decide) rfl rfl (by decide) (by decide) (fun h I => ?_)
  intro q26 g hq e; subst e
  have I := I.nA (i := 26) (k := 0) (n := 20) hq (by decide) (by decide) (by decide)
  clear hq
  refine I.putR (c := 11) (k := 7) (i := 0) (j := 26) (by decide) (by decide) rfl rfl (by decide) (by decide) (fun h I => ?_)
  obtain ⟨z1, z2, z3⟩ := I.fin (by decide) (by decide) (by decide) (by decide) (by decide) (by decide) (by decide) (by decide) (by decide) (by decide)
  exact nx h _ rfl z1 z2 z3
