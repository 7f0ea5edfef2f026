/-! ===== the law from its entry ===== -/
def hE : IH := ((fun _ => 0), [], (fun _ _ => 0), (fun _ _ => 0), (fun _ _ => none), (fun _ => 0), (fun _ _ => 0), (fun _ _ => 0), (fun _ _ => none))
/-- what the two constructors and the law's loop come to, without the machine -/
def whole_pure (N L : Nat) (xs : Nat → Int32) : Prop := ∀ x, s_X11_initP N (newO hE 11 x) x (fun hx => ∀ m, s_X12_initP N (newO hE 12 m) m (fun hm => s_law N L xs x m N 0 hx hm))
section LW2
variable {p : Program} {l : Launch} {e : Env} {R : Room} {s : State} {m : MethodId} {below : List Frame} {meth : Method} {c : Code} {H : Heap} {locs : List Loc} {cells slots : Nat} {Q : State → Prop}
variable {pc : Nat} {ls : Array Slot} {rest st0 : List Value} {D : va_G} {cy : Nat → ClassId} {A : Nat → Prop} {h1 h2 : IH} {b ci index N : Nat} {C : String} {T : u_T}
theorem l2_new (F : Lx p s m c D cy A b) (M : Mo2 D cy A s.heap h1 h2 H locs) (G : NF ci C T N) (hcl : Cond.classLink RL index C ∈ gw) (hc1 : cells + 1 ≤ R.cells) (hs1 : slots + N ≤ R.slots) (hdg : decode code pc = .ok (.new index, 3))
    (kk : ∀ (q : Nat) (H1 : Heap), kd h1 q = 0 → Mo2 D cy A s.heap (newO h1 ci q) h2 H1 locs → W p l e R s m #[Value.ref b] below meth c H1 locs (cells + 1) (slots + N) Q (F0 m (pc + 3) ls (.ref q :: rest))) : W p l e R s m #[Value.ref b] below meth c H locs cells slots Q (F0 m pc ls rest) := by
  obtain ⟨hx, hb, hml, hown, hts, hK, hN, -, -, hA⟩ := F
  obtain ⟨hc, hin, hci, hinst, hini, ty, hty, hdf⟩ := G
  have tw : ∀ w ∈ gw, w.before #[Value.ref b] s = true := fun w hw => hts w (gw_tbl w hw)
  obtain ⟨m1, m2, m3, m4, m5, m6, m7, m8⟩ := M
  have hP12 := m1.app m2
  have hD12 := m3.app m4 (fun i j x z hx9 hz9 he9 => m5 x.1 (pl_ad hx9) (by rw [he9]; exact pl_ad hz9))
  refine va_new (fs := dfl ci) hx hb hts (fun w hw => gw_tbl w (hin w hw)) ty hty hown (tw _ hcl) (tw _ hinst) (tw _ hini) hK hP12 hD12 m6 hA hc hdf hc1 hs1 hdg (fun q H1 hP hD hS => ?_)
  generalize hX1 : va_pl (ads h1) (ent cy h1) = X1 at hP hD m1 m3 hP12 hD12
  generalize hX2 : va_pl (ads h2) (ent cy h2) = X2 at hP hD m2 m4 hP12 hD12
  have g1 : ∀ (k : Nat) (z : Nat × va_E), X1[k]? = some z → (X1 ++ X2 ++ [(q, .inr (ci, dfl ci))])[k]? = some z := fun k z hz => by
    have hlt := (List.getElem?_eq_some_iff.mp hz).1
    rw [List.append_assoc, List.getElem?_append_left hlt]
    exact hz
  have g2 : ∀ (k : Nat) (z : Nat × va_E), X2[k]? = some z → (X1 ++ X2 ++ [(q, .inr (ci, dfl ci))])[X1.length + k]? = some z := fun k z hz => by
    have hlt := (List.getElem?_eq_some_iff.mp hz).1
    rw [List.append_assoc, List.getElem?_append_right (by omega), Nat.add_sub_cancel_left, List.getElem?_append_left hlt]
    exact hz
  have g3 : (X1 ++ X2 ++ [(q, (.inr (ci, dfl ci) : va_E))])[X1.length + X2.length]? = some (q, .inr (ci, dfl ci)) := by
    rw [List.getElem?_append_right (by simp), List.length_append, Nat.sub_self]
    rfl
  have hq1 : q ∉ ads h1 := fun hq => by
    obtain ⟨k, hk⟩ := va_pl_get (X := []) (f := ent cy h1) hq
    rw [List.nil_append, hX1] at hk
    have hlt := (List.getElem?_eq_some_iff.mp hk).1
    have := hD.1 _ _ _ _ (g1 k _ hk) g3 rfl
    omega
  have hq2 : q ∉ ads h2 := fun hq => by
    obtain ⟨k, hk⟩ := va_pl_get (X := []) (f := ent cy h2) hq
    rw [List.nil_append, hX2] at hk
    have hlt := (List.getElem?_eq_some_iff.mp hk).1
    have := hD.1 _ _ _ _ (g2 k _ hk) g3 rfl
    omega
  have e1 : X1 ++ [(q, .inr (ci, dfl ci))] = va_pl (ads (newO h1 ci q)) (ent cy (newO h1 ci q)) := by
    rw [← hX1, va_pl_push hq1]
    exact va_pl_congr (ent_newO hci)
  have hk0 : kd h1 q = 0 := Classical.byContradiction fun z => hq1 (m7 q z)
  refine kk q H1 hk0 ⟨?_, ?_, ?_, (by rw [hX2]; exact m4), ?_, hS, ?_, m8⟩
  · rw [← e1]
    refine va_P.app (fun k z hz => hP k z (g1 k z hz)) (fun k z hz => ?_)
    have h0 : k < 1 := (List.getElem?_eq_some_iff.mp hz).1
    rw [show k = 0 by omega] at hz
    cases hz
    exact hP _ _ g3
  · rw [hX2]
    exact fun k z hz => hP _ z (g2 k z hz)
  · rw [← e1]
    refine va_D.app m3 ⟨fun i j x z hi hj _ => ?_, fun k z hz => ?_⟩ (fun i j x z hi hj he => ?_)
    · have a1 : i < 1 := (List.getElem?_eq_some_iff.mp hi).1
      have a2 : j < 1 := (List.getElem?_eq_some_iff.mp hj).1
      omega
    · have h0 : k < 1 := (List.getElem?_eq_some_iff.mp hz).1
      rw [show k = 0 by omega] at hz
      cases hz
      exact hD.2 _ _ g3
    · have h0 : j < 1 := (List.getElem?_eq_some_iff.mp hj).1
      rw [show j = 0 by omega] at hj
      cases hj
      rw [← hX1] at hi
      have := pl_ad hi
      rw [he] at this
      exact hq1 this
  · intro a ha hb9
    have ha : a ∈ ads h1 ++ [q] := ha
    rcases List.mem_append.mp ha with z | z
    · exact m5 a z hb9
    · rw [List.mem_singleton.mp z] at hb9
      exact hq2 hb9
  · intro a ha
    show a ∈ ads h1 ++ [q]
    by_cases ea : a = q
    · rw [ea]
      simp
    · have ha : va_up (kd h1) q (ci + 1) a ≠ 0 := ha
      rw [va_up_ne _ _ ea] at ha
      exact List.mem_append_left _ (m7 a ha)
variable {n' np bq : Nat} {y' : MethodName} {b' : ByteArray} {rm : Room} {As : List Value}
theorem l2_IP {P : Option Value → IH → Prop} (F : Lx p s m c D cy A b) (M : Mo2 D cy A s.heap h1 h2 H locs) (hM : CtP l D cy y' b' n' none rm h1 H.size (.ref bq :: As) P) (G : MI y' b' n' np) (hlk : Cond.methodLink RL index y' ∈ gw) (hn : As.length = np) (hR : rm.frames + 1 ≤ R.frames ∧ 8 + (n' + 11) + rm.locals ≤ R.locals) (hf : cells + rm.cells ≤ R.cells ∧ slots + rm.slots ≤ R.slots) (hl : ls.size = 4) (hst0 : st0 = As.reverse ++ .ref bq :: rest) (hst : (rest.map fun v => v.category).sum ≤ 8) (hdg : decode code pc = .ok (.invokespecial index, 3))
    (kk : ∀ (rv : Option Value) (h' : IH) (H1 : Heap) (locs1 : List Loc), P rv h' → Mo2 D cy A s.heap h' h2 H1 locs1 → W p l e R s m #[Value.ref b] below meth c H1 locs1 (cells + rm.cells) (slots + rm.slots) Q (F0 m (pc + 3) ls (rv.toList ++ rest))) : W p l e R s m #[Value.ref b] below meth c H locs cells slots Q (F0 m pc ls st0) := by
  have F0_ := F
  obtain ⟨hx, hb, hml, hown, hts, hK, hN, -, hAO, hA⟩ := F
  obtain ⟨hc, hi, hnm, hini, hd⟩ := G
  have tw : ∀ w ∈ gw, w.before #[Value.ref b] s = true := fun w hw => hts w (gw_tbl w hw)
  exact l2_goP (va_runI (As := As) (rest := rest) ⟨hx, hb, hml, hown, hts⟩ hM ⟨callB_of np hts (goodL hc) rfl rfl rfl (tw _ hini) (tw _ hlk) hd hR, hnm, tw _ hi⟩ ⟨PrP_blind, fun U hU hW => ⟨M.pre F0_ U hU hW, hAO.moved hW.alike⟩⟩ rfl hn hl hst0 (lv_room hst) hdg hf) M hA kk
end LW2

def nwl : List Cond := flatC (Jvm.Cond.and given_1 narrow_1)
theorem nest_tab : ∀ w ∈ nestW, w.onTables = true := by
  intro w hw
  have h1 := List.all_eq_true.mp nest_all w hw
  cases w <;> first | rfl | (cases h1)
def scT (i : Nat) : Term := .string (scOwn i) (scIx i)
theorem sc_ex {b : Nat} {s : State} (fl : ∀ c ∈ nwl, c.before #[Value.ref b] s = true) : ∀ i : Nat, i < 13 → (Cond.exactly (scT i) "java/lang/String").before #[Value.ref b] s = true := by
  intro i hi
  match i, hi with
  | 0, _ => exact fl _ (List.mem_of_getElem? (i := 9) rfl)
  | 1, _ => exact fl _ (List.mem_of_getElem? (i := 14) rfl)
  | 2, _ => exact fl _ (List.mem_of_getElem? (i := 20) rfl)
  | 3, _ => exact fl _ (List.mem_of_getElem? (i := 27) rfl)
  | 4, _ => exact fl _ (List.mem_of_getElem? (i := 38) rfl)
  | 5, _ => exact fl _ (List.mem_of_getElem? (i := 50) rfl)
  | 6, _ => exact fl _ (List.mem_of_getElem? (i := 63) rfl)
  | 7, _ => exact fl _ (List.mem_of_getElem? (i := 77) rfl)
  | 8, _ => exact fl _ (List.mem_of_getElem? (i := 91) rfl)
  | 9, _ => exact fl _ (List.mem_of_getElem? (i := 104) rfl)
  | 10, _ => exact fl _ (List.mem_of_getElem? (i := 118) rfl)
  | 11, _ => exact fl _ (List.mem_of_getElem? (i := 133) rfl)
  | 12, _ => exact fl _ (List.mem_of_getElem? (i := 149) rfl)
  | i + 13, hi => exact absurd hi (by omega)
theorem sc_co {b : Nat} {s : State} (fl : ∀ c ∈ nwl, c.before #[Value.ref b] s = true) : ∀ i : Nat, i < 13 → (Cond.eq (.field (scT i) "java/lang/String" "coder" "B") (.int 0)).before #[Value.ref b] s = true := by
  intro i hi
  match i, hi with
  | 0, _ => exact fl _ (List.mem_of_getElem? (i := 10) rfl)
  | 1, _ => exact fl _ (List.mem_of_getElem? (i := 15) rfl)
  | 2, _ => exact fl _ (List.mem_of_getElem? (i := 21) rfl)
  | 3, _ => exact fl _ (List.mem_of_getElem? (i := 28) rfl)
  | 4, _ => exact fl _ (List.mem_of_getElem? (i := 39) rfl)
  | 5, _ => exact fl _ (List.mem_of_getElem? (i := 51) rfl)
  | 6, _ => exact fl _ (List.mem_of_getElem? (i := 64) rfl)
  | 7, _ => exact fl _ (List.mem_of_getElem? (i := 78) rfl)
  | 8, _ => exact fl _ (List.mem_of_getElem? (i := 92) rfl)
  | 9, _ => exact fl _ (List.mem_of_getElem? (i := 105) rfl)
  | 10, _ => exact fl _ (List.mem_of_getElem? (i := 119) rfl)
  | 11, _ => exact fl _ (List.mem_of_getElem? (i := 134) rfl)
  | 12, _ => exact fl _ (List.mem_of_getElem? (i := 150) rfl)
  | i + 13, hi => exact absurd hi (by omega)
theorem sc_ar {b : Nat} {s : State} (fl : ∀ c ∈ nwl, c.before #[Value.ref b] s = true) : ∀ i : Nat, i < 13 → (Cond.arrayOf (.field (scT i) "java/lang/String" "value" "[B") .byte).before #[Value.ref b] s = true := by
  intro i hi
  match i, hi with
  | 0, _ => exact fl _ (List.mem_of_getElem? (i := 11) rfl)
  | 1, _ => exact fl _ (List.mem_of_getElem? (i := 16) rfl)
  | 2, _ => exact fl _ (List.mem_of_getElem? (i := 22) rfl)
  | 3, _ => exact fl _ (List.mem_of_getElem? (i := 29) rfl)
  | 4, _ => exact fl _ (List.mem_of_getElem? (i := 40) rfl)
  | 5, _ => exact fl _ (List.mem_of_getElem? (i := 52) rfl)
  | 6, _ => exact fl _ (List.mem_of_getElem? (i := 65) rfl)
  | 7, _ => exact fl _ (List.mem_of_getElem? (i := 79) rfl)
  | 8, _ => exact fl _ (List.mem_of_getElem? (i := 93) rfl)
  | 9, _ => exact fl _ (List.mem_of_getElem? (i := 106) rfl)
  | 10, _ => exact fl _ (List.mem_of_getElem? (i := 120) rfl)
  | 11, _ => exact fl _ (List.mem_of_getElem? (i := 135) rfl)
  | 12, _ => exact fl _ (List.mem_of_getElem? (i := 151) rfl)
  | i + 13, hi => exact absurd hi (by omega)
theorem sc_le {b : Nat} {s : State} (fl : ∀ c ∈ nwl, c.before #[Value.ref b] s = true) : ∀ i : Nat, i < 13 → (Cond.eq (.length (.field (scT i) "java/lang/String" "value" "[B")) (.int (Int32.ofNat (scLen.getD i 0)))).before #[Value.ref b] s = true := by
  intro i hi
  match i, hi with
  | 0, _ => exact fl _ (List.mem_of_getElem? (i := 12) rfl)
  | 1, _ => exact fl _ (List.mem_of_getElem? (i := 17) rfl)
  | 2, _ => exact fl _ (List.mem_of_getElem? (i := 23) rfl)
  | 3, _ => exact fl _ (List.mem_of_getElem? (i := 30) rfl)
  | 4, _ => exact fl _ (List.mem_of_getElem? (i := 41) rfl)
  | 5, _ => exact fl _ (List.mem_of_getElem? (i := 53) rfl)
  | 6, _ => exact fl _ (List.mem_of_getElem? (i := 66) rfl)
  | 7, _ => exact fl _ (List.mem_of_getElem? (i := 80) rfl)
  | 8, _ => exact fl _ (List.mem_of_getElem? (i := 94) rfl)
  | 9, _ => exact fl _ (List.mem_of_getElem? (i := 107) rfl)
  | 10, _ => exact fl _ (List.mem_of_getElem? (i := 121) rfl)
  | 11, _ => exact fl _ (List.mem_of_getElem? (i := 136) rfl)
  | 12, _ => exact fl _ (List.mem_of_getElem? (i := 152) rfl)
  | i + 13, hi => exact absurd hi (by omega)
theorem sc_el {b : Nat} {s : State} (fl : ∀ c ∈ nwl, c.before #[Value.ref b] s = true) : ∀ i : Nat, i < 13 → ∀ j : Nat, j < scLen.getD i 0 → (Cond.eq (.elem (.field (scT i) "java/lang/String" "value" "[B") (.int (Int32.ofNat j))) (.int ((scByt.getD i []).getD j 0))).before #[Value.ref b] s = true := by
  intro i hi j hj
  match i, hi with
  | 0, _ =>
    have hj : j < 1 := hj
    match j, hj with
    | 0, _ => exact fl _ (List.mem_of_getElem? (i := 13) rfl)
    | j + 1, hj => exact absurd hj (by omega)
  | 1, _ =>
    have hj : j < 1 := hj
    match j, hj with
    | 0, _ => exact fl _ (List.mem_of_getElem? (i := 18) rfl)
    | j + 1, hj => exact absurd hj (by omega)
  | 2, _ =>
    have hj : j < 1 := hj
    match j, hj with
    | 0, _ => exact fl _ (List.mem_of_getElem? (i := 24) rfl)
    | j + 1, hj => exact absurd hj (by omega)
  | 3, _ =>
    have hj : j < 4 := hj
    match j, hj with
    | 0, _ => exact fl _ (List.mem_of_getElem? (i := 31) rfl)
    | 1, _ => exact fl _ (List.mem_of_getElem? (i := 32) rfl)
    | 2, _ => exact fl _ (List.mem_of_getElem? (i := 33) rfl)
    | 3, _ => exact fl _ (List.mem_of_getElem? (i := 34) rfl)
    | j + 4, hj => exact absurd hj (by omega)
  | 4, _ =>
    have hj : j < 4 := hj
    match j, hj with
    | 0, _ => exact fl _ (List.mem_of_getElem? (i := 42) rfl)
    | 1, _ => exact fl _ (List.mem_of_getElem? (i := 43) rfl)
    | 2, _ => exact fl _ (List.mem_of_getElem? (i := 44) rfl)
    | 3, _ => exact fl _ (List.mem_of_getElem? (i := 45) rfl)
    | j + 4, hj => exact absurd hj (by omega)
  | 5, _ =>
    have hj : j < 4 := hj
    match j, hj with
    | 0, _ => exact fl _ (List.mem_of_getElem? (i := 54) rfl)
    | 1, _ => exact fl _ (List.mem_of_getElem? (i := 55) rfl)
    | 2, _ => exact fl _ (List.mem_of_getElem? (i := 56) rfl)
    | 3, _ => exact fl _ (List.mem_of_getElem? (i := 57) rfl)
    | j + 4, hj => exact absurd hj (by omega)
  | 6, _ =>
    have hj : j < 4 := hj
    match j, hj with
    | 0, _ => exact fl _ (List.mem_of_getElem? (i := 67) rfl)
    | 1, _ => exact fl _ (List.mem_of_getElem? (i := 68) rfl)
    | 2, _ => exact fl _ (List.mem_of_getElem? (i := 69) rfl)
    | 3, _ => exact fl _ (List.mem_of_getElem? (i := 70) rfl)
    | j + 4, hj => exact absurd hj (by omega)
  | 7, _ =>
    have hj : j < 3 := hj
    match j, hj with
    | 0, _ => exact fl _ (List.mem_of_getElem? (i := 81) rfl)
    | 1, _ => exact fl _ (List.mem_of_getElem? (i := 82) rfl)
    | 2, _ => exact fl _ (List.mem_of_getElem? (i := 83) rfl)
    | j + 3, hj => exact absurd hj (by omega)
  | 8, _ =>
    have hj : j < 1 := hj
    match j, hj with
    | 0, _ => exact fl _ (List.mem_of_getElem? (i := 95) rfl)
    | j + 1, hj => exact absurd hj (by omega)
  | 9, _ =>
    have hj : j < 1 := hj
    match j, hj with
    | 0, _ => exact fl _ (List.mem_of_getElem? (i := 108) rfl)
    | j + 1, hj => exact absurd hj (by omega)
  | 10, _ =>
    have hj : j < 1 := hj
    match j, hj with
    | 0, _ => exact fl _ (List.mem_of_getElem? (i := 122) rfl)
    | j + 1, hj => exact absurd hj (by omega)
  | 11, _ =>
    have hj : j < 1 := hj
    match j, hj with
    | 0, _ => exact fl _ (List.mem_of_getElem? (i := 137) rfl)
    | j + 1, hj => exact absurd hj (by omega)
  | 12, _ =>
    have hj : j < 1 := hj
    match j, hj with
    | 0, _ => exact fl _ (List.mem_of_getElem? (i := 153) rfl)
    | j + 1, hj => exact absurd hj (by omega)
  | i + 13, hi => exact absurd hi (by omega)
theorem sc_ne {b : Nat} {s : State} (fl : ∀ c ∈ nwl, c.before #[Value.ref b] s = true) : ∀ i j : Nat, i < 13 → j < 13 → i ≠ j → (Cond.not (Cond.eq (scT i) (scT j))).before #[Value.ref b] s = true ∨ (Cond.not (Cond.eq (scT j) (scT i))).before #[Value.ref b] s = true := by
  intro i j hi hj hne
  match i, hi with
  | 0, _ =>
    match j, hj with
    | 0, _ => exact absurd rfl hne
    | 1, _ => exact Or.inl (fl _ (List.mem_of_getElem? (i := 19) rfl))
    | 2, _ => exact Or.inl (fl _ (List.mem_of_getElem? (i := 25) rfl))
    | 3, _ => exact Or.inl (fl _ (List.mem_of_getElem? (i := 35) rfl))
    | 4, _ => exact Or.inl (fl _ (List.mem_of_getElem? (i := 46) rfl))
    | 5, _ => exact Or.inl (fl _ (List.mem_of_getElem? (i := 58) rfl))
    | 6, _ => exact Or.inl (fl _ (List.mem_of_getElem? (i := 71) rfl))
    | 7, _ => exact Or.inl (fl _ (List.mem_of_getElem? (i := 84) rfl))
    | 8, _ => exact Or.inl (fl _ (List.mem_of_getElem? (i := 96) rfl))
    | 9, _ => exact Or.inl (fl _ (List.mem_of_getElem? (i := 109) rfl))
    | 10, _ => exact Or.inl (fl _ (List.mem_of_getElem? (i := 123) rfl))
    | 11, _ => exact Or.inl (fl _ (List.mem_of_getElem? (i := 138) rfl))
    | 12, _ => exact Or.inl (fl _ (List.mem_of_getElem? (i := 154) rfl))
    | j + 13, hj => exact absurd hj (by omega)
  | 1, _ =>
    match j, hj with
    | 0, _ => exact Or.inr (fl _ (List.mem_of_getElem? (i := 19) rfl))
    | 1, _ => exact absurd rfl hne
    | 2, _ => exact Or.inl (fl _ (List.mem_of_getElem? (i := 26) rfl))
    | 3, _ => exact Or.inl (fl _ (List.mem_of_getElem? (i := 36) rfl))
    | 4, _ => exact Or.inl (fl _ (List.mem_of_getElem? (i := 47) rfl))
    | 5, _ => exact Or.inl (fl _ (List.mem_of_getElem? (i := 59) rfl))
    | 6, _ => exact Or.inl (fl _ (List.mem_of_getElem? (i := 72) rfl))
    | 7, _ => exact Or.inl (fl _ (List.mem_of_getElem? (i := 85) rfl))
    | 8, _ => exact Or.inl (fl _ (List.mem_of_getElem? (i := 97) rfl))
    | 9, _ => exact Or.inl (fl _ (List.mem_of_getElem? (i := 110) rfl))
    | 10, _ => exact Or.inl (fl _ (List.mem_of_getElem? (i := 124) rfl))
    | 11, _ => exact Or.inl (fl _ (List.mem_of_getElem? (i := 139) rfl))
    | 12, _ => exact Or.inl (fl _ (List.mem_of_getElem? (i := 155) rfl))
    | j + 13, hj => exact absurd hj (by omega)
  | 2, _ =>
    match j, hj with
    | 0, _ => exact Or.inr (fl _ (List.mem_of_getElem? (i := 25) rfl))
    | 1, _ => exact Or.inr (fl _ (List.mem_of_getElem? (i := 26) rfl))
    | 2, _ => exact absurd rfl hne
    | 3, _ => exact Or.inl (fl _ (List.mem_of_getElem? (i := 37) rfl))
    | 4, _ => exact Or.inl (fl _ (List.mem_of_getElem? (i := 48) rfl))
    | 5, _ => exact Or.inl (fl _ (List.mem_of_getElem? (i := 60) rfl))
    | 6, _ => exact Or.inl (fl _ (List.mem_of_getElem? (i := 73) rfl))
    | 7, _ => exact Or.inl (fl _ (List.mem_of_getElem? (i := 86) rfl))
    | 8, _ => exact Or.inl (fl _ (List.mem_of_getElem? (i := 98) rfl))
    | 9, _ => exact Or.inl (fl _ (List.mem_of_getElem? (i := 111) rfl))
    | 10, _ => exact Or.inl (fl _ (List.mem_of_getElem? (i := 125) rfl))
    | 11, _ => exact Or.inl (fl _ (List.mem_of_getElem? (i := 140) rfl))
    | 12, _ => exact Or.inl (fl _ (List.mem_of_getElem? (i := 156) rfl))
    | j + 13, hj => exact absurd hj (by omega)
  | 3, _ =>
    match j, hj with
    | 0, _ => exact Or.inr (fl _ (List.mem_of_getElem? (i := 35) rfl))
    | 1, _ => exact Or.inr (fl _ (List.mem_of_getElem? (i := 36) rfl))
    | 2, _ => exact Or.inr (fl _ (List.mem_of_getElem? (i := 37) rfl))
    | 3, _ => exact absurd rfl hne
    | 4, _ => exact Or.inl (fl _ (List.mem_of_getElem? (i := 49) rfl))
    | 5, _ => exact Or.inl (fl _ (List.mem_of_getElem? (i := 61) rfl))
    | 6, _ => exact Or.inl (fl _ (List.mem_of_getElem? (i := 74) rfl))
    | 7, _ => exact Or.inl (fl _ (List.mem_of_getElem? (i := 87) rfl))
    | 8, _ => exact Or.inl (fl _ (List.mem_of_getElem? (i := 99) rfl))
    | 9, _ => exact Or.inl (fl _ (List.mem_of_getElem? (i := 112) rfl))
    | 10, _ => exact Or.inl (fl _ (List.mem_of_getElem? (i := 126) rfl))
    | 11, _ => exact Or.inl (fl _ (List.mem_of_getElem? (i := 141) rfl))
    | 12, _ => exact Or.inl (fl _ (List.mem_of_getElem? (i := 157) rfl))
    | j + 13, hj => exact absurd hj (by omega)
  | 4, _ =>
    match j, hj with
    | 0, _ => exact Or.inr (fl _ (List.mem_of_getElem? (i := 46) rfl))
    | 1, _ => exact Or.inr (fl _ (List.mem_of_getElem? (i := 47) rfl))
    | 2, _ => exact Or.inr (fl _ (List.mem_of_getElem? (i := 48) rfl))
    | 3, _ => exact Or.inr (fl _ (List.mem_of_getElem? (i := 49) rfl))
    | 4, _ => exact absurd rfl hne
    | 5, _ => exact Or.inl (fl _ (List.mem_of_getElem? (i := 62) rfl))
    | 6, _ => exact Or.inl (fl _ (List.mem_of_getElem? (i := 75) rfl))
    | 7, _ => exact Or.inl (fl _ (List.mem_of_getElem? (i := 88) rfl))
    | 8, _ => exact Or.inl (fl _ (List.mem_of_getElem? (i := 100) rfl))
    | 9, _ => exact Or.inl (fl _ (List.mem_of_getElem? (i := 113) rfl))
    | 10, _ => exact Or.inl (fl _ (List.mem_of_getElem? (i := 127) rfl))
    | 11, _ => exact Or.inl (fl _ (List.mem_of_getElem? (i := 142) rfl))
    | 12, _ => exact Or.inl (fl _ (List.mem_of_getElem? (i := 158) rfl))
    | j + 13, hj => exact absurd hj (by omega)
  | 5, _ =>
    match j, hj with
    | 0, _ => exact Or.inr (fl _ (List.mem_of_getElem? (i := 58) rfl))
    | 1, _ => exact Or.inr (fl _ (List.mem_of_getElem? (i := 59) rfl))
    | 2, _ => exact Or.inr (fl _ (List.mem_of_getElem? (i := 60) rfl))
    | 3, _ => exact Or.inr (fl _ (List.mem_of_getElem? (i := 61) rfl))
    | 4, _ => exact Or.inr (fl _ (List.mem_of_getElem? (i := 62) rfl))
    | 5, _ => exact absurd rfl hne
    | 6, _ => exact Or.inl (fl _ (List.mem_of_getElem? (i := 76) rfl))
    | 7, _ => exact Or.inl (fl _ (List.mem_of_getElem? (i := 89) rfl))
    | 8, _ => exact Or.inl (fl _ (List.mem_of_getElem? (i := 101) rfl))
    | 9, _ => exact Or.inl (fl _ (List.mem_of_getElem? (i := 114) rfl))
    | 10, _ => exact Or.inl (fl _ (List.mem_of_getElem? (i := 128) rfl))
    | 11, _ => exact Or.inl (fl _ (List.mem_of_getElem? (i := 143) rfl))
    | 12, _ => exact Or.inl (fl _ (List.mem_of_getElem? (i := 159) rfl))
    | j + 13, hj => exact absurd hj (by omega)
  | 6, _ =>
    match j, hj with
    | 0, _ => exact Or.inr (fl _ (List.mem_of_getElem? (i := 71) rfl))
    | 1, _ => exact Or.inr (fl _ (List.mem_of_getElem? (i := 72) rfl))
    | 2, _ => exact Or.inr (fl _ (List.mem_of_getElem? (i := 73) rfl))
    | 3, _ => exact Or.inr (fl _ (List.mem_of_getElem? (i := 74) rfl))
    | 4, _ => exact Or.inr (fl _ (List.mem_of_getElem? (i := 75) rfl))
    | 5, _ => exact Or.inr (fl _ (List.mem_of_getElem? (i := 76) rfl))
    | 6, _ => exact absurd rfl hne
    | 7, _ => exact Or.inl (fl _ (List.mem_of_getElem? (i := 90) rfl))
    | 8, _ => exact Or.inl (fl _ (List.mem_of_getElem? (i := 102) rfl))
    | 9, _ => exact Or.inl (fl _ (List.mem_of_getElem? (i := 115) rfl))
    | 10, _ => exact Or.inl (fl _ (List.mem_of_getElem? (i := 129) rfl))
    | 11, _ => exact Or.inl (fl _ (List.mem_of_getElem? (i := 144) rfl))
    | 12, _ => exact Or.inl (fl _ (List.mem_of_getElem? (i := 160) rfl))
    | j + 13, hj => exact absurd hj (by omega)
  | 7, _ =>
    match j, hj with
    | 0, _ => exact Or.inr (fl _ (List.mem_of_getElem? (i := 84) rfl))
    | 1, _ => exact Or.inr (fl _ (List.mem_of_getElem? (i := 85) rfl))
    | 2, _ => exact Or.inr (fl _ (List.mem_of_getElem? (i := 86) rfl))
    | 3, _ => exact Or.inr (fl _ (List.mem_of_getElem? (i := 87) rfl))
    | 4, _ => exact Or.inr (fl _ (List.mem_of_getElem? (i := 88) rfl))
    | 5, _ => exact Or.inr (fl _ (List.mem_of_getElem? (i := 89) rfl))
    | 6, _ => exact Or.inr (fl _ (List.mem_of_getElem? (i := 90) rfl))
    | 7, _ => exact absurd rfl hne
    | 8, _ => exact Or.inl (fl _ (List.mem_of_getElem? (i := 103) rfl))
    | 9, _ => exact Or.inl (fl _ (List.mem_of_getElem? (i := 116) rfl))
    | 10, _ => exact Or.inl (fl _ (List.mem_of_getElem? (i := 130) rfl))
    | 11, _ => exact Or.inl (fl _ (List.mem_of_getElem? (i := 145) rfl))
    | 12, _ => exact Or.inl (fl _ (List.mem_of_getElem? (i := 161) rfl))
    | j + 13, hj => exact absurd hj (by omega)
  | 8, _ =>
    match j, hj with
    | 0, _ => exact Or.inr (fl _ (List.mem_of_getElem? (i := 96) rfl))
    | 1, _ => exact Or.inr (fl _ (List.mem_of_getElem? (i := 97) rfl))
    | 2, _ => exact Or.inr (fl _ (List.mem_of_getElem? (i := 98) rfl))
    | 3, _ => exact Or.inr (fl _ (List.mem_of_getElem? (i := 99) rfl))
    | 4, _ => exact Or.inr (fl _ (List.mem_of_getElem? (i := 100) rfl))
    | 5, _ => exact Or.inr (fl _ (List.mem_of_getElem? (i := 101) rfl))
    | 6, _ => exact Or.inr (fl _ (List.mem_of_getElem? (i := 102) rfl))
    | 7, _ => exact Or.inr (fl _ (List.mem_of_getElem? (i := 103) rfl))
    | 8, _ => exact absurd rfl hne
    | 9, _ => exact Or.inl (fl _ (List.mem_of_getElem? (i := 117) rfl))
    | 10, _ => exact Or.inl (fl _ (List.mem_of_getElem? (i := 131) rfl))
    | 11, _ => exact Or.inl (fl _ (List.mem_of_getElem? (i := 146) rfl))
    | 12, _ => exact Or.inl (fl _ (List.mem_of_getElem? (i := 162) rfl))
    | j + 13, hj => exact absurd hj (by omega)
  | 9, _ =>
    match j, hj with
    | 0, _ => exact Or.inr (fl _ (List.mem_of_getElem? (i := 109) rfl))
    | 1, _ => exact Or.inr (fl _ (List.mem_of_getElem? (i := 110) rfl))
    | 2, _ => exact Or.inr (fl _ (List.mem_of_getElem? (i := 111) rfl))
    | 3, _ => exact Or.inr (fl _ (List.mem_of_getElem? (i := 112) rfl))
    | 4, _ => exact Or.inr (fl _ (List.mem_of_getElem? (i := 113) rfl))
    | 5, _ => exact Or.inr (fl _ (List.mem_of_getElem? (i := 114) rfl))
    | 6, _ => exact Or.inr (fl _ (List.mem_of_getElem? (i := 115) rfl))
    | 7, _ => exact Or.inr (fl _ (List.mem_of_getElem? (i := 116) rfl))
    | 8, _ => exact Or.inr (fl _ (List.mem_of_getElem? (i := 117) rfl))
    | 9, _ => exact absurd rfl hne
    | 10, _ => exact Or.inl (fl _ (List.mem_of_getElem? (i := 132) rfl))
    | 11, _ => exact Or.inl (fl _ (List.mem_of_getElem? (i := 147) rfl))
    | 12, _ => exact Or.inl (fl _ (List.mem_of_getElem? (i := 163) rfl))
    | j + 13, hj => exact absurd hj (by omega)
  | 10, _ =>
    match j, hj with
    | 0, _ => exact Or.inr (fl _ (List.mem_of_getElem? (i := 123) rfl))
    | 1, _ => exact Or.inr (fl _ (List.mem_of_getElem? (i := 124) rfl))
    | 2, _ => exact Or.inr (fl _ (List.mem_of_getElem? (i := 125) rfl))
    | 3, _ => exact Or.inr (fl _ (List.mem_of_getElem? (i := 126) rfl))
    | 4, _ => exact Or.inr (fl _ (List.mem_of_getElem? (i := 127) rfl))
    | 5, _ => exact Or.inr (fl _ (List.mem_of_getElem? (i := 128) rfl))
    | 6, _ => exact Or.inr (fl _ (List.mem_of_getElem? (i := 129) rfl))
    | 7, _ => exact Or.inr (fl _ (List.mem_of_getElem? (i := 130) rfl))
    | 8, _ => exact Or.inr (fl _ (List.mem_of_getElem? (i := 131) rfl))
    | 9, _ => exact Or.inr (fl _ (List.mem_of_getElem? (i := 132) rfl))
    | 10, _ => exact absurd rfl hne
    | 11, _ => exact Or.inl (fl _ (List.mem_of_getElem? (i := 148) rfl))
    | 12, _ => exact Or.inl (fl _ (List.mem_of_getElem? (i := 164) rfl))
    | j + 13, hj => exact absurd hj (by omega)
  | 11, _ =>
    match j, hj with
    | 0, _ => exact Or.inr (fl _ (List.mem_of_getElem? (i := 138) rfl))
    | 1, _ => exact Or.inr (fl _ (List.mem_of_getElem? (i := 139) rfl))
    | 2, _ => exact Or.inr (fl _ (List.mem_of_getElem? (i := 140) rfl))
    | 3, _ => exact Or.inr (fl _ (List.mem_of_getElem? (i := 141) rfl))
    | 4, _ => exact Or.inr (fl _ (List.mem_of_getElem? (i := 142) rfl))
    | 5, _ => exact Or.inr (fl _ (List.mem_of_getElem? (i := 143) rfl))
    | 6, _ => exact Or.inr (fl _ (List.mem_of_getElem? (i := 144) rfl))
    | 7, _ => exact Or.inr (fl _ (List.mem_of_getElem? (i := 145) rfl))
    | 8, _ => exact Or.inr (fl _ (List.mem_of_getElem? (i := 146) rfl))
    | 9, _ => exact Or.inr (fl _ (List.mem_of_getElem? (i := 147) rfl))
    | 10, _ => exact Or.inr (fl _ (List.mem_of_getElem? (i := 148) rfl))
    | 11, _ => exact absurd rfl hne
    | 12, _ => exact Or.inl (fl _ (List.mem_of_getElem? (i := 165) rfl))
    | j + 13, hj => exact absurd hj (by omega)
  | 12, _ =>
    match j, hj with
    | 0, _ => exact Or.inr (fl _ (List.mem_of_getElem? (i := 154) rfl))
    | 1, _ => exact Or.inr (fl _ (List.mem_of_getElem? (i := 155) rfl))
    | 2, _ => exact Or.inr (fl _ (List.mem_of_getElem? (i := 156) rfl))
    | 3, _ => exact Or.inr (fl _ (List.mem_of_getElem? (i := 157) rfl))
    | 4, _ => exact Or.inr (fl _ (List.mem_of_getElem? (i := 158) rfl))
    | 5, _ => exact Or.inr (fl _ (List.mem_of_getElem? (i := 159) rfl))
    | 6, _ => exact Or.inr (fl _ (List.mem_of_getElem? (i := 160) rfl))
    | 7, _ => exact Or.inr (fl _ (List.mem_of_getElem? (i := 161) rfl))
    | 8, _ => exact Or.inr (fl _ (List.mem_of_getElem? (i := 162) rfl))
    | 9, _ => exact Or.inr (fl _ (List.mem_of_getElem? (i := 163) rfl))
    | 10, _ => exact Or.inr (fl _ (List.mem_of_getElem? (i := 164) rfl))
    | 11, _ => exact Or.inr (fl _ (List.mem_of_getElem? (i := 165) rfl))
    | 12, _ => exact absurd rfl hne
    | j + 13, hj => exact absurd hj (by omega)
  | i + 13, hi => exact absurd hi (by omega)
theorem sc_sr {b : Nat} {s : State} (hts : ∀ w ∈ lw_tbl, w.before #[Value.ref b] s = true) : ∀ i : Nat, i < 13 → (Cond.stringRef (scOwn i) (scIx i) (scTx i)).before #[Value.ref b] s = true := by
  intro i hi
  match i, hi with
  | 0, _ => exact hts _ (List.mem_append_right _ (gq3 15 rfl))
  | 1, _ => exact hts _ (List.mem_append_right _ (gq3 88 rfl))
  | 2, _ => exact hts _ (List.mem_append_right _ (gq3 93 rfl))
  | 3, _ => exact hts _ (List.mem_append_right _ (gq3 130 rfl))
  | 4, _ => exact hts _ (List.mem_append_right _ (gq3 132 rfl))
  | 5, _ => exact hts _ (List.mem_append_right _ (gq3 133 rfl))
  | 6, _ => exact hts _ (List.mem_append_right _ (gq3 134 rfl))
  | 7, _ => exact hts _ (List.mem_append_right _ (gq3 135 rfl))
  | 8, _ => exact hts _ (List.mem_append_right _ (gq3 136 rfl))
  | 9, _ => exact hts _ (List.mem_append_right _ (gq3 137 rfl))
  | 10, _ => exact hts _ (List.mem_append_right _ (gq3 138 rfl))
  | 11, _ => exact hts _ (List.mem_append_right _ (gq3 139 rfl))
  | 12, _ => exact hts _ (List.mem_append_right _ (gq3 140 rfl))
  | i + 13, hi => exact absurd hi (by omega)
set_option maxHeartbeats 4000000 in
set_option maxRecDepth 100000 in
theorem lx_of {p : Program} {s : State} {m : MethodId} {meth : Method} {c : Code} {b L : Nat} {xs : Nat → Int32} (C0 : lw_At p s m meth c b L xs) : ∃ (D : va_G) (cy : Nat → ClassId), Lx p s m c D cy (fun q => s.heap.size ≤ q) b := by
  obtain ⟨hx, hb, hr, hml, hown, hts, hX, hbl, hlocks, hgv⟩ := id C0
  have tw : ∀ w ∈ gw, w.before #[Value.ref b] s = true := fun w hw => hts w (gw_tbl w hw)
  have fl : ∀ c ∈ nwl, c.before #[Value.ref b] s = true := flat_of_before _ hgv
  have hA0 : ∀ a : Nat, a < s.heap.size → ¬ (fun q : Nat => s.heap.size ≤ q) a := fun a ha hq => Nat.not_le.mpr ha hq
  obtain ⟨c0, i0, hKn0⟩ := u_known (C := RX0) (T := TX0) (N := 5) (n := 5) tw inX0 (tw _ t_234)
  obtain ⟨c1, i1, hKn1⟩ := u_known (C := RX1) (T := TX1) (N := 5) (n := 5) tw inX1 (tw _ t_274)
  obtain ⟨c2, i2, hKn2⟩ := u_known (C := RX2) (T := TX2) (N := 11) (n := 11) tw inX2 (tw _ t_85)
  obtain ⟨c3, i3, hKn3⟩ := u_known (C := RX3) (T := TX3) (N := 7) (n := 7) tw inX3 (tw _ t_205)
  obtain ⟨c4, i4, hKn4⟩ := u_known (C := RX4) (T := TX4) (N := 3) (n := 3) tw inX4 (tw _ t_157)
  obtain ⟨c5, i5, hKn5⟩ := u_known (C := RX5) (T := TX5) (N := 5) (n := 5) tw inX5 (tw _ t_79)
  obtain ⟨c6, i6, hKn6⟩ := u_known (C := RX6) (T := TX6) (N := 8) (n := 8) tw inX6 (tw _ t_240)
  obtain ⟨c7, i7, hKn7⟩ := u_known (C := RX7) (T := TX7) (N := 2) (n := 2) tw inX7 (tw _ t_61)
  obtain ⟨c8, i8, hKn8⟩ := u_known (C := RX8) (T := TX8) (N := 3) (n := 3) tw inX8 (tw _ t_313)
  obtain ⟨c9, i9, hKn9⟩ := u_known (C := RX9) (T := TX9) (N := 9) (n := 9) tw inX9 (tw _ t_412)
  obtain ⟨c10, i10, hKn10⟩ := u_known (C := RX10) (T := TX10) (N := 6) (n := 6) tw inX10 (tw _ t_30)
  obtain ⟨c11, i11, hKn11⟩ := u_known (C := RX11) (T := TX11) (N := 14) (n := 14) tw inX11 (tw _ t_22)
  obtain ⟨c12, i12, hKn12⟩ := u_known (C := RX12) (T := TX12) (N := 70) (n := 70) tw inX12 (tw _ t_1001)
  obtain ⟨cI, kI, oI, fI1, fI2, fI3⟩ := Cond.arrayClass_spec (tw _ t_59)
  obtain ⟨cJ, kJ, oJ, fJ1, fJ2, fJ3⟩ := Cond.arrayClass_spec (tw _ t_232)
  obtain ⟨cZ, kZ, oZ, fZ1, fZ2, fZ3⟩ := Cond.arrayClass_spec (tw _ t_272)
  have aE : va_AO RX2 s := hts _ (List.mem_append_right _ (gq1 163 rfl))
  have aL : va_AO RX4 s := hts _ (List.mem_append_right _ (gq2 178 rfl))
  have aS : va_AO RX9 s := hts _ (List.mem_append_right _ (gq1 67 rfl))
  have aG : va_AOA .int s := hts (Cond.arrayOver (.array .int)) (List.mem_append_right _ (gq2 6 rfl))
  obtain ⟨oE, cE, kE, e1, e2, e3, e4, e5⟩ := Cond.arrayOver_spec aE
  obtain ⟨oL, cL, kL, l1, l2, l3, l4, l5⟩ := Cond.arrayOver_spec aL
  obtain ⟨oS, cS, kS, s1, s2, s3, s4, s5⟩ := Cond.arrayOver_spec aS
  obtain ⟨oG, cG, kG, g1, g2, g3, g4, g5⟩ := aoa_spec aG
  obtain ⟨adK, adV, hS, hev⟩ := vk_Sof (N := 13) (tm := scT) (len := scLen) (byt := scByt) (A := fun q => s.heap.size ≤ q) (fun i hi => Nat.lt_trans (sc_small i hi) (by decide)) (sc_ex fl) (sc_co fl) (sc_ar fl) (sc_le fl) (sc_el fl) (sc_ne fl) hA0
  have hZ1 := va_Zof (A := fun q => s.heap.size ≤ q) (hts _ (List.mem_append_right _ (gq3 29 rfl)) : (Cond.laysStatic "java/lang/String" "COMPACT_STRINGS" "Z").before #[Value.ref b] s = true) (tw _ t_14) (va_eqi (fl (Cond.eq (.static "java/lang/String" "COMPACT_STRINGS" "Z") (.int 1)) (List.mem_of_getElem? (i := 4) rfl))) hA0
  have hZ2 := va_Zqof (A := fun q => s.heap.size ≤ q) (hts _ (List.mem_append_right _ (gq3 45 rfl)) : (Cond.laysStatic "jdk/internal/util/Preconditions" "SIOOBE_FORMATTER" "Ljava/util/function/BiFunction;").before #[Value.ref b] s = true) (tw _ t_16) (fl (Cond.isRef (.static "jdk/internal/util/Preconditions" "SIOOBE_FORMATTER" "Ljava/util/function/BiFunction;")) (List.mem_of_getElem? (i := 5) rfl)) hA0
  have hcK : ∀ i, i < 13 → (fun k => if k < 7 then [cI, cJ, cZ, cE, cL, cS, cG].getD k 0 else if k < 200 then adK (k - 100) else adV (k - 200)) (100 + i) = adK i := fun i hi => by
    show (if 100 + i < 7 then _ else if 100 + i < 200 then adK (100 + i - 100) else adV (100 + i - 200)) = adK i
    rw [if_neg (by omega), if_pos (by omega), Nat.add_sub_cancel_left]
  have hcV : ∀ i, i < 13 → (fun k => if k < 7 then [cI, cJ, cZ, cE, cL, cS, cG].getD k 0 else if k < 200 then adK (k - 100) else adV (k - 200)) (200 + i) = adV i := fun i hi => by
    show (if 200 + i < 7 then _ else if 200 + i < 200 then adK (200 + i - 100) else adV (200 + i - 200)) = adV i
    rw [if_neg (by omega), if_neg (by omega), Nat.add_sub_cancel_left]
  refine ⟨(fun k => [c0, c1, c2, c3, c4, c5, c6, c7, c8, c9, c10, c11, c12].getD k 0, fun k => [i0, i1, i2, i3, i4, i5, i6, i7, i8, i9, i10, i11, i12].getD k (fun _ => 0)), fun k => if k < 7 then [cI, cJ, cZ, cE, cL, cS, cG].getD k 0 else if k < 200 then adK (k - 100) else adV (k - 200), hx, hb, hml, hown, hts, ⟨?_, ?_⟩, fun w hw => ?_, ⟨⟨fun i hi => ?_, fun i j hi hj hh => ?_⟩, fun i hi => ?_, hZ1, ?_⟩, ⟨aE, aL, aS, aG⟩, fun q hq => hq⟩
  · intro k q hq
    match k, hq with
    | 0, hq => cases hq; exact hKn0
    | 1, hq => cases hq; exact hKn1
    | 2, hq => cases hq; exact hKn2
    | 3, hq => cases hq; exact hKn3
    | 4, hq => cases hq; exact hKn4
    | 5, hq => cases hq; exact hKn5
    | 6, hq => cases hq; exact hKn6
    | 7, hq => cases hq; exact hKn7
    | 8, hq => cases hq; exact hKn8
    | 9, hq => cases hq; exact hKn9
    | 10, hq => cases hq; exact hKn10
    | 11, hq => cases hq; exact hKn11
    | 12, hq => cases hq; exact hKn12
    | k + 13, hq => simp [vwCl] at hq
  · intro k q hq
    match k, hq with
    | 0, hq => cases hq; exact ⟨fun n z => ⟨fun k h => (by cases h), kI, fI2, oI, fI3⟩, fI1⟩
    | 1, hq => cases hq; exact ⟨fun n z => ⟨fun k h => (by cases h), kJ, fJ2, oJ, fJ3⟩, fJ1⟩
    | 2, hq => cases hq; exact ⟨fun n z => ⟨fun k h => (by cases h), kZ, fZ2, oZ, fZ3⟩, fZ1⟩
    | 3, hq => cases hq; exact ⟨fun n z => ⟨fun k h => (by cases h), kE, e3, oE, e4⟩, kE, oE, e3, e4, e1, e5⟩
    | 4, hq => cases hq; exact ⟨fun n z => ⟨fun k h => (by cases h), kL, l3, oL, l4⟩, kL, oL, l3, l4, l1, l5⟩
    | 5, hq => cases hq; exact ⟨fun n z => ⟨fun k h => (by cases h), kS, s3, oS, s4⟩, kS, oS, s3, s4, s1, s5⟩
    | 6, hq => cases hq; exact ⟨fun n z => ⟨fun k h => (by cases h), kG, g3, oG, g4⟩, g5⟩
    | k + 7, hq => simp [tysO] at hq
  · exact va_Nw.of (nest_tab w hw) (hts w (nestW_in w hw))
  · rw [hcK i hi, hcV i hi]
    exact hS.1 i hi
  · rw [hcK i hi, hcK j hj] at hh
    exact hS.2 i j hi hj hh
  · rw [hcK i hi]
    exact vk_R.of (A := #[Value.ref b]) (sc_sr hts i hi) (hev i hi)
  · rcases hZ2 with z | ⟨t, z⟩
    · exact ⟨none, z⟩
    · exact ⟨some t, z⟩
set_option maxHeartbeats 4000000 in
set_option maxRecDepth 100000 in
/-- the law from its entry, over what the sides come to without the machine -/
theorem whole_open {p : Program} {e : Env} {s : State} {m : MethodId} {below : List Frame} {meth : Method} {c : Code} (l : Launch) {b L N : Nat} {xs : Nat → Int32} (hL : L ≤ 3072) (C0 : lw_At p s m meth c b L xs) (hp : whole_pure N L xs) : W p l e room_1 s m #[Value.ref b] below meth c s.heap [] 0 0 (lw_Z below #[Value.ref b] s) (entryFrame m ([Value.ref b] : List Value).toArray 4) := by
  obtain ⟨D, cy, F⟩ := lx_of C0
  obtain ⟨hx, hb, hr, hml, hown, hts, hX, hbl, hlocks, hgv⟩ := id C0
  have hbA : ¬ (fun q : Nat => s.heap.size ≤ q) b := Nat.not_le.mpr hbl
  have hl := lv_entry ([.ref b]) (n := 4) (Nat.le_of_ble_eq_true rfl)
  rw [lg_entry_eq]
  generalize (lg_sl ([.ref b]) ++ List.replicate (4 - (lg_sl ([.ref b])).length) Slot.unset).toArray = ls at hl ⊢
  have hl : lv_has ls 4 [(0, .ref b)] := hl
  have hnil : va_pl (ads hE) (ent cy hE) = [] := rfl
  have M : Mo2 D cy (fun q : Nat => s.heap.size ≤ q) s.heap hE hE s.heap [] := by
    refine ⟨?_, ?_, ?_, ?_, (fun a h => by cases h), va_S.rf, fun a h => absurd rfl h, fun a h => absurd rfl h⟩
    · rw [hnil]
      exact fun k q h => by simp at h
    · rw [hnil]
      exact fun k q h => by simp at h
    · rw [hnil]
      exact ⟨fun i j p q h => by simp at h, fun k q h => by simp at h⟩
    · rw [hnil]
      exact ⟨fun i j p q h => by simp at h, fun k q h => by simp at h⟩
  refine l2_new F M nf_11 t_21 (by decide) (by decide) dL_law_0 (fun x H k_x M => ?_)
  have hs := hp x
  refine lv_dup hx hb dL_law_3 rfl ?_
  refine l2_IP (bq := x) (As := []) (rest := [.ref x]) F M (cP_X11_init hs) mi_X11_init t_23 rfl ⟨by decide, by decide⟩ ⟨by decide, by decide⟩ hl.1 rfl (by simp [cat_r]) dL_law_4 (fun rv hx9 H locs hq M => ?_)
  obtain ⟨rfl, hs⟩ := hq
  refine W.eq (g2 := F0 m 7 ls [.ref x]) rfl ?_
  refine lv_astore_n (i := 1) (lv' := [(1, .ref x), (0, .ref b)]) hx hb dL_law_7 rfl hl (by decide) rfl (fun ls hl => ?_)
  refine l2_new F M.swap nf_12 t_1000 (by decide) (by decide) dL_law_8 (fun m9 H k_m M => ?_)
  have hs := hs m9
  refine lv_dup hx hb dL_law_11 rfl ?_
  refine l2_IP (bq := m9) (As := []) (rest := [.ref m9]) F M (cP_X12_init hs) mi_X12_init t_1002 rfl ⟨by decide, by decide⟩ ⟨by decide, by decide⟩ hl.1 rfl (by simp [cat_r]) dL_law_12 (fun rv hm9 H locs hq M => ?_)
  obtain ⟨rfl, hs⟩ := hq
  refine W.eq (g2 := F0 m 15 ls [.ref m9]) rfl ?_
  refine lv_astore_n (i := 2) (lv' := [(2, .ref m9), (1, .ref x), (0, .ref b)]) hx hb dL_law_15 rfl hl (by decide) rfl (fun ls hl => ?_)
  refine lv_iconst (v := 0) hx hb dL_law_16 (by decide) ?_
  refine lv_istore_n (i := 3) (lv' := [(3, .int 0), (2, .ref m9), (1, .ref x), (0, .ref b)]) hx hb dL_law_17 rfl hl (by decide) rfl (fun ls hl => ?_)
  refine W.widen (k := 200 + 56 * 0) (n := 20000 + 597 * 0) (by decide) (by decide) ?_
  exact w_law hL hr hlocks hX hbl hbA (fun q hq => hq) F N 0 0 hx9 hm9 _ _ _ rfl (by decide) hs (lv_sub hl [3, 2, 1, 0] rfl) M.swap
