/-! THE CLAIM OUT OF ONE WALK OF THE LAW'S BODY. Your part is whole_start (and what it stands on); all else here is the same for every law, but numbers. -/
def R_law : String := "ContactHouseLaw"
def lw_P (b : Addr) (xs : List Int32) (args : Array Value) (s : State) : Prop := args = #[.ref b] ∧ s.IntsAt b xs ∧ xs.length ≤ 3072 ∧ (Jvm.Cond.and given_1 narrow_1).before args s = true
def lw_Q (_ : Array Value) (s : State) (o : Outcome) (t : State) : Prop := o = .returned (some (.int 1)) ∧ Framed s o t [] 600000 7302250
def lw_Z (below : List Frame) (a : Array Value) (s : State) : State → Prop := fun t => ∃ o, t.status = .running ∧ Ended t below o ∧ lw_Q a s o t
/-- the law's own end, with 1 on the stack, nothing written that was there before, its room as the claim has it -/
theorem lw_ret {p : Program} {l : Launch} {e : Env} {s : State} {m : MethodId} {below : List Frame} {meth : Method} {c : Code} {b : Nat} (hx : p.tables.exec = Jvm.exec) (hb : c.code = code) (hr : meth.sig.returnType = ret) (hlocks : meth.locks = false) {pc : Nat} {H : Heap} {ls : Array Slot} (hdg : decode code pc = .ok (.ireturn, 1)) : W p l e room_1 s m #[Value.ref b] below meth c H [] 600000 7302250 (lw_Z below #[Value.ref b] s) (F0 m pc ls [.int 1]) := by
  intro T hT X
  obtain ⟨fs, hret, hrun, hended, hW, hframe⟩ := X.leave (v := some (.int 1)) (hlocks := hlocks) (fun h => by rw [hr] at h; cases h)
  have hmeth' : T.vm.method? m = some meth := X.method'
  refine ⟨T.setFrames fs, ?_, .returned (some (.int 1)), hrun, hended, rfl, ⟨_, rfl⟩, hW, hframe⟩
  jvm_step X.here [X.here.top, hx, hb, hdg, hmeth', hr, ret, narrow_b1]
  (try refine ⟨rfl, ?_⟩); (try refine ⟨rfl, ?_⟩)
  first | (intro acts; rw [hret _ acts rfl rfl rfl]) | rw [hret _ _ rfl rfl rfl]
  exact Steps.refl _
/-- what holds at the law's entry: the machine, the code, the tables' words (any of lw_tbl by 'hts w (by decide +kernel)'), the script of L ints xs at the cell b, what the Statement gives of the start (any of its parts by flat_of_before) -/
def lw_At (p : Program) (s : State) (m : MethodId) (meth : Method) (c : Code) (b L : Nat) (xs : Nat → Int32) : Prop :=
  p.tables.exec = Jvm.exec ∧ c.code = code ∧ meth.sig.returnType = ret ∧ c.maxLocals = 4 ∧ s.vm.findClass R_law = some m.cls ∧ (∀ w ∈ lw_tbl, w.before #[Value.ref b] s = true) ∧ va_X b L xs s s.heap ∧ b < s.heap.size ∧ meth.locks = false ∧ (Jvm.Cond.and given_1 narrow_1).before #[Value.ref b] s = true
/-! ===== the law: two heaps, the class's and the reference's ===== -/
def Mo2 (D : va_G) (cy : Nat → ClassId) (A : Nat → Prop) (H0 : Heap) (h1 h2 : IH) (H : Heap) (locs : List Loc) : Prop := va_P D vwCl (va_pl (ads h1) (ent cy h1)) H ∧ va_P D vwCl (va_pl (ads h2) (ent cy h2)) H ∧ va_D A (va_pl (ads h1) (ent cy h1)) ∧ va_D A (va_pl (ads h2) (ent cy h2)) ∧ (∀ a, a ∈ ads h1 → a ∈ ads h2 → False) ∧ va_S A H0 H locs ∧ (∀ a, kd h1 a ≠ 0 → a ∈ ads h1) ∧ (∀ a, kd h2 a ≠ 0 → a ∈ ads h2)
theorem am_in {cy : Nat → ClassId} {h : IH} {sz q : Nat} (hq : Am cy h sz q) : q ∈ ads h ∨ sz ≤ q := by
  rcases hq with ⟨k, e, hk⟩ | hq
  · have := List.mem_of_getElem? hk
    obtain ⟨a, ha, hae⟩ := List.mem_map.mp this
    cases hae
    exact Or.inl ha
  · exact Or.inr hq
theorem pl_lt {D : va_G} {cy : Nat → ClassId} {h : IH} {H : Heap} {a : Nat} (hP : va_P D vwCl (va_pl (ads h) (ent cy h)) H) (ha : a ∈ ads h) : a < H.size := by
  obtain ⟨k, hk⟩ := va_pl_get (X := []) (f := ent cy h) ha
  exact (hP k _ hk).lt
theorem pl_ad {cy : Nat → ClassId} {h : IH} {k : Nat} {q : Nat × va_E} (hk : (va_pl (ads h) (ent cy h))[k]? = some q) : q.1 ∈ ads h := by
  obtain ⟨a, ha, hae⟩ := List.mem_map.mp (List.mem_of_getElem? hk)
  rw [← hae]
  exact ha
section LW
variable {p : Program} {l : Launch} {e : Env} {R : Room} {s : State} {m : MethodId} {args : Array Value} {below : List Frame} {meth : Method} {c : Code} {H : Heap} {locs : List Loc} {cells slots : Nat} {Q : State → Prop}
variable {pc : Nat} {ls : Array Slot} {rest st0 : List Value} {D : va_G} {cy : Nat → ClassId} {A : Nat → Prop} {H0 : Heap} {h1 h2 h' : IH} {rv : Option Value}
theorem Mo2.swap (M : Mo2 D cy A H0 h1 h2 H locs) : Mo2 D cy A H0 h2 h1 H locs := ⟨M.2.1, M.1, M.2.2.2.1, M.2.2.1, fun a z w => M.2.2.2.2.1 a w z, M.2.2.2.2.2.1, M.2.2.2.2.2.2.2, M.2.2.2.2.2.2.1⟩
theorem Mo2.free (M : Mo2 D cy A H0 h1 h2 H locs) (hA : ∀ q : Nat, H0.size ≤ q → A q) : ∀ q, Am cy h1 H.size q → A q := by
  intro q hq
  rcases hq with ⟨k, e, hk⟩ | hq
  · exact M.2.2.1.2 k _ hk
  · exact hA q (Nat.le_trans M.2.2.2.2.2.1.1 hq)
/-- the fixed part of the law's walk -/
def Lx (p : Program) (s : State) (m : MethodId) (c : Code) (D : va_G) (cy : Nat → ClassId) (A : Nat → Prop) (b : Nat) : Prop := p.tables.exec = Jvm.exec ∧ c.code = code ∧ c.maxLocals = 4 ∧ s.vm.findClass RL = some m.cls ∧ (∀ w ∈ lw_tbl, w.before #[Value.ref b] s = true) ∧ va_K D vwCl (tysO cy) s ∧ NW s ∧ SC cy A s ∧ AOs s ∧ (∀ q : Nat, s.heap.size ≤ q → A q)
/-- behind a call on the first heap: the second one is as it was -/
theorem Mo2.behind {t : State} {H1 : Heap} {locs1 : List Loc} (M : Mo2 D cy A H0 h1 h2 H locs) (hA : ∀ q : Nat, H0.size ≤ q → A q) (ht : H1 = t.heap) (hW : Wd D cy h' (Am cy h1 H.size) t) (hk : ∀ q : Nat, q < H.size → ¬ Am cy h1 H.size q → H1[q]? = H[q]?) (hS : va_S A H0 H1 locs1) : Mo2 D cy A H0 h' h2 H1 locs1 := by
  obtain ⟨hP, hK', hD, hdom⟩ := hW
  have hF := M.free hA
  have hout : ∀ a, a ∈ ads h2 → ¬ Am cy h1 H.size a := fun a ha hm => by
    rcases am_in hm with z | z
    · exact M.2.2.2.2.1 a z ha
    · have := pl_lt M.2.1 ha
      omega
  refine ⟨by rw [ht]; exact hP, M.2.1.kept (fun k q hq => hk q.1 ((M.2.1 k q hq).lt) (hout _ (pl_ad hq))), hD.weaken (fun _ q _ hq => hF _ hq), M.2.2.2.1, fun a ha hb => ?_, hS, hdom, M.2.2.2.2.2.2.2⟩
  obtain ⟨k, hk9⟩ := va_pl_get (X := []) (f := ent cy h') ha
  exact hout a hb (hD.2 k _ hk9)
theorem l2_go {a : Array Value} {mc ms : Nat} (hr : va_Run p l e R s m args below meth c H locs cells slots mc ms (F0 m pc ls st0) rest (QR D cy h' (Am cy h1 H.size) rv a) (Am cy h1 H.size)) (M : Mo2 D cy A H0 h1 h2 H locs) (hA : ∀ q : Nat, H0.size ≤ q → A q)
    (kk : ∀ (H1 : Heap) (locs1 : List Loc), Mo2 D cy A H0 h' h2 H1 locs1 → W p l e R s m args below meth c H1 locs1 (cells + mc) (slots + ms) Q (F0 m (pc + 3) ls (rv.toList ++ rest))) : W p l e R s m args below meth c H locs cells slots Q (F0 m pc ls st0) := by
  have hA1 := M.free hA
  have hS := M.2.2.2.2.2.1
  intro T hT X
  obtain ⟨v, st₀, t, T', L, h0, X', hL, e1, e2, ⟨hv, hWd, hz, hk⟩, st⟩ := hr T hT X
  cases hv
  rw [h0] at hz hk
  obtain ⟨t2, a1, b1⟩ := kk T'.heap (locs ++ L) (M.behind hA e1 hWd (fun q z1 z2 => by rw [e1]; exact hk q z1 z2) ⟨Nat.le_trans hS.1 (by rw [e1]; exact hz), fun q z1 z2 => by rw [e1, hk q (Nat.lt_of_lt_of_le z1 hS.1) (fun z => z2 (hA1 q z))]; exact hS.2.1 q z1 z2, fun q hq => by
      rcases List.mem_append.mp hq with h9 | h9
      · exact hS.2.2 q h9
      · exact hA1 _ (hL q h9)⟩) T' rfl X'
  exact ⟨t2, st t2 a1, b1⟩
theorem l2_goP {a : Array Value} {mc ms : Nat} {P : Option Value → IH → Prop} (hr : va_Run p l e R s m args below meth c H locs cells slots mc ms (F0 m pc ls st0) rest (QP D cy (Am cy h1 H.size) P a) (Am cy h1 H.size)) (M : Mo2 D cy A H0 h1 h2 H locs) (hA : ∀ q : Nat, H0.size ≤ q → A q)
    (kk : ∀ (rv : Option Value) (h' : IH) (H1 : Heap) (locs1 : List Loc), P rv h' → Mo2 D cy A H0 h' h2 H1 locs1 → W p l e R s m args below meth c H1 locs1 (cells + mc) (slots + ms) Q (F0 m (pc + 3) ls (rv.toList ++ rest))) : W p l e R s m args below meth c H locs cells slots Q (F0 m pc ls st0) := by
  have hA1 := M.free hA
  have hS := M.2.2.2.2.2.1
  intro T hT X
  obtain ⟨v, st₀, t, T', L, h0, X', hL, e1, e2, ⟨⟨rv, h', hv, hPq, hWd⟩, hz, hk⟩, st⟩ := hr T hT X
  cases hv
  rw [h0] at hz hk
  obtain ⟨t2, a1, b1⟩ := kk v h' T'.heap (locs ++ L) hPq (M.behind hA e1 hWd (fun q z1 z2 => by rw [e1]; exact hk q z1 z2) ⟨Nat.le_trans hS.1 (by rw [e1]; exact hz), fun q z1 z2 => by rw [e1, hk q (Nat.lt_of_lt_of_le z1 hS.1) (fun z => z2 (hA1 q z))]; exact hS.2.1 q z1 z2, fun q hq => by
      rcases List.mem_append.mp hq with h9 | h9
      · exact hS.2.2 q h9
      · exact hA1 _ (hL q h9)⟩) T' rfl X'
  exact ⟨t2, st t2 a1, b1⟩
theorem goodL {y : MethodName} {b : ByteArray} {n : Nat} {r : Option FieldType} (hy : Cond.code y b n r ∈ gw) : GoodIn lw_tbl (wsA y b n r) := by
  intro w hw
  have h1 : w ∈ gw := by
    rcases List.mem_cons.mp hw with rfl | h
    · exact hy
    · exact h
  exact ⟨gw_tbl w h1, good_of_word (gw_good w h1)⟩
theorem Mo2.pre {b : Nat} {av : List Value} (F : Lx p s m c D cy A b) (M : Mo2 D cy A s.heap h1 h2 H locs) : ∀ U : State, U.heap = H → s.WarmedH U.vm → Pr D cy h1 H.size av av.toArray U := by
  intro U hU hW
  obtain ⟨-, -, -, -, -, hK, hN, ⟨hS1, hS2, hS3, x0, hS4⟩, -, hA⟩ := F
  have hF := M.free hA
  subst hU
  have hkp := M.2.2.2.2.2.1.2.1
  exact ⟨rfl, rfl, ⟨M.1, va_K.moved hW.alike hK, M.2.2.1.weaken (fun _ _ _ _ => trivial), M.2.2.2.2.2.2.1⟩, hN.warm hW, ((hS1.kept hkp).moved hW.alike).narrow hF, fun i hi => (hS2 i hi).warm hW, ((hS3.kept hkp).moved hW.alike).narrow hF, x0, ((hS4.kept hkp).moved hW.alike).narrow hF⟩
variable {b bq ci index n' np : Nat} {y' : MethodName} {b' : ByteArray} {r' : Option FieldType} {rm : Room} {As : List Value} {C : String}
theorem l2_V (F : Lx p s m c D cy A b) (M : Mo2 D cy A s.heap h1 h2 H locs) (hM : Ct l D cy y' b' n' r' rm h1 H.size (.ref bq :: As) h' rv) (G : MV ci y' b' n' r' np C) (hlk : Cond.methodLink RL index y' ∈ gw) (hkb : kd h1 bq = ci + 1) (hn : As.length = np) (hR : rm.frames + 1 ≤ R.frames ∧ 8 + (n' + 11) + rm.locals ≤ R.locals) (hrm : rm.cells = 0 ∧ rm.slots = 0) (hf : cells ≤ R.cells ∧ slots ≤ R.slots) (hl : ls.size = 4) (hst0 : st0 = As.reverse ++ .ref bq :: rest) (hst : (rest.map fun v => v.category).sum ≤ 8) (hdg : decode code pc = .ok (.invokevirtual index, 3))
    (kk : ∀ (H1 : Heap) (locs1 : List Loc), Mo2 D cy A s.heap h' h2 H1 locs1 → W p l e R s m #[Value.ref b] below meth c H1 locs1 cells slots Q (F0 m (pc + 3) ls (rv.toList ++ rest))) : W p l e R s m #[Value.ref b] below meth c H locs cells slots Q (F0 m pc ls st0) := by
  have F0_ := F
  obtain ⟨hx, hb, hml, hown, hts, hK, hN, -, -, hA⟩ := F
  obtain ⟨hc, hi, hsel, hini, hd, hcl, hci⟩ := G
  have tw : ∀ w ∈ gw, w.before #[Value.ref b] s = true := fun w hw => hts w (gw_tbl w hw)
  obtain ⟨qv, hqv, hqC⟩ : ∃ q, vwCl[ci]? = some q ∧ q.1 = C := by
    cases hq : vwCl[ci]? with
    | none => rw [hq] at hcl; cases hcl
    | some q => rw [hq] at hcl; exact ⟨q, rfl, Option.some.inj hcl⟩
  obtain ⟨q, hq⟩ := va_pl_get (X := []) (f := ent cy h1) (M.2.2.2.2.2.2.1 bq (by omega))
  rw [ent_o hkb hci] at hq
  have hrec := va_recv hK M.1 hqv hq
  rw [hqC] at hrec
  refine l2_go (va_runV (As := As) (rest := rest) ⟨hx, hb, hml, hown, hts⟩ hM ⟨callB_of np hts (goodL hc) rfl rfl rfl (tw _ hini) (tw _ hlk) hd hR, tw _ hi, tw _ hsel⟩ ⟨Pr_blind, hrec, M.pre F0_⟩ rfl hn hl hst0 (lv_room hst) hdg (by rw [hrm.1, hrm.2]; exact hf)) M hA (fun H1 locs1 M1 => ?_)
  rw [hrm.1, hrm.2]
  exact kk H1 locs1 M1
theorem l2_VP {P : Option Value → IH → Prop} (F : Lx p s m c D cy A b) (M : Mo2 D cy A s.heap h1 h2 H locs) (hM : CtP l D cy y' b' n' r' rm h1 H.size (.ref bq :: As) P) (G : MV ci y' b' n' r' np C) (hlk : Cond.methodLink RL index y' ∈ gw) (hkb : kd h1 bq = ci + 1) (hn : As.length = np) (hR : rm.frames + 1 ≤ R.frames ∧ 8 + (n' + 11) + rm.locals ≤ R.locals) (hf : cells + rm.cells ≤ R.cells ∧ slots + rm.slots ≤ R.slots) (hl : ls.size = 4) (hst0 : st0 = As.reverse ++ .ref bq :: rest) (hst : (rest.map fun v => v.category).sum ≤ 8) (hdg : decode code pc = .ok (.invokevirtual index, 3))
    (kk : ∀ (rv : Option Value) (h' : IH) (H1 : Heap) (locs1 : List Loc), P rv h' → Mo2 D cy A s.heap h' h2 H1 locs1 → W p l e R s m #[Value.ref b] below meth c H1 locs1 (cells + rm.cells) (slots + rm.slots) Q (F0 m (pc + 3) ls (rv.toList ++ rest))) : W p l e R s m #[Value.ref b] below meth c H locs cells slots Q (F0 m pc ls st0) := by
  have F0_ := F
  obtain ⟨hx, hb, hml, hown, hts, hK, hN, -, hAO, hA⟩ := F
  obtain ⟨hc, hi, hsel, hini, hd, hcl, hci⟩ := G
  have tw : ∀ w ∈ gw, w.before #[Value.ref b] s = true := fun w hw => hts w (gw_tbl w hw)
  obtain ⟨qv, hqv, hqC⟩ : ∃ q, vwCl[ci]? = some q ∧ q.1 = C := by
    cases hq : vwCl[ci]? with
    | none => rw [hq] at hcl; cases hcl
    | some q => rw [hq] at hcl; exact ⟨q, rfl, Option.some.inj hcl⟩
  obtain ⟨q, hq⟩ := va_pl_get (X := []) (f := ent cy h1) (M.2.2.2.2.2.2.1 bq (by omega))
  rw [ent_o hkb hci] at hq
  have hrec := va_recv hK M.1 hqv hq
  rw [hqC] at hrec
  exact l2_goP (va_runV (As := As) (rest := rest) ⟨hx, hb, hml, hown, hts⟩ hM ⟨callB_of np hts (goodL hc) rfl rfl rfl (tw _ hini) (tw _ hlk) hd hR, tw _ hi, tw _ hsel⟩ ⟨PrP_blind, hrec, fun U hU hW => ⟨M.pre F0_ U hU hW, hAO.moved hW.alike⟩⟩ rfl hn hl hst0 (lv_room hst) hdg hf) M hA kk
end LW
/-- what must hold for the law to answer true, from the place i of its script on -/
def s_law (N L : Nat) (xs : Nat → Int32) (x m : Nat) : Nat → Int32 → IH → IH → Prop
  | 0, _, _, _ => False
  | n + 1, i, hx9, hm9 => if nI L - 6 < i then True else if (xs i.toNatClampNeg &&& 31) = 0 then bP (cV hx9 11 (some x) fun a2 => s_X11_feed N hx9 a2 (xs (i + 1).toNatClampNeg) (xs (i + 2).toNatClampNeg) (xs (i + 3).toNatClampNeg) (xs (i + 4).toNatClampNeg) (xs (i + 5).toNatClampNeg)) fun v1 => bP (cV hm9 12 (some m) fun a4 => s_X12_feed N hm9 a4 (xs (i + 1).toNatClampNeg) (xs (i + 2).toNatClampNeg) (xs (i + 3).toNatClampNeg) (xs (i + 4).toNatClampNeg) (xs (i + 5).toNatClampNeg)) fun v3 => v1.1 = v3.1 ∧ s_law N L xs x m n (i + 6) v1.2 v3.2 else if (xs i.toNatClampNeg &&& 31) = 1 then bP (cV hx9 11 (some x) fun a2 => s_X11_end hx9 a2 (xs (i + 1).toNatClampNeg)) fun v1 => bP (cV hm9 12 (some m) fun a4 => s_X12_end hm9 a4 (xs (i + 1).toNatClampNeg)) fun v3 => v1.1 = v3.1 ∧ s_law N L xs x m n (i + 6) v1.2 v3.2 else if (xs i.toNatClampNeg &&& 31) = 2 then (kd hx9 x = 12 ∧ s_X11_stationP N hx9 x (xs (i + 1).toNatClampNeg) (xs (i + 2).toNatClampNeg) (xs (i + 3).toNatClampNeg) (xs (i + 4).toNatClampNeg) (fun v1 h3 => bP (cV hm9 12 (some m) fun a5 => s_X12_station N hm9 a5 (xs (i + 1).toNatClampNeg) (xs (i + 2).toNatClampNeg) (xs (i + 3).toNatClampNeg) (xs (i + 4).toNatClampNeg)) fun v4 => v1 = v4.1 ∧ s_law N L xs x m n (i + 6) h3 v4.2)) else if (xs i.toNatClampNeg &&& 31) = 3 then bP (cV hx9 11 (some x) fun a2 => s_X11_join hx9 a2 (xs (i + 1).toNatClampNeg) (xs (i + 2).toNatClampNeg)) fun v1 => bP (cV hm9 12 (some m) fun a4 => s_X12_join N hm9 a4 (xs (i + 1).toNatClampNeg) (xs (i + 2).toNatClampNeg)) fun v3 => v1.1 = v3.1 ∧ s_law N L xs x m n (i + 6) v1.2 v3.2 else if (xs i.toNatClampNeg &&& 31) = 4 then bP (cV hx9 11 (some x) fun a2 => s_X11_log N hx9 a2 (xs (i + 1).toNatClampNeg) (xs (i + 2).toNatClampNeg)) fun v1 => bP (cV hm9 12 (some m) fun a4 => s_X12_log N hm9 a4 (xs (i + 1).toNatClampNeg) (xs (i + 2).toNatClampNeg)) fun v3 => v1.1 = v3.1 ∧ s_law N L xs x m n (i + 6) v1.2 v3.2 else if (xs i.toNatClampNeg &&& 31) = 5 then bP (cV hx9 11 (some x) fun a2 => s_X11_wrong hx9 a2 (xs (i + 1).toNatClampNeg)) fun v1 => bP (cV hm9 12 (some m) fun a4 => s_X12_wrong hm9 a4 (xs (i + 1).toNatClampNeg)) fun v3 => v1 = v3 ∧ s_law N L xs x m n (i + 6) hx9 hm9 else if (xs i.toNatClampNeg &&& 31) = 6 then bP (cV hx9 11 (some x) fun a2 => s_X11_rule N hx9 a2 ) fun v1 => bP (cV hm9 12 (some m) fun a4 => s_X12_rule N hm9 a4 ) fun v3 => v1.1 = v3.1 ∧ s_law N L xs x m n (i + 6) v1.2 v3.2 else if (xs i.toNatClampNeg &&& 31) = 7 then bP (cV hx9 11 (some x) fun a2 => s_X11_window hx9 a2 (xs (i + 1).toNatClampNeg)) fun v1 => bP (cV hm9 12 (some m) fun a4 => s_X12_window hm9 a4 (xs (i + 1).toNatClampNeg)) fun v3 => v1.1 = v3.1 ∧ s_law N L xs x m n (i + 6) v1.2 v3.2 else if (xs i.toNatClampNeg &&& 31) = 8 then bP (cV hx9 11 (some x) fun a2 => s_X11_penalty hx9 a2 (xs (i + 1).toNatClampNeg)) fun v1 => bP (cV hm9 12 (some m) fun a4 => s_X12_penalty hm9 a4 (xs (i + 1).toNatClampNeg)) fun v3 => v1.1 = v3.1 ∧ s_law N L xs x m n (i + 6) v1.2 v3.2 else if (xs i.toNatClampNeg &&& 31) = 9 then bP (cV hx9 11 (some x) fun a2 => s_X11_lines hx9 a2 (xs (i + 1).toNatClampNeg) (xs (i + 2).toNatClampNeg)) fun v1 => bP (cV hm9 12 (some m) fun a4 => s_X12_lines N hm9 a4 (xs (i + 1).toNatClampNeg) (xs (i + 2).toNatClampNeg)) fun v3 => v1.1 = v3.1 ∧ s_law N L xs x m n (i + 6) v1.2 v3.2 else if (xs i.toNatClampNeg &&& 31) = 10 then bP (cV hx9 11 (some x) fun a2 => s_X11_entry hx9 a2 (xs (i + 1).toNatClampNeg) (xs (i + 2).toNatClampNeg) (xs (i + 3).toNatClampNeg)) fun v1 => bP (cV hm9 12 (some m) fun a4 => s_X12_entry N hm9 a4 (xs (i + 1).toNatClampNeg) (xs (i + 2).toNatClampNeg) (xs (i + 3).toNatClampNeg)) fun v3 => v1.1 = v3.1 ∧ s_law N L xs x m n (i + 6) v1.2 v3.2 else if (xs i.toNatClampNeg &&& 31) = 11 then bP (cV hx9 11 (some x) fun a2 => s_X11_moment hx9 a2 (xs (i + 1).toNatClampNeg) (xs (i + 2).toNatClampNeg) (xs (i + 3).toNatClampNeg) (xs (i + 4).toNatClampNeg)) fun v1 => bP (cV hm9 12 (some m) fun a4 => s_X12_moment N hm9 a4 (xs (i + 1).toNatClampNeg) (xs (i + 2).toNatClampNeg) (xs (i + 3).toNatClampNeg) (xs (i + 4).toNatClampNeg)) fun v3 => (lg_cmp v1.1 v3.1) = 0 ∧ s_law N L xs x m n (i + 6) v1.2 v3.2 else if (xs i.toNatClampNeg &&& 31) = 12 then bP (cV hx9 11 (some x) fun a2 => s_X11_character N hx9 a2 (xs (i + 1).toNatClampNeg) (xs (i + 2).toNatClampNeg) (xs (i + 3).toNatClampNeg) (xs (i + 4).toNatClampNeg)) fun v1 => bP (cV hm9 12 (some m) fun a4 => s_X12_character N hm9 a4 (xs (i + 1).toNatClampNeg) (xs (i + 2).toNatClampNeg) (xs (i + 3).toNatClampNeg) (xs (i + 4).toNatClampNeg)) fun v3 => v1.1 = v3.1 ∧ s_law N L xs x m n (i + 6) v1.2 v3.2 else if (xs i.toNatClampNeg &&& 31) = 13 then bP (cV hx9 11 (some x) fun a2 => s_X11_number hx9 a2 (xs (i + 1).toNatClampNeg) (xs (i + 2).toNatClampNeg) (xs (i + 3).toNatClampNeg) (xs (i + 4).toNatClampNeg)) fun v1 => bP (cV hm9 12 (some m) fun a4 => s_X12_number N hm9 a4 (xs (i + 1).toNatClampNeg) (xs (i + 2).toNatClampNeg) (xs (i + 3).toNatClampNeg) (xs (i + 4).toNatClampNeg)) fun v3 => v1.1 = v3.1 ∧ s_law N L xs x m n (i + 6) v1.2 v3.2 else if (xs i.toNatClampNeg &&& 31) = 14 then bP (cV hx9 11 (some x) fun a2 => s_X11_offset N hx9 a2 (xs (i + 1).toNatClampNeg)) fun v1 => bP (cV hm9 12 (some m) fun a4 => s_X12_offset N hm9 a4 (xs (i + 1).toNatClampNeg)) fun v3 => (lg_cmp v1.1 v3.1) = 0 ∧ s_law N L xs x m n (i + 6) v1.2 v3.2 else if (xs i.toNatClampNeg &&& 31) = 15 then bP (cV hx9 11 (some x) fun a2 => s_X11_pair N hx9 a2 (xs (i + 1).toNatClampNeg) (xs (i + 2).toNatClampNeg) (xs (i + 3).toNatClampNeg)) fun v1 => bP (cV hm9 12 (some m) fun a4 => s_X12_pair N hm9 a4 (xs (i + 1).toNatClampNeg) (xs (i + 2).toNatClampNeg) (xs (i + 3).toNatClampNeg)) fun v3 => v1.1 = v3.1 ∧ s_law N L xs x m n (i + 6) v1.2 v3.2 else if (xs i.toNatClampNeg &&& 31) = 16 then bP (cV hx9 11 (some x) fun a2 => s_X11_why N hx9 a2 (xs (i + 1).toNatClampNeg) (xs (i + 2).toNatClampNeg) (xs (i + 3).toNatClampNeg)) fun v1 => bP (cV hm9 12 (some m) fun a4 => s_X12_why N hm9 a4 (xs (i + 1).toNatClampNeg) (xs (i + 2).toNatClampNeg) (xs (i + 3).toNatClampNeg)) fun v3 => v1.1 = v3.1 ∧ s_law N L xs x m n (i + 6) v1.2 v3.2 else if (xs i.toNatClampNeg &&& 31) = 17 then bP (cV hx9 11 (some x) fun a2 => s_X11_meant N hx9 a2 (xs (i + 1).toNatClampNeg) (xs (i + 2).toNatClampNeg) (xs (i + 3).toNatClampNeg)) fun v1 => bP (cV hm9 12 (some m) fun a4 => s_X12_meant N hm9 a4 (xs (i + 1).toNatClampNeg) (xs (i + 2).toNatClampNeg) (xs (i + 3).toNatClampNeg)) fun v3 => v1.1 = v3.1 ∧ s_law N L xs x m n (i + 6) v1.2 v3.2 else if (xs i.toNatClampNeg &&& 31) = 18 then bP (cV hx9 11 (some x) fun a2 => s_X11_points N hx9 a2 (xs (i + 1).toNatClampNeg) (xs (i + 2).toNatClampNeg) (xs (i + 3).toNatClampNeg)) fun v1 => bP (cV hm9 12 (some m) fun a4 => s_X12_points N hm9 a4 (xs (i + 1).toNatClampNeg) (xs (i + 2).toNatClampNeg) (xs (i + 3).toNatClampNeg)) fun v3 => v1.1 = v3.1 ∧ s_law N L xs x m n (i + 6) v1.2 v3.2 else if (xs i.toNatClampNeg &&& 31) = 19 then bP (cV hx9 11 (some x) fun a2 => s_X11_total N hx9 a2 (xs (i + 1).toNatClampNeg)) fun v1 => bP (cV hm9 12 (some m) fun a4 => s_X12_total N hm9 a4 (xs (i + 1).toNatClampNeg)) fun v3 => v1.1 = v3.1 ∧ s_law N L xs x m n (i + 6) v1.2 v3.2 else if (xs i.toNatClampNeg &&& 31) = 20 then bP (cV hx9 11 (some x) fun a2 => s_X11_rate N hx9 a2 (xs (i + 1).toNatClampNeg)) fun v1 => bP (cV hm9 12 (some m) fun a4 => s_X12_rate N hm9 a4 (xs (i + 1).toNatClampNeg)) fun v3 => (lg_cmp v1.1 v3.1) = 0 ∧ s_law N L xs x m n (i + 6) v1.2 v3.2 else if (xs i.toNatClampNeg &&& 31) = 21 then bP (cV hx9 11 (some x) fun a2 => s_X11_place N hx9 a2 (xs (i + 1).toNatClampNeg)) fun v1 => bP (cV hm9 12 (some m) fun a4 => s_X12_place N hm9 a4 (xs (i + 1).toNatClampNeg)) fun v3 => v1.1 = v3.1 ∧ s_law N L xs x m n (i + 6) v1.2 v3.2 else if (xs i.toNatClampNeg &&& 31) = 22 then bP (cV hx9 11 (some x) fun a2 => s_X11_publish N hx9 a2 ) fun v1 => bP (cV hm9 12 (some m) fun a4 => s_X12_publish N hm9 a4 ) fun v3 => v1.1 = v3.1 ∧ s_law N L xs x m n (i + 6) v1.2 v3.2 else if (xs i.toNatClampNeg &&& 31) = 23 then bP (cV hx9 11 (some x) fun a2 => s_X11_known hx9 a2 (xs (i + 1).toNatClampNeg) (xs (i + 2).toNatClampNeg)) fun v1 => bP (cV hm9 12 (some m) fun a4 => s_X12_known N hm9 a4 (xs (i + 1).toNatClampNeg) (xs (i + 2).toNatClampNeg)) fun v3 => v1.1 = v3.1 ∧ s_law N L xs x m n (i + 6) v1.2 v3.2 else if (xs i.toNatClampNeg &&& 31) = 24 then bP (cV hx9 11 (some x) fun a2 => s_X11_finding hx9 a2 ) fun v1 => bP (cV hm9 12 (some m) fun a4 => s_X12_finding hm9 a4 ) fun v3 => v1 = v3 ∧ s_law N L xs x m n (i + 6) hx9 hm9 else if (xs i.toNatClampNeg &&& 31) = 25 then bP (cV hx9 11 (some x) fun a2 => s_X11_count hx9 a2 (xs (i + 1).toNatClampNeg)) fun v1 => bP (cV hm9 12 (some m) fun a4 => s_X12_count hm9 a4 (xs (i + 1).toNatClampNeg)) fun v3 => v1 = v3 ∧ s_law N L xs x m n (i + 6) hx9 hm9 else s_law N L xs x m n (i + 6) hx9 hm9
set_option maxHeartbeats 8000000 in
set_option maxRecDepth 100000 in
theorem w_law {p : Program} {l : Launch} {e : Env} {s : State} {m0 : MethodId} {below : List Frame} {meth : Method} {c : Code} {D : va_G} {cy : Nat → ClassId} {A : Nat → Prop} {b N L x m : Nat} {xs : Nat → Int32} (hL : L ≤ 3072) (hr : meth.sig.returnType = ret) (hlocks : meth.locks = false) (hX : va_X b L xs s s.heap) (hbl : b < s.heap.size) (hbA : ¬ A b) (hAs : ∀ q, A q → s.heap.size ≤ q) (F : Lx p s m0 c D cy A b) : ∀ (n k : Nat) (i : Int32) (hx9 hm9 : IH) (ls : Array Slot) (H : Heap) (locs : List Loc), i = nI (6 * k) → k ≤ 512 → s_law N L xs x m n i hx9 hm9 → lv_has ls 4 [(0, .ref b), (1, .ref x), (2, .ref m), (3, .int i)] → Mo2 D cy A s.heap hx9 hm9 H locs → W p l e room_1 s m0 #[Value.ref b] below meth c H locs (200 + 56 * k) (20000 + 597 * k) (lw_Z below #[Value.ref b] s) (F0 m0 18 ls []) := by
  intro n
  induction n with
  | zero => intro k i hx9 hm9 ls H locs _ _ hs; exact hs.elim
  | succ n ih =>
    intro k i hx9 hm9 ls H locs hi hk hs hl M
    obtain ⟨hx, hb, hml, hown, hts, hK, hN, hSC, hAO, hA⟩ := id F
    rw [s_law.eq_2] at hs
    refine lv_iload_n hx hb dL_law_18 rfl (lv_at hl 3 rfl) ?_
    refine lv_aload_n hx hb dL_law_19 rfl (lv_at hl 0 rfl) ?_
    refine va_slen hx hb hX hbl hbA M.2.2.2.2.2.1 dL_law_20 ?_
    refine lv_bipush (v := 6) hx hb dL_law_21 (by decide) ?_
    refine lv_isub hx hb dL_law_23 ?_
    refine lv_icmp_gt (tgt := 1029) hx hb dL_law_24 (by decide) (fun c1 => ?_) (fun c1 => ?_)
    · refine lv_iconst (v := 1) hx hb dL_law_1029 (by decide) ?_
      refine va_forget (fun q hq => hAs _ (M.2.2.2.2.2.1.2.2 q hq)) ?_
      refine W.widen (k := 600000) (n := 7302250) (by omega) (by omega) ?_
      exact lw_ret hx hb hr hlocks dL_law_1030
    · have c1 : ¬ nI L - 6 < i := c1
      rw [if_neg c1] at hs
      have hkL : 6 * k + 6 ≤ L := by
        have e1 : (nI L - 6).toInt = (L : Int) - 6 := pk_sub_toInt (a := L) (b := 6) (by omega) (by omega)
        have e2 : (nI (6 * k)).toInt = ((6 * k : Nat) : Int) := nI_toInt (by omega)
        rw [hi] at c1
        have c2 := Int.not_lt.mp (fun z => c1 (Int32.lt_iff_toInt_lt.mpr z))
        rw [e1, e2] at c2
        omega
      have hvp : ∀ j : Nat, j < 6 → vp_in (i + nI j) L := fun j hj => by
        rw [hi, nI_add]
        exact vp_in_nI (by omega) (by omega)
      have hv0 : vp_in i L := by
        rw [hi]
        exact vp_in_nI (by omega) (by omega)
      have KB : ∀ (hx8 hm8 : IH) (H : Heap) (locs : List Loc) (ls : Array Slot), s_law N L xs x m n (i + 6) hx8 hm8 → lv_has ls 4 [(0, .ref b), (1, .ref x), (2, .ref m), (3, .int i)] → Mo2 D cy A s.heap hx8 hm8 H locs → W p l e room_1 s m0 #[Value.ref b] below meth c H locs (200 + 56 * (k + 1)) (20000 + 597 * (k + 1)) (lw_Z below #[Value.ref b] s) (F0 m0 1023 ls []) := by
        intro hx8 hm8 H locs ls hs hl M
        refine lv_iinc (v := i + 6) (lv' := [(3, .int (i + 6)), (0, .ref b), (1, .ref x), (2, .ref m)]) hx hb dL_law_1023 hl (k := 3) rfl rfl (by decide) rfl (fun ls hl => ?_)
        refine lv_goto (tgt := 18) hx hb dL_law_1026 (by decide) ?_
        exact ih (k + 1) (i + 6) _ _ _ _ _ (by rw [hi]; exact nI_add (6 * k) 6) (by omega) hs (lv_sub hl [1, 2, 3, 0] rfl) M
      refine lv_aload_n hx hb dL_law_27 rfl (lv_at hl 0 rfl) ?_
      refine lv_iload_n hx hb dL_law_28 rfl (lv_at hl 3 rfl) ?_
      refine va_sld hx hb hX hbl hbA M.2.2.2.2.2.1 hv0 dL_law_29 ?_
      refine lv_bipush (v := 31) hx hb dL_law_30 (by decide) ?_
      refine lv_iand hx hb dL_law_32 ?_
      generalize hsel : (xs i.toNatClampNeg &&& 31) = sel at hs ⊢
      by_cases q0 : sel = 0
      · rw [if_pos q0] at hs
        refine lv_tableIn (tgt := 152) hx hb dL_law_33 (by rw [q0]; decide) (by rw [q0]; decide) (by rw [q0]; rfl) (by decide) ?_
        refine lv_aload_n hx hb dL_law_152 rfl (lv_at hl 1 rfl) ?_
        refine lv_aload_n hx hb dL_law_153 rfl (lv_at hl 0 rfl) ?_
        refine lv_iload_n hx hb dL_law_154 rfl (lv_at hl 3 rfl) ?_
        refine lv_iconst (v := 1) hx hb dL_law_155 (by decide) ?_
        refine lv_iadd hx hb dL_law_156 ?_
        refine va_sld hx hb hX hbl hbA M.2.2.2.2.2.1 (hvp 1 (by decide)) dL_law_157 ?_
        refine lv_aload_n hx hb dL_law_158 rfl (lv_at hl 0 rfl) ?_
        refine lv_iload_n hx hb dL_law_159 rfl (lv_at hl 3 rfl) ?_
        refine lv_iconst (v := 2) hx hb dL_law_160 (by decide) ?_
        refine lv_iadd hx hb dL_law_161 ?_
        refine va_sld hx hb hX hbl hbA M.2.2.2.2.2.1 (hvp 2 (by decide)) dL_law_162 ?_
        refine lv_aload_n hx hb dL_law_163 rfl (lv_at hl 0 rfl) ?_
        refine lv_iload_n hx hb dL_law_164 rfl (lv_at hl 3 rfl) ?_
        refine lv_iconst (v := 3) hx hb dL_law_165 (by decide) ?_
        refine lv_iadd hx hb dL_law_166 ?_
        refine va_sld hx hb hX hbl hbA M.2.2.2.2.2.1 (hvp 3 (by decide)) dL_law_167 ?_
        refine lv_aload_n hx hb dL_law_168 rfl (lv_at hl 0 rfl) ?_
        refine lv_iload_n hx hb dL_law_169 rfl (lv_at hl 3 rfl) ?_
        refine lv_iconst (v := 4) hx hb dL_law_170 (by decide) ?_
        refine lv_iadd hx hb dL_law_171 ?_
        refine va_sld hx hb hX hbl hbA M.2.2.2.2.2.1 (hvp 4 (by decide)) dL_law_172 ?_
        refine lv_aload_n hx hb dL_law_173 rfl (lv_at hl 0 rfl) ?_
        refine lv_iload_n hx hb dL_law_174 rfl (lv_at hl 3 rfl) ?_
        refine lv_iconst (v := 5) hx hb dL_law_175 (by decide) ?_
        refine lv_iadd hx hb dL_law_176 ?_
        refine va_sld hx hb hX hbl hbA M.2.2.2.2.2.1 (hvp 5 (by decide)) dL_law_177 ?_
        obtain ⟨v1, g_v1, hs⟩ := bdP hs
        obtain ⟨a2, e_a2, k_a2, g_v1⟩ := cV_some g_v1
        obtain rfl := Option.some.inj e_a2
        refine l2_V (bq := x) (As := [.int (xs (i + 1).toNatClampNeg), .int (xs (i + 2).toNatClampNeg), .int (xs (i + 3).toNatClampNeg), .int (xs (i + 4).toNatClampNeg), .int (xs (i + 5).toNatClampNeg)]) (rest := []) F M (c_X11_feed g_v1) mf_X11_feed t_373 k_a2 rfl ⟨by decide, by decide⟩ ⟨rfl, rfl⟩ ⟨by dsimp only [room_1]; omega, by dsimp only [room_1]; omega⟩ hl.1 rfl (by decide) dL_law_178 (fun H locs M => ?_)
        refine W.eq (g2 := F0 m0 181 ls [.int v1.1]) rfl ?_
        refine lv_aload_n hx hb dL_law_181 rfl (lv_at hl 2 rfl) ?_
        refine lv_aload_n hx hb dL_law_182 rfl (lv_at hl 0 rfl) ?_
        refine lv_iload_n hx hb dL_law_183 rfl (lv_at hl 3 rfl) ?_
        refine lv_iconst (v := 1) hx hb dL_law_184 (by decide) ?_
        refine lv_iadd hx hb dL_law_185 ?_
        refine va_sld hx hb hX hbl hbA M.2.2.2.2.2.1 (hvp 1 (by decide)) dL_law_186 ?_
        refine lv_aload_n hx hb dL_law_187 rfl (lv_at hl 0 rfl) ?_
        refine lv_iload_n hx hb dL_law_188 rfl (lv_at hl 3 rfl) ?_
        refine lv_iconst (v := 2) hx hb dL_law_189 (by decide) ?_
        refine lv_iadd hx hb dL_law_190 ?_
        refine va_sld hx hb hX hbl hbA M.2.2.2.2.2.1 (hvp 2 (by decide)) dL_law_191 ?_
        refine lv_aload_n hx hb dL_law_192 rfl (lv_at hl 0 rfl) ?_
        refine lv_iload_n hx hb dL_law_193 rfl (lv_at hl 3 rfl) ?_
        refine lv_iconst (v := 3) hx hb dL_law_194 (by decide) ?_
        refine lv_iadd hx hb dL_law_195 ?_
        refine va_sld hx hb hX hbl hbA M.2.2.2.2.2.1 (hvp 3 (by decide)) dL_law_196 ?_
        refine lv_aload_n hx hb dL_law_197 rfl (lv_at hl 0 rfl) ?_
        refine lv_iload_n hx hb dL_law_198 rfl (lv_at hl 3 rfl) ?_
        refine lv_iconst (v := 4) hx hb dL_law_199 (by decide) ?_
        refine lv_iadd hx hb dL_law_200 ?_
        refine va_sld hx hb hX hbl hbA M.2.2.2.2.2.1 (hvp 4 (by decide)) dL_law_201 ?_
        refine lv_aload_n hx hb dL_law_202 rfl (lv_at hl 0 rfl) ?_
        refine lv_iload_n hx hb dL_law_203 rfl (lv_at hl 3 rfl) ?_
        refine lv_iconst (v := 5) hx hb dL_law_204 (by decide) ?_
        refine lv_iadd hx hb dL_law_205 ?_
        refine va_sld hx hb hX hbl hbA M.2.2.2.2.2.1 (hvp 5 (by decide)) dL_law_206 ?_
        obtain ⟨v3, g_v3, hs⟩ := bdP hs
        obtain ⟨a4, e_a4, k_a4, g_v3⟩ := cV_some g_v3
        obtain rfl := Option.some.inj e_a4
        refine l2_V (bq := m) (As := [.int (xs (i + 1).toNatClampNeg), .int (xs (i + 2).toNatClampNeg), .int (xs (i + 3).toNatClampNeg), .int (xs (i + 4).toNatClampNeg), .int (xs (i + 5).toNatClampNeg)]) (rest := [.int v1.1]) F M.swap (c_X12_feed g_v3) mf_X12_feed t_1217 k_a4 rfl ⟨by decide, by decide⟩ ⟨rfl, rfl⟩ ⟨by dsimp only [room_1]; omega, by dsimp only [room_1]; omega⟩ hl.1 rfl (by simp [cat_rf, cat_i, cat_j, cat_r]) dL_law_207 (fun H locs M => ?_)
        have M := M.swap
        refine W.eq (g2 := F0 m0 210 ls [.int v3.1, .int v1.1]) rfl ?_
        obtain ⟨c9, hs⟩ := hs
        refine lv_icmp_eq (tgt := 1023) hx hb dL_law_210 (by decide) (fun _ => ?_) (fun z9 => absurd c9 z9)
        refine W.widen (k := 200 + 56 * (k + 1)) (n := 20000 + 597 * (k + 1)) (by omega) (by omega) ?_
        exact KB _ _ _ _ ls hs hl M
      rw [if_neg q0] at hs
      by_cases q1 : sel = 1
      · rw [if_pos q1] at hs
        refine lv_tableIn (tgt := 215) hx hb dL_law_33 (by rw [q1]; decide) (by rw [q1]; decide) (by rw [q1]; rfl) (by decide) ?_
        refine lv_aload_n hx hb dL_law_215 rfl (lv_at hl 1 rfl) ?_
        refine lv_aload_n hx hb dL_law_216 rfl (lv_at hl 0 rfl) ?_
        refine lv_iload_n hx hb dL_law_217 rfl (lv_at hl 3 rfl) ?_
        refine lv_iconst (v := 1) hx hb dL_law_218 (by decide) ?_
        refine lv_iadd hx hb dL_law_219 ?_
        refine va_sld hx hb hX hbl hbA M.2.2.2.2.2.1 (hvp 1 (by decide)) dL_law_220 ?_
        obtain ⟨v1, g_v1, hs⟩ := bdP hs
        obtain ⟨a2, e_a2, k_a2, g_v1⟩ := cV_some g_v1
        obtain rfl := Option.some.inj e_a2
        refine l2_V (bq := x) (As := [.int (xs (i + 1).toNatClampNeg)]) (rest := []) F M (c_X11_end g_v1) mf_X11_end t_385 k_a2 rfl ⟨by decide, by decide⟩ ⟨rfl, rfl⟩ ⟨by dsimp only [room_1]; omega, by dsimp only [room_1]; omega⟩ hl.1 rfl (by decide) dL_law_221 (fun H locs M => ?_)
        refine W.eq (g2 := F0 m0 224 ls [.int v1.1]) rfl ?_
        refine lv_aload_n hx hb dL_law_224 rfl (lv_at hl 2 rfl) ?_
        refine lv_aload_n hx hb dL_law_225 rfl (lv_at hl 0 rfl) ?_
        refine lv_iload_n hx hb dL_law_226 rfl (lv_at hl 3 rfl) ?_
        refine lv_iconst (v := 1) hx hb dL_law_227 (by decide) ?_
        refine lv_iadd hx hb dL_law_228 ?_
        refine va_sld hx hb hX hbl hbA M.2.2.2.2.2.1 (hvp 1 (by decide)) dL_law_229 ?_
        obtain ⟨v3, g_v3, hs⟩ := bdP hs
        obtain ⟨a4, e_a4, k_a4, g_v3⟩ := cV_some g_v3
        obtain rfl := Option.some.inj e_a4
        refine l2_V (bq := m) (As := [.int (xs (i + 1).toNatClampNeg)]) (rest := [.int v1.1]) F M.swap (c_X12_end g_v3) mf_X12_end t_1221 k_a4 rfl ⟨by decide, by decide⟩ ⟨rfl, rfl⟩ ⟨by dsimp only [room_1]; omega, by dsimp only [room_1]; omega⟩ hl.1 rfl (by simp [cat_rf, cat_i, cat_j, cat_r]) dL_law_230 (fun H locs M => ?_)
        have M := M.swap
        refine W.eq (g2 := F0 m0 233 ls [.int v3.1, .int v1.1]) rfl ?_
        obtain ⟨c9, hs⟩ := hs
        refine lv_icmp_eq (tgt := 1023) hx hb dL_law_233 (by decide) (fun _ => ?_) (fun z9 => absurd c9 z9)
        refine W.widen (k := 200 + 56 * (k + 1)) (n := 20000 + 597 * (k + 1)) (by omega) (by omega) ?_
        exact KB _ _ _ _ ls hs hl M
      rw [if_neg q1] at hs
      by_cases q2 : sel = 2
      · rw [if_pos q2] at hs
        refine lv_tableIn (tgt := 238) hx hb dL_law_33 (by rw [q2]; decide) (by rw [q2]; decide) (by rw [q2]; rfl) (by decide) ?_
        refine lv_aload_n hx hb dL_law_238 rfl (lv_at hl 1 rfl) ?_
        refine lv_aload_n hx hb dL_law_239 rfl (lv_at hl 0 rfl) ?_
        refine lv_iload_n hx hb dL_law_240 rfl (lv_at hl 3 rfl) ?_
        refine lv_iconst (v := 1) hx hb dL_law_241 (by decide) ?_
        refine lv_iadd hx hb dL_law_242 ?_
        refine va_sld hx hb hX hbl hbA M.2.2.2.2.2.1 (hvp 1 (by decide)) dL_law_243 ?_
        refine lv_aload_n hx hb dL_law_244 rfl (lv_at hl 0 rfl) ?_
        refine lv_iload_n hx hb dL_law_245 rfl (lv_at hl 3 rfl) ?_
        refine lv_iconst (v := 2) hx hb dL_law_246 (by decide) ?_
        refine lv_iadd hx hb dL_law_247 ?_
        refine va_sld hx hb hX hbl hbA M.2.2.2.2.2.1 (hvp 2 (by decide)) dL_law_248 ?_
        refine lv_aload_n hx hb dL_law_249 rfl (lv_at hl 0 rfl) ?_
        refine lv_iload_n hx hb dL_law_250 rfl (lv_at hl 3 rfl) ?_
        refine lv_iconst (v := 3) hx hb dL_law_251 (by decide) ?_
        refine lv_iadd hx hb dL_law_252 ?_
        refine va_sld hx hb hX hbl hbA M.2.2.2.2.2.1 (hvp 3 (by decide)) dL_law_253 ?_
        refine lv_aload_n hx hb dL_law_254 rfl (lv_at hl 0 rfl) ?_
        refine lv_iload_n hx hb dL_law_255 rfl (lv_at hl 3 rfl) ?_
        refine lv_iconst (v := 4) hx hb dL_law_256 (by decide) ?_
        refine lv_iadd hx hb dL_law_257 ?_
        refine va_sld hx hb hX hbl hbA M.2.2.2.2.2.1 (hvp 4 (by decide)) dL_law_258 ?_
        obtain ⟨k_a2, hs⟩ := hs
        refine l2_VP (bq := x) (As := [.int (xs (i + 1).toNatClampNeg), .int (xs (i + 2).toNatClampNeg), .int (xs (i + 3).toNatClampNeg), .int (xs (i + 4).toNatClampNeg)]) (rest := []) F M (cP_X11_station hs) mf_X11_station t_389 k_a2 rfl ⟨by decide, by decide⟩ ⟨by dsimp only [rm_X11_station, room_1]; omega, by dsimp only [rm_X11_station, room_1]; omega⟩ hl.1 rfl (by decide) dL_law_259 (fun rv h3 H locs hq M => ?_)
        obtain ⟨v1, rfl, hs⟩ := hq
        refine W.eq (g2 := F0 m0 262 ls [.int v1]) rfl ?_
        refine W.cs (cells' := 200 + 56 * (k + 1)) (slots' := 20000 + 597 * (k + 1)) (by dsimp only [rm_X11_station]; omega) (by dsimp only [rm_X11_station]; omega) ?_
        refine lv_aload_n hx hb dL_law_262 rfl (lv_at hl 2 rfl) ?_
        refine lv_aload_n hx hb dL_law_263 rfl (lv_at hl 0 rfl) ?_
        refine lv_iload_n hx hb dL_law_264 rfl (lv_at hl 3 rfl) ?_
        refine lv_iconst (v := 1) hx hb dL_law_265 (by decide) ?_
        refine lv_iadd hx hb dL_law_266 ?_
        refine va_sld hx hb hX hbl hbA M.2.2.2.2.2.1 (hvp 1 (by decide)) dL_law_267 ?_
        refine lv_aload_n hx hb dL_law_268 rfl (lv_at hl 0 rfl) ?_
        refine lv_iload_n hx hb dL_law_269 rfl (lv_at hl 3 rfl) ?_
        refine lv_iconst (v := 2) hx hb dL_law_270 (by decide) ?_
        refine lv_iadd hx hb dL_law_271 ?_
        refine va_sld hx hb hX hbl hbA M.2.2.2.2.2.1 (hvp 2 (by decide)) dL_law_272 ?_
        refine lv_aload_n hx hb dL_law_273 rfl (lv_at hl 0 rfl) ?_
        refine lv_iload_n hx hb dL_law_274 rfl (lv_at hl 3 rfl) ?_
        refine lv_iconst (v := 3) hx hb dL_law_275 (by decide) ?_
        refine lv_iadd hx hb dL_law_276 ?_
        refine va_sld hx hb hX hbl hbA M.2.2.2.2.2.1 (hvp 3 (by decide)) dL_law_277 ?_
        refine lv_aload_n hx hb dL_law_278 rfl (lv_at hl 0 rfl) ?_
        refine lv_iload_n hx hb dL_law_279 rfl (lv_at hl 3 rfl) ?_
        refine lv_iconst (v := 4) hx hb dL_law_280 (by decide) ?_
        refine lv_iadd hx hb dL_law_281 ?_
        refine va_sld hx hb hX hbl hbA M.2.2.2.2.2.1 (hvp 4 (by decide)) dL_law_282 ?_
        obtain ⟨v4, g_v4, hs⟩ := bdP hs
        obtain ⟨a5, e_a5, k_a5, g_v4⟩ := cV_some g_v4
        obtain rfl := Option.some.inj e_a5
        refine l2_V (bq := m) (As := [.int (xs (i + 1).toNatClampNeg), .int (xs (i + 2).toNatClampNeg), .int (xs (i + 3).toNatClampNeg), .int (xs (i + 4).toNatClampNeg)]) (rest := [.int v1]) F M.swap (c_X12_station g_v4) mf_X12_station t_1228 k_a5 rfl ⟨by decide, by decide⟩ ⟨rfl, rfl⟩ ⟨by dsimp only [room_1]; omega, by dsimp only [room_1]; omega⟩ hl.1 rfl (by simp [cat_rf, cat_i, cat_j, cat_r]) dL_law_283 (fun H locs M => ?_)
        have M := M.swap
        refine W.eq (g2 := F0 m0 286 ls [.int v4.1, .int v1]) rfl ?_
        obtain ⟨c9, hs⟩ := hs
        refine lv_icmp_eq (tgt := 1023) hx hb dL_law_286 (by decide) (fun _ => ?_) (fun z9 => absurd c9 z9)
        exact KB _ _ _ _ ls hs hl M
      rw [if_neg q2] at hs
      by_cases q3 : sel = 3
      · rw [if_pos q3] at hs
        refine lv_tableIn (tgt := 291) hx hb dL_law_33 (by rw [q3]; decide) (by rw [q3]; decide) (by rw [q3]; rfl) (by decide) ?_
        refine lv_aload_n hx hb dL_law_291 rfl (lv_at hl 1 rfl) ?_
        refine lv_aload_n hx hb dL_law_292 rfl (lv_at hl 0 rfl) ?_
        refine lv_iload_n hx hb dL_law_293 rfl (lv_at hl 3 rfl) ?_
        refine lv_iconst (v := 1) hx hb dL_law_294 (by decide) ?_
        refine lv_iadd hx hb dL_law_295 ?_
        refine va_sld hx hb hX hbl hbA M.2.2.2.2.2.1 (hvp 1 (by decide)) dL_law_296 ?_
        refine lv_aload_n hx hb dL_law_297 rfl (lv_at hl 0 rfl) ?_
        refine lv_iload_n hx hb dL_law_298 rfl (lv_at hl 3 rfl) ?_
        refine lv_iconst (v := 2) hx hb dL_law_299 (by decide) ?_
        refine lv_iadd hx hb dL_law_300 ?_
        refine va_sld hx hb hX hbl hbA M.2.2.2.2.2.1 (hvp 2 (by decide)) dL_law_301 ?_
        obtain ⟨v1, g_v1, hs⟩ := bdP hs
        obtain ⟨a2, e_a2, k_a2, g_v1⟩ := cV_some g_v1
        obtain rfl := Option.some.inj e_a2
        refine l2_V (bq := x) (As := [.int (xs (i + 1).toNatClampNeg), .int (xs (i + 2).toNatClampNeg)]) (rest := []) F M (c_X11_join g_v1) mf_X11_join t_463 k_a2 rfl ⟨by decide, by decide⟩ ⟨rfl, rfl⟩ ⟨by dsimp only [room_1]; omega, by dsimp only [room_1]; omega⟩ hl.1 rfl (by decide) dL_law_302 (fun H locs M => ?_)
        refine W.eq (g2 := F0 m0 305 ls [.int v1.1]) rfl ?_
        refine lv_aload_n hx hb dL_law_305 rfl (lv_at hl 2 rfl) ?_
        refine lv_aload_n hx hb dL_law_306 rfl (lv_at hl 0 rfl) ?_
        refine lv_iload_n hx hb dL_law_307 rfl (lv_at hl 3 rfl) ?_
        refine lv_iconst (v := 1) hx hb dL_law_308 (by decide) ?_
        refine lv_iadd hx hb dL_law_309 ?_
        refine va_sld hx hb hX hbl hbA M.2.2.2.2.2.1 (hvp 1 (by decide)) dL_law_310 ?_
        refine lv_aload_n hx hb dL_law_311 rfl (lv_at hl 0 rfl) ?_
        refine lv_iload_n hx hb dL_law_312 rfl (lv_at hl 3 rfl) ?_
        refine lv_iconst (v := 2) hx hb dL_law_313 (by decide) ?_
        refine lv_iadd hx hb dL_law_314 ?_
        refine va_sld hx hb hX hbl hbA M.2.2.2.2.2.1 (hvp 2 (by decide)) dL_law_315 ?_
        obtain ⟨v3, g_v3, hs⟩ := bdP hs
        obtain ⟨a4, e_a4, k_a4, g_v3⟩ := cV_some g_v3
        obtain rfl := Option.some.inj e_a4
        refine l2_V (bq := m) (As := [.int (xs (i + 1).toNatClampNeg), .int (xs (i + 2).toNatClampNeg)]) (rest := [.int v1.1]) F M.swap (c_X12_join g_v3) mf_X12_join t_1255 k_a4 rfl ⟨by decide, by decide⟩ ⟨rfl, rfl⟩ ⟨by dsimp only [room_1]; omega, by dsimp only [room_1]; omega⟩ hl.1 rfl (by simp [cat_rf, cat_i, cat_j, cat_r]) dL_law_316 (fun H locs M => ?_)
        have M := M.swap
        refine W.eq (g2 := F0 m0 319 ls [.int v3.1, .int v1.1]) rfl ?_
        obtain ⟨c9, hs⟩ := hs
        refine lv_icmp_eq (tgt := 1023) hx hb dL_law_319 (by decide) (fun _ => ?_) (fun z9 => absurd c9 z9)
        refine W.widen (k := 200 + 56 * (k + 1)) (n := 20000 + 597 * (k + 1)) (by omega) (by omega) ?_
        exact KB _ _ _ _ ls hs hl M
      rw [if_neg q3] at hs
      by_cases q4 : sel = 4
      · rw [if_pos q4] at hs
        refine lv_tableIn (tgt := 324) hx hb dL_law_33 (by rw [q4]; decide) (by rw [q4]; decide) (by rw [q4]; rfl) (by decide) ?_
        refine lv_aload_n hx hb dL_law_324 rfl (lv_at hl 1 rfl) ?_
        refine lv_aload_n hx hb dL_law_325 rfl (lv_at hl 0 rfl) ?_
        refine lv_iload_n hx hb dL_law_326 rfl (lv_at hl 3 rfl) ?_
        refine lv_iconst (v := 1) hx hb dL_law_327 (by decide) ?_
        refine lv_iadd hx hb dL_law_328 ?_
        refine va_sld hx hb hX hbl hbA M.2.2.2.2.2.1 (hvp 1 (by decide)) dL_law_329 ?_
        refine lv_aload_n hx hb dL_law_330 rfl (lv_at hl 0 rfl) ?_
        refine lv_iload_n hx hb dL_law_331 rfl (lv_at hl 3 rfl) ?_
        refine lv_iconst (v := 2) hx hb dL_law_332 (by decide) ?_
        refine lv_iadd hx hb dL_law_333 ?_
        refine va_sld hx hb hX hbl hbA M.2.2.2.2.2.1 (hvp 2 (by decide)) dL_law_334 ?_
        obtain ⟨v1, g_v1, hs⟩ := bdP hs
        obtain ⟨a2, e_a2, k_a2, g_v1⟩ := cV_some g_v1
        obtain rfl := Option.some.inj e_a2
        refine l2_V (bq := x) (As := [.int (xs (i + 1).toNatClampNeg), .int (xs (i + 2).toNatClampNeg)]) (rest := []) F M (c_X11_log g_v1) mf_X11_log t_471 k_a2 rfl ⟨by decide, by decide⟩ ⟨rfl, rfl⟩ ⟨by dsimp only [room_1]; omega, by dsimp only [room_1]; omega⟩ hl.1 rfl (by decide) dL_law_335 (fun H locs M => ?_)
        refine W.eq (g2 := F0 m0 338 ls [.int v1.1]) rfl ?_
        refine lv_aload_n hx hb dL_law_338 rfl (lv_at hl 2 rfl) ?_
        refine lv_aload_n hx hb dL_law_339 rfl (lv_at hl 0 rfl) ?_
        refine lv_iload_n hx hb dL_law_340 rfl (lv_at hl 3 rfl) ?_
        refine lv_iconst (v := 1) hx hb dL_law_341 (by decide) ?_
        refine lv_iadd hx hb dL_law_342 ?_
        refine va_sld hx hb hX hbl hbA M.2.2.2.2.2.1 (hvp 1 (by decide)) dL_law_343 ?_
        refine lv_aload_n hx hb dL_law_344 rfl (lv_at hl 0 rfl) ?_
        refine lv_iload_n hx hb dL_law_345 rfl (lv_at hl 3 rfl) ?_
        refine lv_iconst (v := 2) hx hb dL_law_346 (by decide) ?_
        refine lv_iadd hx hb dL_law_347 ?_
        refine va_sld hx hb hX hbl hbA M.2.2.2.2.2.1 (hvp 2 (by decide)) dL_law_348 ?_
        obtain ⟨v3, g_v3, hs⟩ := bdP hs
        obtain ⟨a4, e_a4, k_a4, g_v3⟩ := cV_some g_v3
        obtain rfl := Option.some.inj e_a4
        refine l2_V (bq := m) (As := [.int (xs (i + 1).toNatClampNeg), .int (xs (i + 2).toNatClampNeg)]) (rest := [.int v1.1]) F M.swap (c_X12_log g_v3) mf_X12_log t_1263 k_a4 rfl ⟨by decide, by decide⟩ ⟨rfl, rfl⟩ ⟨by dsimp only [room_1]; omega, by dsimp only [room_1]; omega⟩ hl.1 rfl (by simp [cat_rf, cat_i, cat_j, cat_r]) dL_law_349 (fun H locs M => ?_)
        have M := M.swap
        refine W.eq (g2 := F0 m0 352 ls [.int v3.1, .int v1.1]) rfl ?_
        obtain ⟨c9, hs⟩ := hs
        refine lv_icmp_eq (tgt := 1023) hx hb dL_law_352 (by decide) (fun _ => ?_) (fun z9 => absurd c9 z9)
        refine W.widen (k := 200 + 56 * (k + 1)) (n := 20000 + 597 * (k + 1)) (by omega) (by omega) ?_
        exact KB _ _ _ _ ls hs hl M
      rw [if_neg q4] at hs
      by_cases q5 : sel = 5
      · rw [if_pos q5] at hs
        refine lv_tableIn (tgt := 357) hx hb dL_law_33 (by rw [q5]; decide) (by rw [q5]; decide) (by rw [q5]; rfl) (by decide) ?_
        refine lv_aload_n hx hb dL_law_357 rfl (lv_at hl 1 rfl) ?_
        refine lv_aload_n hx hb dL_law_358 rfl (lv_at hl 0 rfl) ?_
        refine lv_iload_n hx hb dL_law_359 rfl (lv_at hl 3 rfl) ?_
        refine lv_iconst (v := 1) hx hb dL_law_360 (by decide) ?_
        refine lv_iadd hx hb dL_law_361 ?_
        refine va_sld hx hb hX hbl hbA M.2.2.2.2.2.1 (hvp 1 (by decide)) dL_law_362 ?_
        obtain ⟨v1, g_v1, hs⟩ := bdP hs
        obtain ⟨a2, e_a2, k_a2, g_v1⟩ := cV_some g_v1
        obtain rfl := Option.some.inj e_a2
        refine l2_V (bq := x) (As := [.int (xs (i + 1).toNatClampNeg)]) (rest := []) F M (c_X11_wrong g_v1) mf_X11_wrong t_591 k_a2 rfl ⟨by decide, by decide⟩ ⟨rfl, rfl⟩ ⟨by dsimp only [room_1]; omega, by dsimp only [room_1]; omega⟩ hl.1 rfl (by decide) dL_law_363 (fun H locs M => ?_)
        refine W.eq (g2 := F0 m0 366 ls [.int v1]) rfl ?_
        refine lv_aload_n hx hb dL_law_366 rfl (lv_at hl 2 rfl) ?_
        refine lv_aload_n hx hb dL_law_367 rfl (lv_at hl 0 rfl) ?_
        refine lv_iload_n hx hb dL_law_368 rfl (lv_at hl 3 rfl) ?_
        refine lv_iconst (v := 1) hx hb dL_law_369 (by decide) ?_
        refine lv_iadd hx hb dL_law_370 ?_
        refine va_sld hx hb hX hbl hbA M.2.2.2.2.2.1 (hvp 1 (by decide)) dL_law_371 ?_
        obtain ⟨v3, g_v3, hs⟩ := bdP hs
        obtain ⟨a4, e_a4, k_a4, g_v3⟩ := cV_some g_v3
        obtain rfl := Option.some.inj e_a4
        refine l2_V (bq := m) (As := [.int (xs (i + 1).toNatClampNeg)]) (rest := [.int v1]) F M.swap (c_X12_wrong g_v3) mf_X12_wrong t_1305 k_a4 rfl ⟨by decide, by decide⟩ ⟨rfl, rfl⟩ ⟨by dsimp only [room_1]; omega, by dsimp only [room_1]; omega⟩ hl.1 rfl (by simp [cat_rf, cat_i, cat_j, cat_r]) dL_law_372 (fun H locs M => ?_)
        have M := M.swap
        refine W.eq (g2 := F0 m0 375 ls [.int v3, .int v1]) rfl ?_
        obtain ⟨c9, hs⟩ := hs
        refine lv_icmp_eq (tgt := 1023) hx hb dL_law_375 (by decide) (fun _ => ?_) (fun z9 => absurd c9 z9)
        refine W.widen (k := 200 + 56 * (k + 1)) (n := 20000 + 597 * (k + 1)) (by omega) (by omega) ?_
        exact KB _ _ _ _ ls hs hl M
      rw [if_neg q5] at hs
      by_cases q6 : sel = 6
      · rw [if_pos q6] at hs
        refine lv_tableIn (tgt := 380) hx hb dL_law_33 (by rw [q6]; decide) (by rw [q6]; decide) (by rw [q6]; rfl) (by decide) ?_
        refine lv_aload_n hx hb dL_law_380 rfl (lv_at hl 1 rfl) ?_
        obtain ⟨v1, g_v1, hs⟩ := bdP hs
        obtain ⟨a2, e_a2, k_a2, g_v1⟩ := cV_some g_v1
        obtain rfl := Option.some.inj e_a2
        refine l2_V (bq := x) (As := []) (rest := []) F M (c_X11_rule g_v1) mf_X11_rule t_595 k_a2 rfl ⟨by decide, by decide⟩ ⟨rfl, rfl⟩ ⟨by dsimp only [room_1]; omega, by dsimp only [room_1]; omega⟩ hl.1 rfl (by decide) dL_law_381 (fun H locs M => ?_)
        refine W.eq (g2 := F0 m0 384 ls [.int v1.1]) rfl ?_
        refine lv_aload_n hx hb dL_law_384 rfl (lv_at hl 2 rfl) ?_
        obtain ⟨v3, g_v3, hs⟩ := bdP hs
        obtain ⟨a4, e_a4, k_a4, g_v3⟩ := cV_some g_v3
        obtain rfl := Option.some.inj e_a4
        refine l2_V (bq := m) (As := []) (rest := [.int v1.1]) F M.swap (c_X12_rule g_v3) mf_X12_rule t_1309 k_a4 rfl ⟨by decide, by decide⟩ ⟨rfl, rfl⟩ ⟨by dsimp only [room_1]; omega, by dsimp only [room_1]; omega⟩ hl.1 rfl (by simp [cat_rf, cat_i, cat_j, cat_r]) dL_law_385 (fun H locs M => ?_)
        have M := M.swap
        refine W.eq (g2 := F0 m0 388 ls [.int v3.1, .int v1.1]) rfl ?_
        obtain ⟨c9, hs⟩ := hs
        refine lv_icmp_eq (tgt := 1023) hx hb dL_law_388 (by decide) (fun _ => ?_) (fun z9 => absurd c9 z9)
        refine W.widen (k := 200 + 56 * (k + 1)) (n := 20000 + 597 * (k + 1)) (by omega) (by omega) ?_
        exact KB _ _ _ _ ls hs hl M
      rw [if_neg q6] at hs
      by_cases q7 : sel = 7
      · rw [if_pos q7] at hs
        refine lv_tableIn (tgt := 393) hx hb dL_law_33 (by rw [q7]; decide) (by rw [q7]; decide) (by rw [q7]; rfl) (by decide) ?_
        refine lv_aload_n hx hb dL_law_393 rfl (lv_at hl 1 rfl) ?_
        refine lv_aload_n hx hb dL_law_394 rfl (lv_at hl 0 rfl) ?_
        refine lv_iload_n hx hb dL_law_395 rfl (lv_at hl 3 rfl) ?_
        refine lv_iconst (v := 1) hx hb dL_law_396 (by decide) ?_
        refine lv_iadd hx hb dL_law_397 ?_
        refine va_sld hx hb hX hbl hbA M.2.2.2.2.2.1 (hvp 1 (by decide)) dL_law_398 ?_
        obtain ⟨v1, g_v1, hs⟩ := bdP hs
        obtain ⟨a2, e_a2, k_a2, g_v1⟩ := cV_some g_v1
        obtain rfl := Option.some.inj e_a2
        refine l2_V (bq := x) (As := [.int (xs (i + 1).toNatClampNeg)]) (rest := []) F M (c_X11_window g_v1) mf_X11_window t_637 k_a2 rfl ⟨by decide, by decide⟩ ⟨rfl, rfl⟩ ⟨by dsimp only [room_1]; omega, by dsimp only [room_1]; omega⟩ hl.1 rfl (by decide) dL_law_399 (fun H locs M => ?_)
        refine W.eq (g2 := F0 m0 402 ls [.int v1.1]) rfl ?_
        refine lv_aload_n hx hb dL_law_402 rfl (lv_at hl 2 rfl) ?_
        refine lv_aload_n hx hb dL_law_403 rfl (lv_at hl 0 rfl) ?_
        refine lv_iload_n hx hb dL_law_404 rfl (lv_at hl 3 rfl) ?_
        refine lv_iconst (v := 1) hx hb dL_law_405 (by decide) ?_
        refine lv_iadd hx hb dL_law_406 ?_
        refine va_sld hx hb hX hbl hbA M.2.2.2.2.2.1 (hvp 1 (by decide)) dL_law_407 ?_
        obtain ⟨v3, g_v3, hs⟩ := bdP hs
        obtain ⟨a4, e_a4, k_a4, g_v3⟩ := cV_some g_v3
        obtain rfl := Option.some.inj e_a4
        refine l2_V (bq := m) (As := [.int (xs (i + 1).toNatClampNeg)]) (rest := [.int v1.1]) F M.swap (c_X12_window g_v3) mf_X12_window t_1326 k_a4 rfl ⟨by decide, by decide⟩ ⟨rfl, rfl⟩ ⟨by dsimp only [room_1]; omega, by dsimp only [room_1]; omega⟩ hl.1 rfl (by simp [cat_rf, cat_i, cat_j, cat_r]) dL_law_408 (fun H locs M => ?_)
        have M := M.swap
        refine W.eq (g2 := F0 m0 411 ls [.int v3.1, .int v1.1]) rfl ?_
        obtain ⟨c9, hs⟩ := hs
        refine lv_icmp_eq (tgt := 1023) hx hb dL_law_411 (by decide) (fun _ => ?_) (fun z9 => absurd c9 z9)
        refine W.widen (k := 200 + 56 * (k + 1)) (n := 20000 + 597 * (k + 1)) (by omega) (by omega) ?_
        exact KB _ _ _ _ ls hs hl M
      rw [if_neg q7] at hs
      by_cases q8 : sel = 8
      · rw [if_pos q8] at hs
        refine lv_tableIn (tgt := 416) hx hb dL_law_33 (by rw [q8]; decide) (by rw [q8]; decide) (by rw [q8]; rfl) (by decide) ?_
        refine lv_aload_n hx hb dL_law_416 rfl (lv_at hl 1 rfl) ?_
        refine lv_aload_n hx hb dL_law_417 rfl (lv_at hl 0 rfl) ?_
        refine lv_iload_n hx hb dL_law_418 rfl (lv_at hl 3 rfl) ?_
        refine lv_iconst (v := 1) hx hb dL_law_419 (by decide) ?_
        refine lv_iadd hx hb dL_law_420 ?_
        refine va_sld hx hb hX hbl hbA M.2.2.2.2.2.1 (hvp 1 (by decide)) dL_law_421 ?_
        obtain ⟨v1, g_v1, hs⟩ := bdP hs
        obtain ⟨a2, e_a2, k_a2, g_v1⟩ := cV_some g_v1
        obtain rfl := Option.some.inj e_a2
        refine l2_V (bq := x) (As := [.int (xs (i + 1).toNatClampNeg)]) (rest := []) F M (c_X11_penalty g_v1) mf_X11_penalty t_645 k_a2 rfl ⟨by decide, by decide⟩ ⟨rfl, rfl⟩ ⟨by dsimp only [room_1]; omega, by dsimp only [room_1]; omega⟩ hl.1 rfl (by decide) dL_law_422 (fun H locs M => ?_)
        refine W.eq (g2 := F0 m0 425 ls [.int v1.1]) rfl ?_
        refine lv_aload_n hx hb dL_law_425 rfl (lv_at hl 2 rfl) ?_
        refine lv_aload_n hx hb dL_law_426 rfl (lv_at hl 0 rfl) ?_
        refine lv_iload_n hx hb dL_law_427 rfl (lv_at hl 3 rfl) ?_
        refine lv_iconst (v := 1) hx hb dL_law_428 (by decide) ?_
        refine lv_iadd hx hb dL_law_429 ?_
        refine va_sld hx hb hX hbl hbA M.2.2.2.2.2.1 (hvp 1 (by decide)) dL_law_430 ?_
        obtain ⟨v3, g_v3, hs⟩ := bdP hs
        obtain ⟨a4, e_a4, k_a4, g_v3⟩ := cV_some g_v3
        obtain rfl := Option.some.inj e_a4
        refine l2_V (bq := m) (As := [.int (xs (i + 1).toNatClampNeg)]) (rest := [.int v1.1]) F M.swap (c_X12_penalty g_v3) mf_X12_penalty t_1331 k_a4 rfl ⟨by decide, by decide⟩ ⟨rfl, rfl⟩ ⟨by dsimp only [room_1]; omega, by dsimp only [room_1]; omega⟩ hl.1 rfl (by simp [cat_rf, cat_i, cat_j, cat_r]) dL_law_431 (fun H locs M => ?_)
        have M := M.swap
        refine W.eq (g2 := F0 m0 434 ls [.int v3.1, .int v1.1]) rfl ?_
        obtain ⟨c9, hs⟩ := hs
        refine lv_icmp_eq (tgt := 1023) hx hb dL_law_434 (by decide) (fun _ => ?_) (fun z9 => absurd c9 z9)
        refine W.widen (k := 200 + 56 * (k + 1)) (n := 20000 + 597 * (k + 1)) (by omega) (by omega) ?_
        exact KB _ _ _ _ ls hs hl M
      rw [if_neg q8] at hs
      by_cases q9 : sel = 9
      · rw [if_pos q9] at hs
        refine lv_tableIn (tgt := 439) hx hb dL_law_33 (by rw [q9]; decide) (by rw [q9]; decide) (by rw [q9]; rfl) (by decide) ?_
        refine lv_aload_n hx hb dL_law_439 rfl (lv_at hl 1 rfl) ?_
        refine lv_aload_n hx hb dL_law_440 rfl (lv_at hl 0 rfl) ?_
        refine lv_iload_n hx hb dL_law_441 rfl (lv_at hl 3 rfl) ?_
        refine lv_iconst (v := 1) hx hb dL_law_442 (by decide) ?_
        refine lv_iadd hx hb dL_law_443 ?_
        refine va_sld hx hb hX hbl hbA M.2.2.2.2.2.1 (hvp 1 (by decide)) dL_law_444 ?_
        refine lv_aload_n hx hb dL_law_445 rfl (lv_at hl 0 rfl) ?_
        refine lv_iload_n hx hb dL_law_446 rfl (lv_at hl 3 rfl) ?_
        refine lv_iconst (v := 2) hx hb dL_law_447 (by decide) ?_
        refine lv_iadd hx hb dL_law_448 ?_
        refine va_sld hx hb hX hbl hbA M.2.2.2.2.2.1 (hvp 2 (by decide)) dL_law_449 ?_
        obtain ⟨v1, g_v1, hs⟩ := bdP hs
        obtain ⟨a2, e_a2, k_a2, g_v1⟩ := cV_some g_v1
        obtain rfl := Option.some.inj e_a2
        refine l2_V (bq := x) (As := [.int (xs (i + 1).toNatClampNeg), .int (xs (i + 2).toNatClampNeg)]) (rest := []) F M (c_X11_lines g_v1) mf_X11_lines t_649 k_a2 rfl ⟨by decide, by decide⟩ ⟨rfl, rfl⟩ ⟨by dsimp only [room_1]; omega, by dsimp only [room_1]; omega⟩ hl.1 rfl (by decide) dL_law_450 (fun H locs M => ?_)
        refine W.eq (g2 := F0 m0 453 ls [.int v1.1]) rfl ?_
        refine lv_aload_n hx hb dL_law_453 rfl (lv_at hl 2 rfl) ?_
        refine lv_aload_n hx hb dL_law_454 rfl (lv_at hl 0 rfl) ?_
        refine lv_iload_n hx hb dL_law_455 rfl (lv_at hl 3 rfl) ?_
        refine lv_iconst (v := 1) hx hb dL_law_456 (by decide) ?_
        refine lv_iadd hx hb dL_law_457 ?_
        refine va_sld hx hb hX hbl hbA M.2.2.2.2.2.1 (hvp 1 (by decide)) dL_law_458 ?_
        refine lv_aload_n hx hb dL_law_459 rfl (lv_at hl 0 rfl) ?_
        refine lv_iload_n hx hb dL_law_460 rfl (lv_at hl 3 rfl) ?_
        refine lv_iconst (v := 2) hx hb dL_law_461 (by decide) ?_
        refine lv_iadd hx hb dL_law_462 ?_
        refine va_sld hx hb hX hbl hbA M.2.2.2.2.2.1 (hvp 2 (by decide)) dL_law_463 ?_
        obtain ⟨v3, g_v3, hs⟩ := bdP hs
        obtain ⟨a4, e_a4, k_a4, g_v3⟩ := cV_some g_v3
        obtain rfl := Option.some.inj e_a4
        refine l2_V (bq := m) (As := [.int (xs (i + 1).toNatClampNeg), .int (xs (i + 2).toNatClampNeg)]) (rest := [.int v1.1]) F M.swap (c_X12_lines g_v3) mf_X12_lines t_1336 k_a4 rfl ⟨by decide, by decide⟩ ⟨rfl, rfl⟩ ⟨by dsimp only [room_1]; omega, by dsimp only [room_1]; omega⟩ hl.1 rfl (by simp [cat_rf, cat_i, cat_j, cat_r]) dL_law_464 (fun H locs M => ?_)
        have M := M.swap
        refine W.eq (g2 := F0 m0 467 ls [.int v3.1, .int v1.1]) rfl ?_
        obtain ⟨c9, hs⟩ := hs
        refine lv_icmp_eq (tgt := 1023) hx hb dL_law_467 (by decide) (fun _ => ?_) (fun z9 => absurd c9 z9)
        refine W.widen (k := 200 + 56 * (k + 1)) (n := 20000 + 597 * (k + 1)) (by omega) (by omega) ?_
        exact KB _ _ _ _ ls hs hl M
      rw [if_neg q9] at hs
      by_cases q10 : sel = 10
      · rw [if_pos q10] at hs
        refine lv_tableIn (tgt := 472) hx hb dL_law_33 (by rw [q10]; decide) (by rw [q10]; decide) (by rw [q10]; rfl) (by decide) ?_
        refine lv_aload_n hx hb dL_law_472 rfl (lv_at hl 1 rfl) ?_
        refine lv_aload_n hx hb dL_law_473 rfl (lv_at hl 0 rfl) ?_
        refine lv_iload_n hx hb dL_law_474 rfl (lv_at hl 3 rfl) ?_
        refine lv_iconst (v := 1) hx hb dL_law_475 (by decide) ?_
        refine lv_iadd hx hb dL_law_476 ?_
        refine va_sld hx hb hX hbl hbA M.2.2.2.2.2.1 (hvp 1 (by decide)) dL_law_477 ?_
        refine lv_aload_n hx hb dL_law_478 rfl (lv_at hl 0 rfl) ?_
        refine lv_iload_n hx hb dL_law_479 rfl (lv_at hl 3 rfl) ?_
        refine lv_iconst (v := 2) hx hb dL_law_480 (by decide) ?_
        refine lv_iadd hx hb dL_law_481 ?_
        refine va_sld hx hb hX hbl hbA M.2.2.2.2.2.1 (hvp 2 (by decide)) dL_law_482 ?_
        refine lv_aload_n hx hb dL_law_483 rfl (lv_at hl 0 rfl) ?_
        refine lv_iload_n hx hb dL_law_484 rfl (lv_at hl 3 rfl) ?_
        refine lv_iconst (v := 3) hx hb dL_law_485 (by decide) ?_
        refine lv_iadd hx hb dL_law_486 ?_
        refine va_sld hx hb hX hbl hbA M.2.2.2.2.2.1 (hvp 3 (by decide)) dL_law_487 ?_
        obtain ⟨v1, g_v1, hs⟩ := bdP hs
        obtain ⟨a2, e_a2, k_a2, g_v1⟩ := cV_some g_v1
        obtain rfl := Option.some.inj e_a2
        refine l2_V (bq := x) (As := [.int (xs (i + 1).toNatClampNeg), .int (xs (i + 2).toNatClampNeg), .int (xs (i + 3).toNatClampNeg)]) (rest := []) F M (c_X11_entry g_v1) mf_X11_entry t_669 k_a2 rfl ⟨by decide, by decide⟩ ⟨rfl, rfl⟩ ⟨by dsimp only [room_1]; omega, by dsimp only [room_1]; omega⟩ hl.1 rfl (by decide) dL_law_488 (fun H locs M => ?_)
        refine W.eq (g2 := F0 m0 491 ls [.int v1.1]) rfl ?_
        refine lv_aload_n hx hb dL_law_491 rfl (lv_at hl 2 rfl) ?_
        refine lv_aload_n hx hb dL_law_492 rfl (lv_at hl 0 rfl) ?_
        refine lv_iload_n hx hb dL_law_493 rfl (lv_at hl 3 rfl) ?_
        refine lv_iconst (v := 1) hx hb dL_law_494 (by decide) ?_
        refine lv_iadd hx hb dL_law_495 ?_
        refine va_sld hx hb hX hbl hbA M.2.2.2.2.2.1 (hvp 1 (by decide)) dL_law_496 ?_
        refine lv_aload_n hx hb dL_law_497 rfl (lv_at hl 0 rfl) ?_
        refine lv_iload_n hx hb dL_law_498 rfl (lv_at hl 3 rfl) ?_
        refine lv_iconst (v := 2) hx hb dL_law_499 (by decide) ?_
        refine lv_iadd hx hb dL_law_500 ?_
        refine va_sld hx hb hX hbl hbA M.2.2.2.2.2.1 (hvp 2 (by decide)) dL_law_501 ?_
        refine lv_aload_n hx hb dL_law_502 rfl (lv_at hl 0 rfl) ?_
        refine lv_iload_n hx hb dL_law_503 rfl (lv_at hl 3 rfl) ?_
        refine lv_iconst (v := 3) hx hb dL_law_504 (by decide) ?_
        refine lv_iadd hx hb dL_law_505 ?_
        refine va_sld hx hb hX hbl hbA M.2.2.2.2.2.1 (hvp 3 (by decide)) dL_law_506 ?_
        obtain ⟨v3, g_v3, hs⟩ := bdP hs
        obtain ⟨a4, e_a4, k_a4, g_v3⟩ := cV_some g_v3
        obtain rfl := Option.some.inj e_a4
        refine l2_V (bq := m) (As := [.int (xs (i + 1).toNatClampNeg), .int (xs (i + 2).toNatClampNeg), .int (xs (i + 3).toNatClampNeg)]) (rest := [.int v1.1]) F M.swap (c_X12_entry g_v3) mf_X12_entry t_1412 k_a4 rfl ⟨by decide, by decide⟩ ⟨rfl, rfl⟩ ⟨by dsimp only [room_1]; omega, by dsimp only [room_1]; omega⟩ hl.1 rfl (by simp [cat_rf, cat_i, cat_j, cat_r]) dL_law_507 (fun H locs M => ?_)
        have M := M.swap
        refine W.eq (g2 := F0 m0 510 ls [.int v3.1, .int v1.1]) rfl ?_
        obtain ⟨c9, hs⟩ := hs
        refine lv_icmp_eq (tgt := 1023) hx hb dL_law_510 (by decide) (fun _ => ?_) (fun z9 => absurd c9 z9)
        refine W.widen (k := 200 + 56 * (k + 1)) (n := 20000 + 597 * (k + 1)) (by omega) (by omega) ?_
        exact KB _ _ _ _ ls hs hl M
      rw [if_neg q10] at hs
      by_cases q11 : sel = 11
      · rw [if_pos q11] at hs
        refine lv_tableIn (tgt := 515) hx hb dL_law_33 (by rw [q11]; decide) (by rw [q11]; decide) (by rw [q11]; rfl) (by decide) ?_
        refine lv_aload_n hx hb dL_law_515 rfl (lv_at hl 1 rfl) ?_
        refine lv_aload_n hx hb dL_law_516 rfl (lv_at hl 0 rfl) ?_
        refine lv_iload_n hx hb dL_law_517 rfl (lv_at hl 3 rfl) ?_
        refine lv_iconst (v := 1) hx hb dL_law_518 (by decide) ?_
        refine lv_iadd hx hb dL_law_519 ?_
        refine va_sld hx hb hX hbl hbA M.2.2.2.2.2.1 (hvp 1 (by decide)) dL_law_520 ?_
        refine lv_aload_n hx hb dL_law_521 rfl (lv_at hl 0 rfl) ?_
        refine lv_iload_n hx hb dL_law_522 rfl (lv_at hl 3 rfl) ?_
        refine lv_iconst (v := 2) hx hb dL_law_523 (by decide) ?_
        refine lv_iadd hx hb dL_law_524 ?_
        refine va_sld hx hb hX hbl hbA M.2.2.2.2.2.1 (hvp 2 (by decide)) dL_law_525 ?_
        refine lv_aload_n hx hb dL_law_526 rfl (lv_at hl 0 rfl) ?_
        refine lv_iload_n hx hb dL_law_527 rfl (lv_at hl 3 rfl) ?_
        refine lv_iconst (v := 3) hx hb dL_law_528 (by decide) ?_
        refine lv_iadd hx hb dL_law_529 ?_
        refine va_sld hx hb hX hbl hbA M.2.2.2.2.2.1 (hvp 3 (by decide)) dL_law_530 ?_
        refine lv_aload_n hx hb dL_law_531 rfl (lv_at hl 0 rfl) ?_
        refine lv_iload_n hx hb dL_law_532 rfl (lv_at hl 3 rfl) ?_
        refine lv_iconst (v := 4) hx hb dL_law_533 (by decide) ?_
        refine lv_iadd hx hb dL_law_534 ?_
        refine va_sld hx hb hX hbl hbA M.2.2.2.2.2.1 (hvp 4 (by decide)) dL_law_535 ?_
        obtain ⟨v1, g_v1, hs⟩ := bdP hs
        obtain ⟨a2, e_a2, k_a2, g_v1⟩ := cV_some g_v1
        obtain rfl := Option.some.inj e_a2
        refine l2_V (bq := x) (As := [.int (xs (i + 1).toNatClampNeg), .int (xs (i + 2).toNatClampNeg), .int (xs (i + 3).toNatClampNeg), .int (xs (i + 4).toNatClampNeg)]) (rest := []) F M (c_X11_moment g_v1) mf_X11_moment t_681 k_a2 rfl ⟨by decide, by decide⟩ ⟨rfl, rfl⟩ ⟨by dsimp only [room_1]; omega, by dsimp only [room_1]; omega⟩ hl.1 rfl (by decide) dL_law_536 (fun H locs M => ?_)
        refine W.eq (g2 := F0 m0 539 ls [.long v1.1]) rfl ?_
        refine lv_aload_n hx hb dL_law_539 rfl (lv_at hl 2 rfl) ?_
        refine lv_aload_n hx hb dL_law_540 rfl (lv_at hl 0 rfl) ?_
        refine lv_iload_n hx hb dL_law_541 rfl (lv_at hl 3 rfl) ?_
        refine lv_iconst (v := 1) hx hb dL_law_542 (by decide) ?_
        refine lv_iadd hx hb dL_law_543 ?_
        refine va_sld hx hb hX hbl hbA M.2.2.2.2.2.1 (hvp 1 (by decide)) dL_law_544 ?_
        refine lv_aload_n hx hb dL_law_545 rfl (lv_at hl 0 rfl) ?_
        refine lv_iload_n hx hb dL_law_546 rfl (lv_at hl 3 rfl) ?_
        refine lv_iconst (v := 2) hx hb dL_law_547 (by decide) ?_
        refine lv_iadd hx hb dL_law_548 ?_
        refine va_sld hx hb hX hbl hbA M.2.2.2.2.2.1 (hvp 2 (by decide)) dL_law_549 ?_
        refine lv_aload_n hx hb dL_law_550 rfl (lv_at hl 0 rfl) ?_
        refine lv_iload_n hx hb dL_law_551 rfl (lv_at hl 3 rfl) ?_
        refine lv_iconst (v := 3) hx hb dL_law_552 (by decide) ?_
        refine lv_iadd hx hb dL_law_553 ?_
        refine va_sld hx hb hX hbl hbA M.2.2.2.2.2.1 (hvp 3 (by decide)) dL_law_554 ?_
        refine lv_aload_n hx hb dL_law_555 rfl (lv_at hl 0 rfl) ?_
        refine lv_iload_n hx hb dL_law_556 rfl (lv_at hl 3 rfl) ?_
        refine lv_iconst (v := 4) hx hb dL_law_557 (by decide) ?_
        refine lv_iadd hx hb dL_law_558 ?_
        refine va_sld hx hb hX hbl hbA M.2.2.2.2.2.1 (hvp 4 (by decide)) dL_law_559 ?_
        obtain ⟨v3, g_v3, hs⟩ := bdP hs
        obtain ⟨a4, e_a4, k_a4, g_v3⟩ := cV_some g_v3
        obtain rfl := Option.some.inj e_a4
        refine l2_V (bq := m) (As := [.int (xs (i + 1).toNatClampNeg), .int (xs (i + 2).toNatClampNeg), .int (xs (i + 3).toNatClampNeg), .int (xs (i + 4).toNatClampNeg)]) (rest := [.long v1.1]) F M.swap (c_X12_moment g_v3) mf_X12_moment t_1423 k_a4 rfl ⟨by decide, by decide⟩ ⟨rfl, rfl⟩ ⟨by dsimp only [room_1]; omega, by dsimp only [room_1]; omega⟩ hl.1 rfl (by simp [cat_rf, cat_i, cat_j, cat_r]) dL_law_560 (fun H locs M => ?_)
        have M := M.swap
        refine W.eq (g2 := F0 m0 563 ls [.long v3.1, .long v1.1]) rfl ?_
        refine W.lcmp hx hb dL_law_563 ?_
        obtain ⟨c9, hs⟩ := hs
        refine lv_if_eq (tgt := 1023) hx hb dL_law_564 (by decide) (fun _ => ?_) (fun z9 => absurd c9 z9)
        refine W.widen (k := 200 + 56 * (k + 1)) (n := 20000 + 597 * (k + 1)) (by omega) (by omega) ?_
        exact KB _ _ _ _ ls hs hl M
      rw [if_neg q11] at hs
      by_cases q12 : sel = 12
      · rw [if_pos q12] at hs
        refine lv_tableIn (tgt := 569) hx hb dL_law_33 (by rw [q12]; decide) (by rw [q12]; decide) (by rw [q12]; rfl) (by decide) ?_
        refine lv_aload_n hx hb dL_law_569 rfl (lv_at hl 1 rfl) ?_
        refine lv_aload_n hx hb dL_law_570 rfl (lv_at hl 0 rfl) ?_
        refine lv_iload_n hx hb dL_law_571 rfl (lv_at hl 3 rfl) ?_
        refine lv_iconst (v := 1) hx hb dL_law_572 (by decide) ?_
        refine lv_iadd hx hb dL_law_573 ?_
        refine va_sld hx hb hX hbl hbA M.2.2.2.2.2.1 (hvp 1 (by decide)) dL_law_574 ?_
        refine lv_aload_n hx hb dL_law_575 rfl (lv_at hl 0 rfl) ?_
        refine lv_iload_n hx hb dL_law_576 rfl (lv_at hl 3 rfl) ?_
        refine lv_iconst (v := 2) hx hb dL_law_577 (by decide) ?_
        refine lv_iadd hx hb dL_law_578 ?_
        refine va_sld hx hb hX hbl hbA M.2.2.2.2.2.1 (hvp 2 (by decide)) dL_law_579 ?_
        refine lv_aload_n hx hb dL_law_580 rfl (lv_at hl 0 rfl) ?_
        refine lv_iload_n hx hb dL_law_581 rfl (lv_at hl 3 rfl) ?_
        refine lv_iconst (v := 3) hx hb dL_law_582 (by decide) ?_
        refine lv_iadd hx hb dL_law_583 ?_
        refine va_sld hx hb hX hbl hbA M.2.2.2.2.2.1 (hvp 3 (by decide)) dL_law_584 ?_
        refine lv_aload_n hx hb dL_law_585 rfl (lv_at hl 0 rfl) ?_
        refine lv_iload_n hx hb dL_law_586 rfl (lv_at hl 3 rfl) ?_
        refine lv_iconst (v := 4) hx hb dL_law_587 (by decide) ?_
        refine lv_iadd hx hb dL_law_588 ?_
        refine va_sld hx hb hX hbl hbA M.2.2.2.2.2.1 (hvp 4 (by decide)) dL_law_589 ?_
        obtain ⟨v1, g_v1, hs⟩ := bdP hs
        obtain ⟨a2, e_a2, k_a2, g_v1⟩ := cV_some g_v1
        obtain rfl := Option.some.inj e_a2
        refine l2_V (bq := x) (As := [.int (xs (i + 1).toNatClampNeg), .int (xs (i + 2).toNatClampNeg), .int (xs (i + 3).toNatClampNeg), .int (xs (i + 4).toNatClampNeg)]) (rest := []) F M (c_X11_character g_v1) mf_X11_character t_689 k_a2 rfl ⟨by decide, by decide⟩ ⟨rfl, rfl⟩ ⟨by dsimp only [room_1]; omega, by dsimp only [room_1]; omega⟩ hl.1 rfl (by decide) dL_law_590 (fun H locs M => ?_)
        refine W.eq (g2 := F0 m0 593 ls [.int v1.1]) rfl ?_
        refine lv_aload_n hx hb dL_law_593 rfl (lv_at hl 2 rfl) ?_
        refine lv_aload_n hx hb dL_law_594 rfl (lv_at hl 0 rfl) ?_
        refine lv_iload_n hx hb dL_law_595 rfl (lv_at hl 3 rfl) ?_
        refine lv_iconst (v := 1) hx hb dL_law_596 (by decide) ?_
        refine lv_iadd hx hb dL_law_597 ?_
        refine va_sld hx hb hX hbl hbA M.2.2.2.2.2.1 (hvp 1 (by decide)) dL_law_598 ?_
        refine lv_aload_n hx hb dL_law_599 rfl (lv_at hl 0 rfl) ?_
        refine lv_iload_n hx hb dL_law_600 rfl (lv_at hl 3 rfl) ?_
        refine lv_iconst (v := 2) hx hb dL_law_601 (by decide) ?_
        refine lv_iadd hx hb dL_law_602 ?_
        refine va_sld hx hb hX hbl hbA M.2.2.2.2.2.1 (hvp 2 (by decide)) dL_law_603 ?_
        refine lv_aload_n hx hb dL_law_604 rfl (lv_at hl 0 rfl) ?_
        refine lv_iload_n hx hb dL_law_605 rfl (lv_at hl 3 rfl) ?_
        refine lv_iconst (v := 3) hx hb dL_law_606 (by decide) ?_
        refine lv_iadd hx hb dL_law_607 ?_
        refine va_sld hx hb hX hbl hbA M.2.2.2.2.2.1 (hvp 3 (by decide)) dL_law_608 ?_
        refine lv_aload_n hx hb dL_law_609 rfl (lv_at hl 0 rfl) ?_
        refine lv_iload_n hx hb dL_law_610 rfl (lv_at hl 3 rfl) ?_
        refine lv_iconst (v := 4) hx hb dL_law_611 (by decide) ?_
        refine lv_iadd hx hb dL_law_612 ?_
        refine va_sld hx hb hX hbl hbA M.2.2.2.2.2.1 (hvp 4 (by decide)) dL_law_613 ?_
        obtain ⟨v3, g_v3, hs⟩ := bdP hs
        obtain ⟨a4, e_a4, k_a4, g_v3⟩ := cV_some g_v3
        obtain rfl := Option.some.inj e_a4
        refine l2_V (bq := m) (As := [.int (xs (i + 1).toNatClampNeg), .int (xs (i + 2).toNatClampNeg), .int (xs (i + 3).toNatClampNeg), .int (xs (i + 4).toNatClampNeg)]) (rest := [.int v1.1]) F M.swap (c_X12_character g_v3) mf_X12_character t_1427 k_a4 rfl ⟨by decide, by decide⟩ ⟨rfl, rfl⟩ ⟨by dsimp only [room_1]; omega, by dsimp only [room_1]; omega⟩ hl.1 rfl (by simp [cat_rf, cat_i, cat_j, cat_r]) dL_law_614 (fun H locs M => ?_)
        have M := M.swap
        refine W.eq (g2 := F0 m0 617 ls [.int v3.1, .int v1.1]) rfl ?_
        obtain ⟨c9, hs⟩ := hs
        refine lv_icmp_eq (tgt := 1023) hx hb dL_law_617 (by decide) (fun _ => ?_) (fun z9 => absurd c9 z9)
        refine W.widen (k := 200 + 56 * (k + 1)) (n := 20000 + 597 * (k + 1)) (by omega) (by omega) ?_
        exact KB _ _ _ _ ls hs hl M
      rw [if_neg q12] at hs
      by_cases q13 : sel = 13
      · rw [if_pos q13] at hs
        refine lv_tableIn (tgt := 622) hx hb dL_law_33 (by rw [q13]; decide) (by rw [q13]; decide) (by rw [q13]; rfl) (by decide) ?_
        refine lv_aload_n hx hb dL_law_622 rfl (lv_at hl 1 rfl) ?_
        refine lv_aload_n hx hb dL_law_623 rfl (lv_at hl 0 rfl) ?_
        refine lv_iload_n hx hb dL_law_624 rfl (lv_at hl 3 rfl) ?_
        refine lv_iconst (v := 1) hx hb dL_law_625 (by decide) ?_
        refine lv_iadd hx hb dL_law_626 ?_
        refine va_sld hx hb hX hbl hbA M.2.2.2.2.2.1 (hvp 1 (by decide)) dL_law_627 ?_
        refine lv_aload_n hx hb dL_law_628 rfl (lv_at hl 0 rfl) ?_
        refine lv_iload_n hx hb dL_law_629 rfl (lv_at hl 3 rfl) ?_
        refine lv_iconst (v := 2) hx hb dL_law_630 (by decide) ?_
        refine lv_iadd hx hb dL_law_631 ?_
        refine va_sld hx hb hX hbl hbA M.2.2.2.2.2.1 (hvp 2 (by decide)) dL_law_632 ?_
        refine lv_aload_n hx hb dL_law_633 rfl (lv_at hl 0 rfl) ?_
        refine lv_iload_n hx hb dL_law_634 rfl (lv_at hl 3 rfl) ?_
        refine lv_iconst (v := 3) hx hb dL_law_635 (by decide) ?_
        refine lv_iadd hx hb dL_law_636 ?_
        refine va_sld hx hb hX hbl hbA M.2.2.2.2.2.1 (hvp 3 (by decide)) dL_law_637 ?_
        refine lv_aload_n hx hb dL_law_638 rfl (lv_at hl 0 rfl) ?_
        refine lv_iload_n hx hb dL_law_639 rfl (lv_at hl 3 rfl) ?_
        refine lv_iconst (v := 4) hx hb dL_law_640 (by decide) ?_
        refine lv_iadd hx hb dL_law_641 ?_
        refine va_sld hx hb hX hbl hbA M.2.2.2.2.2.1 (hvp 4 (by decide)) dL_law_642 ?_
        obtain ⟨v1, g_v1, hs⟩ := bdP hs
        obtain ⟨a2, e_a2, k_a2, g_v1⟩ := cV_some g_v1
        obtain rfl := Option.some.inj e_a2
        refine l2_V (bq := x) (As := [.int (xs (i + 1).toNatClampNeg), .int (xs (i + 2).toNatClampNeg), .int (xs (i + 3).toNatClampNeg), .int (xs (i + 4).toNatClampNeg)]) (rest := []) F M (c_X11_number g_v1) mf_X11_number t_706 k_a2 rfl ⟨by decide, by decide⟩ ⟨rfl, rfl⟩ ⟨by dsimp only [room_1]; omega, by dsimp only [room_1]; omega⟩ hl.1 rfl (by decide) dL_law_643 (fun H locs M => ?_)
        refine W.eq (g2 := F0 m0 646 ls [.int v1.1]) rfl ?_
        refine lv_aload_n hx hb dL_law_646 rfl (lv_at hl 2 rfl) ?_
        refine lv_aload_n hx hb dL_law_647 rfl (lv_at hl 0 rfl) ?_
        refine lv_iload_n hx hb dL_law_648 rfl (lv_at hl 3 rfl) ?_
        refine lv_iconst (v := 1) hx hb dL_law_649 (by decide) ?_
        refine lv_iadd hx hb dL_law_650 ?_
        refine va_sld hx hb hX hbl hbA M.2.2.2.2.2.1 (hvp 1 (by decide)) dL_law_651 ?_
        refine lv_aload_n hx hb dL_law_652 rfl (lv_at hl 0 rfl) ?_
        refine lv_iload_n hx hb dL_law_653 rfl (lv_at hl 3 rfl) ?_
        refine lv_iconst (v := 2) hx hb dL_law_654 (by decide) ?_
        refine lv_iadd hx hb dL_law_655 ?_
        refine va_sld hx hb hX hbl hbA M.2.2.2.2.2.1 (hvp 2 (by decide)) dL_law_656 ?_
        refine lv_aload_n hx hb dL_law_657 rfl (lv_at hl 0 rfl) ?_
        refine lv_iload_n hx hb dL_law_658 rfl (lv_at hl 3 rfl) ?_
        refine lv_iconst (v := 3) hx hb dL_law_659 (by decide) ?_
        refine lv_iadd hx hb dL_law_660 ?_
        refine va_sld hx hb hX hbl hbA M.2.2.2.2.2.1 (hvp 3 (by decide)) dL_law_661 ?_
        refine lv_aload_n hx hb dL_law_662 rfl (lv_at hl 0 rfl) ?_
        refine lv_iload_n hx hb dL_law_663 rfl (lv_at hl 3 rfl) ?_
        refine lv_iconst (v := 4) hx hb dL_law_664 (by decide) ?_
        refine lv_iadd hx hb dL_law_665 ?_
        refine va_sld hx hb hX hbl hbA M.2.2.2.2.2.1 (hvp 4 (by decide)) dL_law_666 ?_
        obtain ⟨v3, g_v3, hs⟩ := bdP hs
        obtain ⟨a4, e_a4, k_a4, g_v3⟩ := cV_some g_v3
        obtain rfl := Option.some.inj e_a4
        refine l2_V (bq := m) (As := [.int (xs (i + 1).toNatClampNeg), .int (xs (i + 2).toNatClampNeg), .int (xs (i + 3).toNatClampNeg), .int (xs (i + 4).toNatClampNeg)]) (rest := [.int v1.1]) F M.swap (c_X12_number g_v3) mf_X12_number t_1435 k_a4 rfl ⟨by decide, by decide⟩ ⟨rfl, rfl⟩ ⟨by dsimp only [room_1]; omega, by dsimp only [room_1]; omega⟩ hl.1 rfl (by simp [cat_rf, cat_i, cat_j, cat_r]) dL_law_667 (fun H locs M => ?_)
        have M := M.swap
        refine W.eq (g2 := F0 m0 670 ls [.int v3.1, .int v1.1]) rfl ?_
        obtain ⟨c9, hs⟩ := hs
        refine lv_icmp_eq (tgt := 1023) hx hb dL_law_670 (by decide) (fun _ => ?_) (fun z9 => absurd c9 z9)
        refine W.widen (k := 200 + 56 * (k + 1)) (n := 20000 + 597 * (k + 1)) (by omega) (by omega) ?_
        exact KB _ _ _ _ ls hs hl M
      rw [if_neg q13] at hs
      by_cases q14 : sel = 14
      · rw [if_pos q14] at hs
        refine lv_tableIn (tgt := 675) hx hb dL_law_33 (by rw [q14]; decide) (by rw [q14]; decide) (by rw [q14]; rfl) (by decide) ?_
        refine lv_aload_n hx hb dL_law_675 rfl (lv_at hl 1 rfl) ?_
        refine lv_aload_n hx hb dL_law_676 rfl (lv_at hl 0 rfl) ?_
        refine lv_iload_n hx hb dL_law_677 rfl (lv_at hl 3 rfl) ?_
        refine lv_iconst (v := 1) hx hb dL_law_678 (by decide) ?_
        refine lv_iadd hx hb dL_law_679 ?_
        refine va_sld hx hb hX hbl hbA M.2.2.2.2.2.1 (hvp 1 (by decide)) dL_law_680 ?_
        obtain ⟨v1, g_v1, hs⟩ := bdP hs
        obtain ⟨a2, e_a2, k_a2, g_v1⟩ := cV_some g_v1
        obtain rfl := Option.some.inj e_a2
        refine l2_V (bq := x) (As := [.int (xs (i + 1).toNatClampNeg)]) (rest := []) F M (c_X11_offset g_v1) mf_X11_offset t_710 k_a2 rfl ⟨by decide, by decide⟩ ⟨rfl, rfl⟩ ⟨by dsimp only [room_1]; omega, by dsimp only [room_1]; omega⟩ hl.1 rfl (by decide) dL_law_681 (fun H locs M => ?_)
        refine W.eq (g2 := F0 m0 684 ls [.long v1.1]) rfl ?_
        refine lv_aload_n hx hb dL_law_684 rfl (lv_at hl 2 rfl) ?_
        refine lv_aload_n hx hb dL_law_685 rfl (lv_at hl 0 rfl) ?_
        refine lv_iload_n hx hb dL_law_686 rfl (lv_at hl 3 rfl) ?_
        refine lv_iconst (v := 1) hx hb dL_law_687 (by decide) ?_
        refine lv_iadd hx hb dL_law_688 ?_
        refine va_sld hx hb hX hbl hbA M.2.2.2.2.2.1 (hvp 1 (by decide)) dL_law_689 ?_
        obtain ⟨v3, g_v3, hs⟩ := bdP hs
        obtain ⟨a4, e_a4, k_a4, g_v3⟩ := cV_some g_v3
        obtain rfl := Option.some.inj e_a4
        refine l2_V (bq := m) (As := [.int (xs (i + 1).toNatClampNeg)]) (rest := [.long v1.1]) F M.swap (c_X12_offset g_v3) mf_X12_offset t_1439 k_a4 rfl ⟨by decide, by decide⟩ ⟨rfl, rfl⟩ ⟨by dsimp only [room_1]; omega, by dsimp only [room_1]; omega⟩ hl.1 rfl (by simp [cat_rf, cat_i, cat_j, cat_r]) dL_law_690 (fun H locs M => ?_)
        have M := M.swap
        refine W.eq (g2 := F0 m0 693 ls [.long v3.1, .long v1.1]) rfl ?_
        refine W.lcmp hx hb dL_law_693 ?_
        obtain ⟨c9, hs⟩ := hs
        refine lv_if_eq (tgt := 1023) hx hb dL_law_694 (by decide) (fun _ => ?_) (fun z9 => absurd c9 z9)
        refine W.widen (k := 200 + 56 * (k + 1)) (n := 20000 + 597 * (k + 1)) (by omega) (by omega) ?_
        exact KB _ _ _ _ ls hs hl M
      rw [if_neg q14] at hs
      by_cases q15 : sel = 15
      · rw [if_pos q15] at hs
        refine lv_tableIn (tgt := 699) hx hb dL_law_33 (by rw [q15]; decide) (by rw [q15]; decide) (by rw [q15]; rfl) (by decide) ?_
        refine lv_aload_n hx hb dL_law_699 rfl (lv_at hl 1 rfl) ?_
        refine lv_aload_n hx hb dL_law_700 rfl (lv_at hl 0 rfl) ?_
        refine lv_iload_n hx hb dL_law_701 rfl (lv_at hl 3 rfl) ?_
        refine lv_iconst (v := 1) hx hb dL_law_702 (by decide) ?_
        refine lv_iadd hx hb dL_law_703 ?_
        refine va_sld hx hb hX hbl hbA M.2.2.2.2.2.1 (hvp 1 (by decide)) dL_law_704 ?_
        refine lv_aload_n hx hb dL_law_705 rfl (lv_at hl 0 rfl) ?_
        refine lv_iload_n hx hb dL_law_706 rfl (lv_at hl 3 rfl) ?_
        refine lv_iconst (v := 2) hx hb dL_law_707 (by decide) ?_
        refine lv_iadd hx hb dL_law_708 ?_
        refine va_sld hx hb hX hbl hbA M.2.2.2.2.2.1 (hvp 2 (by decide)) dL_law_709 ?_
        refine lv_aload_n hx hb dL_law_710 rfl (lv_at hl 0 rfl) ?_
        refine lv_iload_n hx hb dL_law_711 rfl (lv_at hl 3 rfl) ?_
        refine lv_iconst (v := 3) hx hb dL_law_712 (by decide) ?_
        refine lv_iadd hx hb dL_law_713 ?_
        refine va_sld hx hb hX hbl hbA M.2.2.2.2.2.1 (hvp 3 (by decide)) dL_law_714 ?_
        obtain ⟨v1, g_v1, hs⟩ := bdP hs
        obtain ⟨a2, e_a2, k_a2, g_v1⟩ := cV_some g_v1
        obtain rfl := Option.some.inj e_a2
        refine l2_V (bq := x) (As := [.int (xs (i + 1).toNatClampNeg), .int (xs (i + 2).toNatClampNeg), .int (xs (i + 3).toNatClampNeg)]) (rest := []) F M (c_X11_pair g_v1) mf_X11_pair t_876 k_a2 rfl ⟨by decide, by decide⟩ ⟨rfl, rfl⟩ ⟨by dsimp only [room_1]; omega, by dsimp only [room_1]; omega⟩ hl.1 rfl (by decide) dL_law_715 (fun H locs M => ?_)
        refine W.eq (g2 := F0 m0 718 ls [.int v1.1]) rfl ?_
        refine lv_aload_n hx hb dL_law_718 rfl (lv_at hl 2 rfl) ?_
        refine lv_aload_n hx hb dL_law_719 rfl (lv_at hl 0 rfl) ?_
        refine lv_iload_n hx hb dL_law_720 rfl (lv_at hl 3 rfl) ?_
        refine lv_iconst (v := 1) hx hb dL_law_721 (by decide) ?_
        refine lv_iadd hx hb dL_law_722 ?_
        refine va_sld hx hb hX hbl hbA M.2.2.2.2.2.1 (hvp 1 (by decide)) dL_law_723 ?_
        refine lv_aload_n hx hb dL_law_724 rfl (lv_at hl 0 rfl) ?_
        refine lv_iload_n hx hb dL_law_725 rfl (lv_at hl 3 rfl) ?_
        refine lv_iconst (v := 2) hx hb dL_law_726 (by decide) ?_
        refine lv_iadd hx hb dL_law_727 ?_
        refine va_sld hx hb hX hbl hbA M.2.2.2.2.2.1 (hvp 2 (by decide)) dL_law_728 ?_
        refine lv_aload_n hx hb dL_law_729 rfl (lv_at hl 0 rfl) ?_
        refine lv_iload_n hx hb dL_law_730 rfl (lv_at hl 3 rfl) ?_
        refine lv_iconst (v := 3) hx hb dL_law_731 (by decide) ?_
        refine lv_iadd hx hb dL_law_732 ?_
        refine va_sld hx hb hX hbl hbA M.2.2.2.2.2.1 (hvp 3 (by decide)) dL_law_733 ?_
        obtain ⟨v3, g_v3, hs⟩ := bdP hs
        obtain ⟨a4, e_a4, k_a4, g_v3⟩ := cV_some g_v3
        obtain rfl := Option.some.inj e_a4
        refine l2_V (bq := m) (As := [.int (xs (i + 1).toNatClampNeg), .int (xs (i + 2).toNatClampNeg), .int (xs (i + 3).toNatClampNeg)]) (rest := [.int v1.1]) F M.swap (c_X12_pair g_v3) mf_X12_pair t_1443 k_a4 rfl ⟨by decide, by decide⟩ ⟨rfl, rfl⟩ ⟨by dsimp only [room_1]; omega, by dsimp only [room_1]; omega⟩ hl.1 rfl (by simp [cat_rf, cat_i, cat_j, cat_r]) dL_law_734 (fun H locs M => ?_)
        have M := M.swap
        refine W.eq (g2 := F0 m0 737 ls [.int v3.1, .int v1.1]) rfl ?_
        obtain ⟨c9, hs⟩ := hs
        refine lv_icmp_eq (tgt := 1023) hx hb dL_law_737 (by decide) (fun _ => ?_) (fun z9 => absurd c9 z9)
        refine W.widen (k := 200 + 56 * (k + 1)) (n := 20000 + 597 * (k + 1)) (by omega) (by omega) ?_
        exact KB _ _ _ _ ls hs hl M
      rw [if_neg q15] at hs
      by_cases q16 : sel = 16
      · rw [if_pos q16] at hs
        refine lv_tableIn (tgt := 742) hx hb dL_law_33 (by rw [q16]; decide) (by rw [q16]; decide) (by rw [q16]; rfl) (by decide) ?_
        refine lv_aload_n hx hb dL_law_742 rfl (lv_at hl 1 rfl) ?_
        refine lv_aload_n hx hb dL_law_743 rfl (lv_at hl 0 rfl) ?_
        refine lv_iload_n hx hb dL_law_744 rfl (lv_at hl 3 rfl) ?_
        refine lv_iconst (v := 1) hx hb dL_law_745 (by decide) ?_
        refine lv_iadd hx hb dL_law_746 ?_
        refine va_sld hx hb hX hbl hbA M.2.2.2.2.2.1 (hvp 1 (by decide)) dL_law_747 ?_
        refine lv_aload_n hx hb dL_law_748 rfl (lv_at hl 0 rfl) ?_
        refine lv_iload_n hx hb dL_law_749 rfl (lv_at hl 3 rfl) ?_
        refine lv_iconst (v := 2) hx hb dL_law_750 (by decide) ?_
        refine lv_iadd hx hb dL_law_751 ?_
        refine va_sld hx hb hX hbl hbA M.2.2.2.2.2.1 (hvp 2 (by decide)) dL_law_752 ?_
        refine lv_aload_n hx hb dL_law_753 rfl (lv_at hl 0 rfl) ?_
        refine lv_iload_n hx hb dL_law_754 rfl (lv_at hl 3 rfl) ?_
        refine lv_iconst (v := 3) hx hb dL_law_755 (by decide) ?_
        refine lv_iadd hx hb dL_law_756 ?_
        refine va_sld hx hb hX hbl hbA M.2.2.2.2.2.1 (hvp 3 (by decide)) dL_law_757 ?_
        obtain ⟨v1, g_v1, hs⟩ := bdP hs
        obtain ⟨a2, e_a2, k_a2, g_v1⟩ := cV_some g_v1
        obtain rfl := Option.some.inj e_a2
        refine l2_V (bq := x) (As := [.int (xs (i + 1).toNatClampNeg), .int (xs (i + 2).toNatClampNeg), .int (xs (i + 3).toNatClampNeg)]) (rest := []) F M (c_X11_why g_v1) mf_X11_why t_882 k_a2 rfl ⟨by decide, by decide⟩ ⟨rfl, rfl⟩ ⟨by dsimp only [room_1]; omega, by dsimp only [room_1]; omega⟩ hl.1 rfl (by decide) dL_law_758 (fun H locs M => ?_)
        refine W.eq (g2 := F0 m0 761 ls [.int v1.1]) rfl ?_
        refine lv_aload_n hx hb dL_law_761 rfl (lv_at hl 2 rfl) ?_
        refine lv_aload_n hx hb dL_law_762 rfl (lv_at hl 0 rfl) ?_
        refine lv_iload_n hx hb dL_law_763 rfl (lv_at hl 3 rfl) ?_
        refine lv_iconst (v := 1) hx hb dL_law_764 (by decide) ?_
        refine lv_iadd hx hb dL_law_765 ?_
        refine va_sld hx hb hX hbl hbA M.2.2.2.2.2.1 (hvp 1 (by decide)) dL_law_766 ?_
        refine lv_aload_n hx hb dL_law_767 rfl (lv_at hl 0 rfl) ?_
        refine lv_iload_n hx hb dL_law_768 rfl (lv_at hl 3 rfl) ?_
        refine lv_iconst (v := 2) hx hb dL_law_769 (by decide) ?_
        refine lv_iadd hx hb dL_law_770 ?_
        refine va_sld hx hb hX hbl hbA M.2.2.2.2.2.1 (hvp 2 (by decide)) dL_law_771 ?_
        refine lv_aload_n hx hb dL_law_772 rfl (lv_at hl 0 rfl) ?_
        refine lv_iload_n hx hb dL_law_773 rfl (lv_at hl 3 rfl) ?_
        refine lv_iconst (v := 3) hx hb dL_law_774 (by decide) ?_
        refine lv_iadd hx hb dL_law_775 ?_
        refine va_sld hx hb hX hbl hbA M.2.2.2.2.2.1 (hvp 3 (by decide)) dL_law_776 ?_
        obtain ⟨v3, g_v3, hs⟩ := bdP hs
        obtain ⟨a4, e_a4, k_a4, g_v3⟩ := cV_some g_v3
        obtain rfl := Option.some.inj e_a4
        refine l2_V (bq := m) (As := [.int (xs (i + 1).toNatClampNeg), .int (xs (i + 2).toNatClampNeg), .int (xs (i + 3).toNatClampNeg)]) (rest := [.int v1.1]) F M.swap (c_X12_why g_v3) mf_X12_why t_1447 k_a4 rfl ⟨by decide, by decide⟩ ⟨rfl, rfl⟩ ⟨by dsimp only [room_1]; omega, by dsimp only [room_1]; omega⟩ hl.1 rfl (by simp [cat_rf, cat_i, cat_j, cat_r]) dL_law_777 (fun H locs M => ?_)
        have M := M.swap
        refine W.eq (g2 := F0 m0 780 ls [.int v3.1, .int v1.1]) rfl ?_
        obtain ⟨c9, hs⟩ := hs
        refine lv_icmp_eq (tgt := 1023) hx hb dL_law_780 (by decide) (fun _ => ?_) (fun z9 => absurd c9 z9)
        refine W.widen (k := 200 + 56 * (k + 1)) (n := 20000 + 597 * (k + 1)) (by omega) (by omega) ?_
        exact KB _ _ _ _ ls hs hl M
      rw [if_neg q16] at hs
      by_cases q17 : sel = 17
      · rw [if_pos q17] at hs
        refine lv_tableIn (tgt := 785) hx hb dL_law_33 (by rw [q17]; decide) (by rw [q17]; decide) (by rw [q17]; rfl) (by decide) ?_
        refine lv_aload_n hx hb dL_law_785 rfl (lv_at hl 1 rfl) ?_
        refine lv_aload_n hx hb dL_law_786 rfl (lv_at hl 0 rfl) ?_
        refine lv_iload_n hx hb dL_law_787 rfl (lv_at hl 3 rfl) ?_
        refine lv_iconst (v := 1) hx hb dL_law_788 (by decide) ?_
        refine lv_iadd hx hb dL_law_789 ?_
        refine va_sld hx hb hX hbl hbA M.2.2.2.2.2.1 (hvp 1 (by decide)) dL_law_790 ?_
        refine lv_aload_n hx hb dL_law_791 rfl (lv_at hl 0 rfl) ?_
        refine lv_iload_n hx hb dL_law_792 rfl (lv_at hl 3 rfl) ?_
        refine lv_iconst (v := 2) hx hb dL_law_793 (by decide) ?_
        refine lv_iadd hx hb dL_law_794 ?_
        refine va_sld hx hb hX hbl hbA M.2.2.2.2.2.1 (hvp 2 (by decide)) dL_law_795 ?_
        refine lv_aload_n hx hb dL_law_796 rfl (lv_at hl 0 rfl) ?_
        refine lv_iload_n hx hb dL_law_797 rfl (lv_at hl 3 rfl) ?_
        refine lv_iconst (v := 3) hx hb dL_law_798 (by decide) ?_
        refine lv_iadd hx hb dL_law_799 ?_
        refine va_sld hx hb hX hbl hbA M.2.2.2.2.2.1 (hvp 3 (by decide)) dL_law_800 ?_
        obtain ⟨v1, g_v1, hs⟩ := bdP hs
        obtain ⟨a2, e_a2, k_a2, g_v1⟩ := cV_some g_v1
        obtain rfl := Option.some.inj e_a2
        refine l2_V (bq := x) (As := [.int (xs (i + 1).toNatClampNeg), .int (xs (i + 2).toNatClampNeg), .int (xs (i + 3).toNatClampNeg)]) (rest := []) F M (c_X11_meant g_v1) mf_X11_meant t_886 k_a2 rfl ⟨by decide, by decide⟩ ⟨rfl, rfl⟩ ⟨by dsimp only [room_1]; omega, by dsimp only [room_1]; omega⟩ hl.1 rfl (by decide) dL_law_801 (fun H locs M => ?_)
        refine W.eq (g2 := F0 m0 804 ls [.int v1.1]) rfl ?_
        refine lv_aload_n hx hb dL_law_804 rfl (lv_at hl 2 rfl) ?_
        refine lv_aload_n hx hb dL_law_805 rfl (lv_at hl 0 rfl) ?_
        refine lv_iload_n hx hb dL_law_806 rfl (lv_at hl 3 rfl) ?_
        refine lv_iconst (v := 1) hx hb dL_law_807 (by decide) ?_
        refine lv_iadd hx hb dL_law_808 ?_
        refine va_sld hx hb hX hbl hbA M.2.2.2.2.2.1 (hvp 1 (by decide)) dL_law_809 ?_
        refine lv_aload_n hx hb dL_law_810 rfl (lv_at hl 0 rfl) ?_
        refine lv_iload_n hx hb dL_law_811 rfl (lv_at hl 3 rfl) ?_
        refine lv_iconst (v := 2) hx hb dL_law_812 (by decide) ?_
        refine lv_iadd hx hb dL_law_813 ?_
        refine va_sld hx hb hX hbl hbA M.2.2.2.2.2.1 (hvp 2 (by decide)) dL_law_814 ?_
        refine lv_aload_n hx hb dL_law_815 rfl (lv_at hl 0 rfl) ?_
        refine lv_iload_n hx hb dL_law_816 rfl (lv_at hl 3 rfl) ?_
        refine lv_iconst (v := 3) hx hb dL_law_817 (by decide) ?_
        refine lv_iadd hx hb dL_law_818 ?_
        refine va_sld hx hb hX hbl hbA M.2.2.2.2.2.1 (hvp 3 (by decide)) dL_law_819 ?_
        obtain ⟨v3, g_v3, hs⟩ := bdP hs
        obtain ⟨a4, e_a4, k_a4, g_v3⟩ := cV_some g_v3
        obtain rfl := Option.some.inj e_a4
        refine l2_V (bq := m) (As := [.int (xs (i + 1).toNatClampNeg), .int (xs (i + 2).toNatClampNeg), .int (xs (i + 3).toNatClampNeg)]) (rest := [.int v1.1]) F M.swap (c_X12_meant g_v3) mf_X12_meant t_1475 k_a4 rfl ⟨by decide, by decide⟩ ⟨rfl, rfl⟩ ⟨by dsimp only [room_1]; omega, by dsimp only [room_1]; omega⟩ hl.1 rfl (by simp [cat_rf, cat_i, cat_j, cat_r]) dL_law_820 (fun H locs M => ?_)
        have M := M.swap
        refine W.eq (g2 := F0 m0 823 ls [.int v3.1, .int v1.1]) rfl ?_
        obtain ⟨c9, hs⟩ := hs
        refine lv_icmp_eq (tgt := 1023) hx hb dL_law_823 (by decide) (fun _ => ?_) (fun z9 => absurd c9 z9)
        refine W.widen (k := 200 + 56 * (k + 1)) (n := 20000 + 597 * (k + 1)) (by omega) (by omega) ?_
        exact KB _ _ _ _ ls hs hl M
      rw [if_neg q17] at hs
      by_cases q18 : sel = 18
      · rw [if_pos q18] at hs
        refine lv_tableIn (tgt := 828) hx hb dL_law_33 (by rw [q18]; decide) (by rw [q18]; decide) (by rw [q18]; rfl) (by decide) ?_
        refine lv_aload_n hx hb dL_law_828 rfl (lv_at hl 1 rfl) ?_
        refine lv_aload_n hx hb dL_law_829 rfl (lv_at hl 0 rfl) ?_
        refine lv_iload_n hx hb dL_law_830 rfl (lv_at hl 3 rfl) ?_
        refine lv_iconst (v := 1) hx hb dL_law_831 (by decide) ?_
        refine lv_iadd hx hb dL_law_832 ?_
        refine va_sld hx hb hX hbl hbA M.2.2.2.2.2.1 (hvp 1 (by decide)) dL_law_833 ?_
        refine lv_aload_n hx hb dL_law_834 rfl (lv_at hl 0 rfl) ?_
        refine lv_iload_n hx hb dL_law_835 rfl (lv_at hl 3 rfl) ?_
        refine lv_iconst (v := 2) hx hb dL_law_836 (by decide) ?_
        refine lv_iadd hx hb dL_law_837 ?_
        refine va_sld hx hb hX hbl hbA M.2.2.2.2.2.1 (hvp 2 (by decide)) dL_law_838 ?_
        refine lv_aload_n hx hb dL_law_839 rfl (lv_at hl 0 rfl) ?_
        refine lv_iload_n hx hb dL_law_840 rfl (lv_at hl 3 rfl) ?_
        refine lv_iconst (v := 3) hx hb dL_law_841 (by decide) ?_
        refine lv_iadd hx hb dL_law_842 ?_
        refine va_sld hx hb hX hbl hbA M.2.2.2.2.2.1 (hvp 3 (by decide)) dL_law_843 ?_
        obtain ⟨v1, g_v1, hs⟩ := bdP hs
        obtain ⟨a2, e_a2, k_a2, g_v1⟩ := cV_some g_v1
        obtain rfl := Option.some.inj e_a2
        refine l2_V (bq := x) (As := [.int (xs (i + 1).toNatClampNeg), .int (xs (i + 2).toNatClampNeg), .int (xs (i + 3).toNatClampNeg)]) (rest := []) F M (c_X11_points g_v1) mf_X11_points t_890 k_a2 rfl ⟨by decide, by decide⟩ ⟨rfl, rfl⟩ ⟨by dsimp only [room_1]; omega, by dsimp only [room_1]; omega⟩ hl.1 rfl (by decide) dL_law_844 (fun H locs M => ?_)
        refine W.eq (g2 := F0 m0 847 ls [.int v1.1]) rfl ?_
        refine lv_aload_n hx hb dL_law_847 rfl (lv_at hl 2 rfl) ?_
        refine lv_aload_n hx hb dL_law_848 rfl (lv_at hl 0 rfl) ?_
        refine lv_iload_n hx hb dL_law_849 rfl (lv_at hl 3 rfl) ?_
        refine lv_iconst (v := 1) hx hb dL_law_850 (by decide) ?_
        refine lv_iadd hx hb dL_law_851 ?_
        refine va_sld hx hb hX hbl hbA M.2.2.2.2.2.1 (hvp 1 (by decide)) dL_law_852 ?_
        refine lv_aload_n hx hb dL_law_853 rfl (lv_at hl 0 rfl) ?_
        refine lv_iload_n hx hb dL_law_854 rfl (lv_at hl 3 rfl) ?_
        refine lv_iconst (v := 2) hx hb dL_law_855 (by decide) ?_
        refine lv_iadd hx hb dL_law_856 ?_
        refine va_sld hx hb hX hbl hbA M.2.2.2.2.2.1 (hvp 2 (by decide)) dL_law_857 ?_
        refine lv_aload_n hx hb dL_law_858 rfl (lv_at hl 0 rfl) ?_
        refine lv_iload_n hx hb dL_law_859 rfl (lv_at hl 3 rfl) ?_
        refine lv_iconst (v := 3) hx hb dL_law_860 (by decide) ?_
        refine lv_iadd hx hb dL_law_861 ?_
        refine va_sld hx hb hX hbl hbA M.2.2.2.2.2.1 (hvp 3 (by decide)) dL_law_862 ?_
        obtain ⟨v3, g_v3, hs⟩ := bdP hs
        obtain ⟨a4, e_a4, k_a4, g_v3⟩ := cV_some g_v3
        obtain rfl := Option.some.inj e_a4
        refine l2_V (bq := m) (As := [.int (xs (i + 1).toNatClampNeg), .int (xs (i + 2).toNatClampNeg), .int (xs (i + 3).toNatClampNeg)]) (rest := [.int v1.1]) F M.swap (c_X12_points g_v3) mf_X12_points t_1479 k_a4 rfl ⟨by decide, by decide⟩ ⟨rfl, rfl⟩ ⟨by dsimp only [room_1]; omega, by dsimp only [room_1]; omega⟩ hl.1 rfl (by simp [cat_rf, cat_i, cat_j, cat_r]) dL_law_863 (fun H locs M => ?_)
        have M := M.swap
        refine W.eq (g2 := F0 m0 866 ls [.int v3.1, .int v1.1]) rfl ?_
        obtain ⟨c9, hs⟩ := hs
        refine lv_icmp_eq (tgt := 1023) hx hb dL_law_866 (by decide) (fun _ => ?_) (fun z9 => absurd c9 z9)
        refine W.widen (k := 200 + 56 * (k + 1)) (n := 20000 + 597 * (k + 1)) (by omega) (by omega) ?_
        exact KB _ _ _ _ ls hs hl M
      rw [if_neg q18] at hs
      by_cases q19 : sel = 19
      · rw [if_pos q19] at hs
        refine lv_tableIn (tgt := 871) hx hb dL_law_33 (by rw [q19]; decide) (by rw [q19]; decide) (by rw [q19]; rfl) (by decide) ?_
        refine lv_aload_n hx hb dL_law_871 rfl (lv_at hl 1 rfl) ?_
        refine lv_aload_n hx hb dL_law_872 rfl (lv_at hl 0 rfl) ?_
        refine lv_iload_n hx hb dL_law_873 rfl (lv_at hl 3 rfl) ?_
        refine lv_iconst (v := 1) hx hb dL_law_874 (by decide) ?_
        refine lv_iadd hx hb dL_law_875 ?_
        refine va_sld hx hb hX hbl hbA M.2.2.2.2.2.1 (hvp 1 (by decide)) dL_law_876 ?_
        obtain ⟨v1, g_v1, hs⟩ := bdP hs
        obtain ⟨a2, e_a2, k_a2, g_v1⟩ := cV_some g_v1
        obtain rfl := Option.some.inj e_a2
        refine l2_V (bq := x) (As := [.int (xs (i + 1).toNatClampNeg)]) (rest := []) F M (c_X11_total g_v1) mf_X11_total t_923 k_a2 rfl ⟨by decide, by decide⟩ ⟨rfl, rfl⟩ ⟨by dsimp only [room_1]; omega, by dsimp only [room_1]; omega⟩ hl.1 rfl (by decide) dL_law_877 (fun H locs M => ?_)
        refine W.eq (g2 := F0 m0 880 ls [.int v1.1]) rfl ?_
        refine lv_aload_n hx hb dL_law_880 rfl (lv_at hl 2 rfl) ?_
        refine lv_aload_n hx hb dL_law_881 rfl (lv_at hl 0 rfl) ?_
        refine lv_iload_n hx hb dL_law_882 rfl (lv_at hl 3 rfl) ?_
        refine lv_iconst (v := 1) hx hb dL_law_883 (by decide) ?_
        refine lv_iadd hx hb dL_law_884 ?_
        refine va_sld hx hb hX hbl hbA M.2.2.2.2.2.1 (hvp 1 (by decide)) dL_law_885 ?_
        obtain ⟨v3, g_v3, hs⟩ := bdP hs
        obtain ⟨a4, e_a4, k_a4, g_v3⟩ := cV_some g_v3
        obtain rfl := Option.some.inj e_a4
        refine l2_V (bq := m) (As := [.int (xs (i + 1).toNatClampNeg)]) (rest := [.int v1.1]) F M.swap (c_X12_total g_v3) mf_X12_total t_1495 k_a4 rfl ⟨by decide, by decide⟩ ⟨rfl, rfl⟩ ⟨by dsimp only [room_1]; omega, by dsimp only [room_1]; omega⟩ hl.1 rfl (by simp [cat_rf, cat_i, cat_j, cat_r]) dL_law_886 (fun H locs M => ?_)
        have M := M.swap
        refine W.eq (g2 := F0 m0 889 ls [.int v3.1, .int v1.1]) rfl ?_
        obtain ⟨c9, hs⟩ := hs
        refine lv_icmp_eq (tgt := 1023) hx hb dL_law_889 (by decide) (fun _ => ?_) (fun z9 => absurd c9 z9)
        refine W.widen (k := 200 + 56 * (k + 1)) (n := 20000 + 597 * (k + 1)) (by omega) (by omega) ?_
        exact KB _ _ _ _ ls hs hl M
      rw [if_neg q19] at hs
      by_cases q20 : sel = 20
      · rw [if_pos q20] at hs
        refine lv_tableIn (tgt := 894) hx hb dL_law_33 (by rw [q20]; decide) (by rw [q20]; decide) (by rw [q20]; rfl) (by decide) ?_
        refine lv_aload_n hx hb dL_law_894 rfl (lv_at hl 1 rfl) ?_
        refine lv_aload_n hx hb dL_law_895 rfl (lv_at hl 0 rfl) ?_
        refine lv_iload_n hx hb dL_law_896 rfl (lv_at hl 3 rfl) ?_
        refine lv_iconst (v := 1) hx hb dL_law_897 (by decide) ?_
        refine lv_iadd hx hb dL_law_898 ?_
        refine va_sld hx hb hX hbl hbA M.2.2.2.2.2.1 (hvp 1 (by decide)) dL_law_899 ?_
        obtain ⟨v1, g_v1, hs⟩ := bdP hs
        obtain ⟨a2, e_a2, k_a2, g_v1⟩ := cV_some g_v1
        obtain rfl := Option.some.inj e_a2
        refine l2_V (bq := x) (As := [.int (xs (i + 1).toNatClampNeg)]) (rest := []) F M (c_X11_rate g_v1) mf_X11_rate t_958 k_a2 rfl ⟨by decide, by decide⟩ ⟨rfl, rfl⟩ ⟨by dsimp only [room_1]; omega, by dsimp only [room_1]; omega⟩ hl.1 rfl (by decide) dL_law_900 (fun H locs M => ?_)
        refine W.eq (g2 := F0 m0 903 ls [.long v1.1]) rfl ?_
        refine lv_aload_n hx hb dL_law_903 rfl (lv_at hl 2 rfl) ?_
        refine lv_aload_n hx hb dL_law_904 rfl (lv_at hl 0 rfl) ?_
        refine lv_iload_n hx hb dL_law_905 rfl (lv_at hl 3 rfl) ?_
        refine lv_iconst (v := 1) hx hb dL_law_906 (by decide) ?_
        refine lv_iadd hx hb dL_law_907 ?_
        refine va_sld hx hb hX hbl hbA M.2.2.2.2.2.1 (hvp 1 (by decide)) dL_law_908 ?_
        obtain ⟨v3, g_v3, hs⟩ := bdP hs
        obtain ⟨a4, e_a4, k_a4, g_v3⟩ := cV_some g_v3
        obtain rfl := Option.some.inj e_a4
        refine l2_V (bq := m) (As := [.int (xs (i + 1).toNatClampNeg)]) (rest := [.long v1.1]) F M.swap (c_X12_rate g_v3) mf_X12_rate t_1511 k_a4 rfl ⟨by decide, by decide⟩ ⟨rfl, rfl⟩ ⟨by dsimp only [room_1]; omega, by dsimp only [room_1]; omega⟩ hl.1 rfl (by simp [cat_rf, cat_i, cat_j, cat_r]) dL_law_909 (fun H locs M => ?_)
        have M := M.swap
        refine W.eq (g2 := F0 m0 912 ls [.long v3.1, .long v1.1]) rfl ?_
        refine W.lcmp hx hb dL_law_912 ?_
        obtain ⟨c9, hs⟩ := hs
        refine lv_if_eq (tgt := 1023) hx hb dL_law_913 (by decide) (fun _ => ?_) (fun z9 => absurd c9 z9)
        refine W.widen (k := 200 + 56 * (k + 1)) (n := 20000 + 597 * (k + 1)) (by omega) (by omega) ?_
        exact KB _ _ _ _ ls hs hl M
      rw [if_neg q20] at hs
      by_cases q21 : sel = 21
      · rw [if_pos q21] at hs
        refine lv_tableIn (tgt := 918) hx hb dL_law_33 (by rw [q21]; decide) (by rw [q21]; decide) (by rw [q21]; rfl) (by decide) ?_
        refine lv_aload_n hx hb dL_law_918 rfl (lv_at hl 1 rfl) ?_
        refine lv_aload_n hx hb dL_law_919 rfl (lv_at hl 0 rfl) ?_
        refine lv_iload_n hx hb dL_law_920 rfl (lv_at hl 3 rfl) ?_
        refine lv_iconst (v := 1) hx hb dL_law_921 (by decide) ?_
        refine lv_iadd hx hb dL_law_922 ?_
        refine va_sld hx hb hX hbl hbA M.2.2.2.2.2.1 (hvp 1 (by decide)) dL_law_923 ?_
        obtain ⟨v1, g_v1, hs⟩ := bdP hs
        obtain ⟨a2, e_a2, k_a2, g_v1⟩ := cV_some g_v1
        obtain rfl := Option.some.inj e_a2
        refine l2_V (bq := x) (As := [.int (xs (i + 1).toNatClampNeg)]) (rest := []) F M (c_X11_place g_v1) mf_X11_place t_973 k_a2 rfl ⟨by decide, by decide⟩ ⟨rfl, rfl⟩ ⟨by dsimp only [room_1]; omega, by dsimp only [room_1]; omega⟩ hl.1 rfl (by decide) dL_law_924 (fun H locs M => ?_)
        refine W.eq (g2 := F0 m0 927 ls [.int v1.1]) rfl ?_
        refine lv_aload_n hx hb dL_law_927 rfl (lv_at hl 2 rfl) ?_
        refine lv_aload_n hx hb dL_law_928 rfl (lv_at hl 0 rfl) ?_
        refine lv_iload_n hx hb dL_law_929 rfl (lv_at hl 3 rfl) ?_
        refine lv_iconst (v := 1) hx hb dL_law_930 (by decide) ?_
        refine lv_iadd hx hb dL_law_931 ?_
        refine va_sld hx hb hX hbl hbA M.2.2.2.2.2.1 (hvp 1 (by decide)) dL_law_932 ?_
        obtain ⟨v3, g_v3, hs⟩ := bdP hs
        obtain ⟨a4, e_a4, k_a4, g_v3⟩ := cV_some g_v3
        obtain rfl := Option.some.inj e_a4
        refine l2_V (bq := m) (As := [.int (xs (i + 1).toNatClampNeg)]) (rest := [.int v1.1]) F M.swap (c_X12_place g_v3) mf_X12_place t_1515 k_a4 rfl ⟨by decide, by decide⟩ ⟨rfl, rfl⟩ ⟨by dsimp only [room_1]; omega, by dsimp only [room_1]; omega⟩ hl.1 rfl (by simp [cat_rf, cat_i, cat_j, cat_r]) dL_law_933 (fun H locs M => ?_)
        have M := M.swap
        refine W.eq (g2 := F0 m0 936 ls [.int v3.1, .int v1.1]) rfl ?_
        obtain ⟨c9, hs⟩ := hs
        refine lv_icmp_eq (tgt := 1023) hx hb dL_law_936 (by decide) (fun _ => ?_) (fun z9 => absurd c9 z9)
        refine W.widen (k := 200 + 56 * (k + 1)) (n := 20000 + 597 * (k + 1)) (by omega) (by omega) ?_
        exact KB _ _ _ _ ls hs hl M
      rw [if_neg q21] at hs
      by_cases q22 : sel = 22
      · rw [if_pos q22] at hs
        refine lv_tableIn (tgt := 941) hx hb dL_law_33 (by rw [q22]; decide) (by rw [q22]; decide) (by rw [q22]; rfl) (by decide) ?_
        refine lv_aload_n hx hb dL_law_941 rfl (lv_at hl 1 rfl) ?_
        obtain ⟨v1, g_v1, hs⟩ := bdP hs
        obtain ⟨a2, e_a2, k_a2, g_v1⟩ := cV_some g_v1
        obtain rfl := Option.some.inj e_a2
        refine l2_V (bq := x) (As := []) (rest := []) F M (c_X11_publish g_v1) mf_X11_publish t_984 k_a2 rfl ⟨by decide, by decide⟩ ⟨rfl, rfl⟩ ⟨by dsimp only [room_1]; omega, by dsimp only [room_1]; omega⟩ hl.1 rfl (by decide) dL_law_942 (fun H locs M => ?_)
        refine W.eq (g2 := F0 m0 945 ls [.int v1.1]) rfl ?_
        refine lv_aload_n hx hb dL_law_945 rfl (lv_at hl 2 rfl) ?_
        obtain ⟨v3, g_v3, hs⟩ := bdP hs
        obtain ⟨a4, e_a4, k_a4, g_v3⟩ := cV_some g_v3
        obtain rfl := Option.some.inj e_a4
        refine l2_V (bq := m) (As := []) (rest := [.int v1.1]) F M.swap (c_X12_publish g_v3) mf_X12_publish t_1527 k_a4 rfl ⟨by decide, by decide⟩ ⟨rfl, rfl⟩ ⟨by dsimp only [room_1]; omega, by dsimp only [room_1]; omega⟩ hl.1 rfl (by simp [cat_rf, cat_i, cat_j, cat_r]) dL_law_946 (fun H locs M => ?_)
        have M := M.swap
        refine W.eq (g2 := F0 m0 949 ls [.int v3.1, .int v1.1]) rfl ?_
        obtain ⟨c9, hs⟩ := hs
        refine lv_icmp_eq (tgt := 1023) hx hb dL_law_949 (by decide) (fun _ => ?_) (fun z9 => absurd c9 z9)
        refine W.widen (k := 200 + 56 * (k + 1)) (n := 20000 + 597 * (k + 1)) (by omega) (by omega) ?_
        exact KB _ _ _ _ ls hs hl M
      rw [if_neg q22] at hs
      by_cases q23 : sel = 23
      · rw [if_pos q23] at hs
        refine lv_tableIn (tgt := 954) hx hb dL_law_33 (by rw [q23]; decide) (by rw [q23]; decide) (by rw [q23]; rfl) (by decide) ?_
        refine lv_aload_n hx hb dL_law_954 rfl (lv_at hl 1 rfl) ?_
        refine lv_aload_n hx hb dL_law_955 rfl (lv_at hl 0 rfl) ?_
        refine lv_iload_n hx hb dL_law_956 rfl (lv_at hl 3 rfl) ?_
        refine lv_iconst (v := 1) hx hb dL_law_957 (by decide) ?_
        refine lv_iadd hx hb dL_law_958 ?_
        refine va_sld hx hb hX hbl hbA M.2.2.2.2.2.1 (hvp 1 (by decide)) dL_law_959 ?_
        refine lv_aload_n hx hb dL_law_960 rfl (lv_at hl 0 rfl) ?_
        refine lv_iload_n hx hb dL_law_961 rfl (lv_at hl 3 rfl) ?_
        refine lv_iconst (v := 2) hx hb dL_law_962 (by decide) ?_
        refine lv_iadd hx hb dL_law_963 ?_
        refine va_sld hx hb hX hbl hbA M.2.2.2.2.2.1 (hvp 2 (by decide)) dL_law_964 ?_
        obtain ⟨v1, g_v1, hs⟩ := bdP hs
        obtain ⟨a2, e_a2, k_a2, g_v1⟩ := cV_some g_v1
        obtain rfl := Option.some.inj e_a2
        refine l2_V (bq := x) (As := [.int (xs (i + 1).toNatClampNeg), .int (xs (i + 2).toNatClampNeg)]) (rest := []) F M (c_X11_known g_v1) mf_X11_known t_988 k_a2 rfl ⟨by decide, by decide⟩ ⟨rfl, rfl⟩ ⟨by dsimp only [room_1]; omega, by dsimp only [room_1]; omega⟩ hl.1 rfl (by decide) dL_law_965 (fun H locs M => ?_)
        refine W.eq (g2 := F0 m0 968 ls [.int v1.1]) rfl ?_
        refine lv_aload_n hx hb dL_law_968 rfl (lv_at hl 2 rfl) ?_
        refine lv_aload_n hx hb dL_law_969 rfl (lv_at hl 0 rfl) ?_
        refine lv_iload_n hx hb dL_law_970 rfl (lv_at hl 3 rfl) ?_
        refine lv_iconst (v := 1) hx hb dL_law_971 (by decide) ?_
        refine lv_iadd hx hb dL_law_972 ?_
        refine va_sld hx hb hX hbl hbA M.2.2.2.2.2.1 (hvp 1 (by decide)) dL_law_973 ?_
        refine lv_aload_n hx hb dL_law_974 rfl (lv_at hl 0 rfl) ?_
        refine lv_iload_n hx hb dL_law_975 rfl (lv_at hl 3 rfl) ?_
        refine lv_iconst (v := 2) hx hb dL_law_976 (by decide) ?_
        refine lv_iadd hx hb dL_law_977 ?_
        refine va_sld hx hb hX hbl hbA M.2.2.2.2.2.1 (hvp 2 (by decide)) dL_law_978 ?_
        obtain ⟨v3, g_v3, hs⟩ := bdP hs
        obtain ⟨a4, e_a4, k_a4, g_v3⟩ := cV_some g_v3
        obtain rfl := Option.some.inj e_a4
        refine l2_V (bq := m) (As := [.int (xs (i + 1).toNatClampNeg), .int (xs (i + 2).toNatClampNeg)]) (rest := [.int v1.1]) F M.swap (c_X12_known g_v3) mf_X12_known t_1531 k_a4 rfl ⟨by decide, by decide⟩ ⟨rfl, rfl⟩ ⟨by dsimp only [room_1]; omega, by dsimp only [room_1]; omega⟩ hl.1 rfl (by simp [cat_rf, cat_i, cat_j, cat_r]) dL_law_979 (fun H locs M => ?_)
        have M := M.swap
        refine W.eq (g2 := F0 m0 982 ls [.int v3.1, .int v1.1]) rfl ?_
        obtain ⟨c9, hs⟩ := hs
        refine lv_icmp_eq (tgt := 1023) hx hb dL_law_982 (by decide) (fun _ => ?_) (fun z9 => absurd c9 z9)
        refine W.widen (k := 200 + 56 * (k + 1)) (n := 20000 + 597 * (k + 1)) (by omega) (by omega) ?_
        exact KB _ _ _ _ ls hs hl M
      rw [if_neg q23] at hs
      by_cases q24 : sel = 24
      · rw [if_pos q24] at hs
        refine lv_tableIn (tgt := 987) hx hb dL_law_33 (by rw [q24]; decide) (by rw [q24]; decide) (by rw [q24]; rfl) (by decide) ?_
        refine lv_aload_n hx hb dL_law_987 rfl (lv_at hl 1 rfl) ?_
        obtain ⟨v1, g_v1, hs⟩ := bdP hs
        obtain ⟨a2, e_a2, k_a2, g_v1⟩ := cV_some g_v1
        obtain rfl := Option.some.inj e_a2
        refine l2_V (bq := x) (As := []) (rest := []) F M (c_X11_finding g_v1) mf_X11_finding t_992 k_a2 rfl ⟨by decide, by decide⟩ ⟨rfl, rfl⟩ ⟨by dsimp only [room_1]; omega, by dsimp only [room_1]; omega⟩ hl.1 rfl (by decide) dL_law_988 (fun H locs M => ?_)
        refine W.eq (g2 := F0 m0 991 ls [.int v1]) rfl ?_
        refine lv_aload_n hx hb dL_law_991 rfl (lv_at hl 2 rfl) ?_
        obtain ⟨v3, g_v3, hs⟩ := bdP hs
        obtain ⟨a4, e_a4, k_a4, g_v3⟩ := cV_some g_v3
        obtain rfl := Option.some.inj e_a4
        refine l2_V (bq := m) (As := []) (rest := [.int v1]) F M.swap (c_X12_finding g_v3) mf_X12_finding t_1535 k_a4 rfl ⟨by decide, by decide⟩ ⟨rfl, rfl⟩ ⟨by dsimp only [room_1]; omega, by dsimp only [room_1]; omega⟩ hl.1 rfl (by simp [cat_rf, cat_i, cat_j, cat_r]) dL_law_992 (fun H locs M => ?_)
        have M := M.swap
        refine W.eq (g2 := F0 m0 995 ls [.int v3, .int v1]) rfl ?_
        obtain ⟨c9, hs⟩ := hs
        refine lv_icmp_eq (tgt := 1023) hx hb dL_law_995 (by decide) (fun _ => ?_) (fun z9 => absurd c9 z9)
        refine W.widen (k := 200 + 56 * (k + 1)) (n := 20000 + 597 * (k + 1)) (by omega) (by omega) ?_
        exact KB _ _ _ _ ls hs hl M
      rw [if_neg q24] at hs
      by_cases q25 : sel = 25
      · rw [if_pos q25] at hs
        refine lv_tableIn (tgt := 1000) hx hb dL_law_33 (by rw [q25]; decide) (by rw [q25]; decide) (by rw [q25]; rfl) (by decide) ?_
        refine lv_aload_n hx hb dL_law_1000 rfl (lv_at hl 1 rfl) ?_
        refine lv_aload_n hx hb dL_law_1001 rfl (lv_at hl 0 rfl) ?_
        refine lv_iload_n hx hb dL_law_1002 rfl (lv_at hl 3 rfl) ?_
        refine lv_iconst (v := 1) hx hb dL_law_1003 (by decide) ?_
        refine lv_iadd hx hb dL_law_1004 ?_
        refine va_sld hx hb hX hbl hbA M.2.2.2.2.2.1 (hvp 1 (by decide)) dL_law_1005 ?_
        obtain ⟨v1, g_v1, hs⟩ := bdP hs
        obtain ⟨a2, e_a2, k_a2, g_v1⟩ := cV_some g_v1
        obtain rfl := Option.some.inj e_a2
        refine l2_V (bq := x) (As := [.int (xs (i + 1).toNatClampNeg)]) (rest := []) F M (c_X11_count g_v1) mf_X11_count t_996 k_a2 rfl ⟨by decide, by decide⟩ ⟨rfl, rfl⟩ ⟨by dsimp only [room_1]; omega, by dsimp only [room_1]; omega⟩ hl.1 rfl (by decide) dL_law_1006 (fun H locs M => ?_)
        refine W.eq (g2 := F0 m0 1009 ls [.int v1]) rfl ?_
        refine lv_aload_n hx hb dL_law_1009 rfl (lv_at hl 2 rfl) ?_
        refine lv_aload_n hx hb dL_law_1010 rfl (lv_at hl 0 rfl) ?_
        refine lv_iload_n hx hb dL_law_1011 rfl (lv_at hl 3 rfl) ?_
        refine lv_iconst (v := 1) hx hb dL_law_1012 (by decide) ?_
        refine lv_iadd hx hb dL_law_1013 ?_
        refine va_sld hx hb hX hbl hbA M.2.2.2.2.2.1 (hvp 1 (by decide)) dL_law_1014 ?_
        obtain ⟨v3, g_v3, hs⟩ := bdP hs
        obtain ⟨a4, e_a4, k_a4, g_v3⟩ := cV_some g_v3
        obtain rfl := Option.some.inj e_a4
        refine l2_V (bq := m) (As := [.int (xs (i + 1).toNatClampNeg)]) (rest := [.int v1]) F M.swap (c_X12_count g_v3) mf_X12_count t_1539 k_a4 rfl ⟨by decide, by decide⟩ ⟨rfl, rfl⟩ ⟨by dsimp only [room_1]; omega, by dsimp only [room_1]; omega⟩ hl.1 rfl (by simp [cat_rf, cat_i, cat_j, cat_r]) dL_law_1015 (fun H locs M => ?_)
        have M := M.swap
        refine W.eq (g2 := F0 m0 1018 ls [.int v3, .int v1]) rfl ?_
        obtain ⟨c9, hs⟩ := hs
        refine lv_icmp_eq (tgt := 1023) hx hb dL_law_1018 (by decide) (fun _ => ?_) (fun z9 => absurd c9 z9)
        refine W.widen (k := 200 + 56 * (k + 1)) (n := 20000 + 597 * (k + 1)) (by omega) (by omega) ?_
        exact KB _ _ _ _ ls hs hl M
      rw [if_neg q25] at hs
      refine lv_tableOut (tgt := 1023) hx hb dL_law_33 (by have := ne_ti (k := 0) (n := 0) rfl q0; have := ne_ti (k := 1) (n := 1) rfl q1; have := ne_ti (k := 2) (n := 2) rfl q2; have := ne_ti (k := 3) (n := 3) rfl q3; have := ne_ti (k := 4) (n := 4) rfl q4; have := ne_ti (k := 5) (n := 5) rfl q5; have := ne_ti (k := 6) (n := 6) rfl q6; have := ne_ti (k := 7) (n := 7) rfl q7; have := ne_ti (k := 8) (n := 8) rfl q8; have := ne_ti (k := 9) (n := 9) rfl q9; have := ne_ti (k := 10) (n := 10) rfl q10; have := ne_ti (k := 11) (n := 11) rfl q11; have := ne_ti (k := 12) (n := 12) rfl q12; have := ne_ti (k := 13) (n := 13) rfl q13; have := ne_ti (k := 14) (n := 14) rfl q14; have := ne_ti (k := 15) (n := 15) rfl q15; have := ne_ti (k := 16) (n := 16) rfl q16; have := ne_ti (k := 17) (n := 17) rfl q17; have := ne_ti (k := 18) (n := 18) rfl q18; have := ne_ti (k := 19) (n := 19) rfl q19; have := ne_ti (k := 20) (n := 20) rfl q20; have := ne_ti (k := 21) (n := 21) rfl q21; have := ne_ti (k := 22) (n := 22) rfl q22; have := ne_ti (k := 23) (n := 23) rfl q23; have := ne_ti (k := 24) (n := 24) rfl q24; have := ne_ti (k := 25) (n := 25) rfl q25; omega) (by decide) ?_
      refine W.widen (k := 200 + 56 * (k + 1)) (n := 20000 + 597 * (k + 1)) (by omega) (by omega) ?_
      exact KB _ _ _ _ ls hs hl M
