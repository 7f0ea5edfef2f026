/-! ===== making objects and arrays; contracts of methods that make some ===== -/
def bP {α : Type} (o : Option α) (k : α → Prop) : Prop := ∃ v, o = some v ∧ k v
theorem bdP {α : Type} {o : Option α} {k : α → Prop} (h : bP o k) : ∃ v, o = some v ∧ k v := h
def dfl (c : Nat) : List Value := (fT c).map (fun t => match t with | 0 => .int 0 | 1 => .long 0 | _ => .null)
theorem flds_new {h : IH} {c q : Nat} : flds (newO h c q) c q = dfl c := by
  apply List.ext_getElem?
  intro j
  unfold flds dfl
  rw [List.getElem?_mapIdx, List.getElem?_map]
  cases hj : (fT c)[j]? with
  | none => rfl
  | some t =>
    rcases t with _ | _ | t
    · show some (Value.int (if q = q then 0 else fI h (100 * c + j) q)) = some (Value.int 0)
      rw [if_pos rfl]
    · show some (Value.long (if q = q then 0 else fL h (100 * c + j) q)) = some (Value.long 0)
      rw [if_pos rfl]
    · show some (va_rf (if q = q then none else fR h (100 * c + j) q)) = some Value.null
      rw [if_pos rfl]
      rfl
theorem fV_newO {h : IH} {c q c' b k t : Nat} (e : b ≠ q) : fV (newO h c q) c' b k t = fV h c' b k t := by
  rcases t with _ | _ | t
  · show Value.int (if b = q then 0 else fI h (100 * c' + k) b) = _
    rw [if_neg e]
    rfl
  · show Value.long (if b = q then 0 else fL h (100 * c' + k) b) = _
    rw [if_neg e]
    rfl
  · show va_rf (if b = q then none else fR h (100 * c' + k) b) = _
    rw [if_neg e]
    rfl
theorem ent_newO {cy : Nat → ClassId} {h : IH} {c q : Nat} (hc : c < 19) (b : Nat) : va_up (ent cy h) q (.inr (c, dfl c)) b = ent cy (newO h c q) b := by
  by_cases e : b = q
  · subst e
    rw [va_up_self, ent_o (h := newO h c b) (c := c) (show va_up (kd h) b (c + 1) b = c + 1 by rw [va_up_self]) hc, flds_new]
  · rw [va_up_ne _ _ e]
    exact (ent_congr (h := h) (h' := newO h c q) (show va_up (kd h) q (c + 1) b = kd h b by rw [va_up_ne _ _ e]) (fun c' k' t' => fV_newO e) rfl rfl rfl rfl).symm
theorem ent_newA_ne {cy : Nat → ClassId} {h : IH} {k n q b : Nat} (e : b ≠ q) : ent cy h b = ent cy (newA h k n q) b := by
  refine (ent_congr (h := h) (h' := newA h k n q) (show va_up (kd h) q (20 + k) b = kd h b by rw [va_up_ne _ _ e]) (fun c' k' t' => rfl) (show va_up (ln h) q n b = ln h b by rw [va_up_ne _ _ e]) ?_ ?_ ?_).symm
  · funext y
    show (if b = q then 0 else rI h b y) = _
    rw [if_neg e]
  · funext y
    show (if b = q then 0 else rL h b y) = _
    rw [if_neg e]
  · funext y
    show (if b = q then none else rR h b y) = _
    rw [if_neg e]
theorem kd_newA {h : IH} {k n q : Nat} : kd (newA h k n q) q = 20 + k := by
  show va_up (kd h) q (20 + k) q = _
  rw [va_up_self]
theorem ln_newA {h : IH} {k n q : Nat} : ln (newA h k n q) q = n := by
  show va_up (ln h) q n q = _
  rw [va_up_self]
theorem rI_newA {h : IH} {k n q : Nat} : rI (newA h k n q) q = fun _ => 0 := by
  funext y
  show (if q = q then 0 else rI h q y) = 0
  rw [if_pos rfl]
theorem rL_newA {h : IH} {k n q : Nat} : rL (newA h k n q) q = fun _ => 0 := by
  funext y
  show (if q = q then 0 else rL h q y) = 0
  rw [if_pos rfl]
theorem rR_newA {h : IH} {k n q : Nat} : rR (newA h k n q) q = fun _ => none := by
  funext y
  show (if q = q then none else rR h q y) = none
  rw [if_pos rfl]
theorem ent_newI {cy : Nat → ClassId} {h : IH} {n q : Nat} (b : Nat) : va_up (ent cy h) q (.inl (cy 0, n, .inl (fun _ => 0))) b = ent cy (newA h 0 n q) b := by
  by_cases e : b = q
  · subst e
    rw [va_up_self, ent_I kd_newA, ln_newA, rI_newA]
  · rw [va_up_ne _ _ e]
    exact ent_newA_ne e
theorem ent_newZ {cy : Nat → ClassId} {h : IH} {n q : Nat} (b : Nat) : va_up (ent cy h) q (.inl (cy 2, n, .inl (fun _ => 0))) b = ent cy (newA h 2 n q) b := by
  by_cases e : b = q
  · subst e
    rw [va_up_self, ent_Z kd_newA, ln_newA, rI_newA]
  · rw [va_up_ne _ _ e]
    exact ent_newA_ne e
theorem ent_newJ {cy : Nat → ClassId} {h : IH} {n q : Nat} (b : Nat) : va_up (ent cy h) q (.inl (cy 1, n, .inr (.inl (fun _ => 0)))) b = ent cy (newA h 1 n q) b := by
  by_cases e : b = q
  · subst e
    rw [va_up_self, ent_J kd_newA, ln_newA, rL_newA]
  · rw [va_up_ne _ _ e]
    exact ent_newA_ne e
theorem ent_newR {cy : Nat → ClassId} {h : IH} {k n q : Nat} (h3 : 3 ≤ k) (b : Nat) : va_up (ent cy h) q (.inl (cy k, n, .inr (.inr (.inr (.inr (fun _ => none)))))) b = ent cy (newA h k n q) b := by
  by_cases e : b = q
  · subst e
    rw [va_up_self, ent_R kd_newA h3, ln_newA, rR_newA]
  · rw [va_up_ne _ _ e]
    exact ent_newA_ne e
theorem ra_inj {U : State} {a b : ClassId} {ty : FieldType} (h1 : va_RA U a ty) (h2 : va_RA U b ty) : a = b := by
  cases ty with
  | object C =>
    obtain ⟨_, _, _, _, _, e1⟩ := h1
    obtain ⟨_, _, _, _, _, e2⟩ := h2
    exact Option.some.inj (e1.symm.trans e2)
  | _ => exact Option.some.inj (Eq.trans (Eq.symm h1) h2)
theorem mo_new {A : Nat → Prop} {L : List Nat} {f : Nat → va_E} {q : Nat} {en : va_E} (hD : va_D A (va_pl L f ++ [(q, en)])) : q ∉ L := by
  intro hq
  obtain ⟨k, hk⟩ := va_pl_get (X := []) (f := f) hq
  have hk : (va_pl L f)[k]? = some (q, f q) := hk
  have hlt := (List.getElem?_eq_some_iff.mp hk).1
  have h1 : (va_pl L f ++ [(q, en)])[k]? = some (q, f q) := by rw [List.getElem?_append_left hlt]; exact hk
  have h2 : (va_pl L f ++ [(q, en)])[(va_pl L f).length]? = some (q, en) := by simp
  have := hD.1 _ _ _ _ h1 h2 rfl
  omega
def va_AOA (t : FieldType) (U : State) : Prop := (Cond.arrayOver (.array t)).before #[] U = true
theorem va_AOA.use {t : FieldType} {A : Array Value} {U : State} (h : va_AOA t U) : (Cond.arrayOver (.array t)).before A U = true := h
theorem aoa_spec {s : State} {t : FieldType} (h : va_AOA t s) : ∃ comp c k, s.vm.findClass (FieldType.array t).toString = some comp ∧ (s.vm.classes.findIdx? fun (x : Class) => match x.kind with | .array component _ => component == comp | _ => false) = some c ∧ s.vm.classes[c]? = some k ∧ k.kind = .array comp (.array t) ∧ s.vm.findClass ("[" ++ (FieldType.array t).toString) = some c := by
  unfold va_AOA Cond.before at h
  simp only [Cond.holds, Cond.value, beq_iff_eq] at h
  cases hc : s.vm.findClass (FieldType.array t).toString with
  | none => simp [hc] at h
  | some comp =>
    simp only [hc, Option.bind_some, Option.bind_eq_some_iff, Option.map_eq_some_iff] at h
    obtain ⟨c, hi, k, hk, hb⟩ := h
    obtain ⟨hlt, hp, -⟩ := Array.findIdx?_eq_some_iff_getElem.mp hi
    have hk2 : s.vm.classes[c] = k := by
      have := Array.getElem?_eq_getElem hlt
      rw [hk] at this
      exact (Option.some.inj this).symm
    rw [hk2] at hp
    cases hkk : k.kind with
    | array component ty =>
      rw [hkk] at hp hb
      simp only [beq_iff_eq] at hp
      simp only [Bool.and_eq_true, decide_eq_true_eq] at hb
      exact ⟨comp, c, k, rfl, hi, hk, by rw [hkk, hp, hb.1], hb.2⟩
    | _ => rw [hkk] at hp; simp at hp
theorem va_AOA.moved {t : FieldType} {u U : State} (hvm : u.vm.Alike U.vm) (h : va_AOA t u) : va_AOA t U := by
  obtain ⟨comp, c, k, h1, h2, h3, h4, h5⟩ := aoa_spec h
  obtain ⟨k', hk', he⟩ := hvm.2.2 _ _ h3
  have hi : (U.vm.classes.findIdx? fun (x : Class) => match x.kind with | .array component _ => component == comp | _ => false) = some c := by
    refine (va_idx_bare U.vm comp).symm.trans (Eq.trans ?_ ((va_idx_bare u.vm comp).trans h2))
    first | rw [hvm.bare_eq] | rw [← hvm.bare_eq]
  have hkind : k'.kind = .array comp (.array t) := by rw [he]; exact h4
  have f1 : U.vm.findClass (FieldType.array t).toString = some comp := by rw [hvm.findClass]; exact h1
  have f2 : U.vm.findClass ("[" ++ (FieldType.array t).toString) = some c := by rw [hvm.findClass]; exact h5
  unfold va_AOA Cond.before Cond.holds
  simp only [Cond.value]
  rw [f1, Option.bind_some]
  refine (congrArg (fun o : Option Nat => (o.bind (fun c => (U.vm.classes[c]?).map fun (k : Class) => match k.kind with | .array _ ty => decide (ty = FieldType.array t) && decide (U.vm.findClass ("[" ++ (FieldType.array t).toString) = some c) | _ => false) == some true)) hi).trans ?_
  simp [hk', hkind, f2]
def AOs (U : State) : Prop := va_AO RX2 U ∧ va_AO RX4 U ∧ va_AO RX9 U ∧ va_AOA .int U
theorem AOs.moved {u U : State} (hvm : u.vm.Alike U.vm) (h : AOs u) : AOs U := ⟨h.1.moved hvm, h.2.1.moved hvm, h.2.2.1.moved hvm, h.2.2.2.moved hvm⟩
def PrP (D : va_G) (cy : Nat → ClassId) (h : IH) (sz : Nat) (av : List Value) : Array Value → State → Prop := fun v U => Pr D cy h sz av v U ∧ AOs U
theorem PrP_blind {D : va_G} {cy : Nat → ClassId} {h : IH} {sz : Nat} {av : List Value} : FrameBlind (PrP D cy h sz av) := fun a U g mk q => ⟨Pr_blind a U g mk q.1, q.2.moved (u := U) (U := U.calling g mk a) (Vm.Alike.refl U.vm)⟩
def QP (D : va_G) (cy : Nat → ClassId) (A : Nat → Prop) (P : Option Value → IH → Prop) : Array Value → State → Outcome → State → Prop := fun _ st oc t => (∃ rv h', oc = .returned rv ∧ P rv h' ∧ Wd D cy h' A t) ∧ va_F A st t
def CtP (l : Launch) (D : va_G) (cy : Nat → ClassId) (y : MethodName) (b : ByteArray) (n : Nat) (r : Option FieldType) (rm : Room) (h : IH) (sz : Nat) (av : List Value) (P : Option Value → IH → Prop) : Prop :=
  Met l y (wsA y b n r) rm (PrP D cy h sz av) (QP D cy (Am cy h sz) P) rm.cells rm.slots (Am cy h sz)
set_option maxHeartbeats 4000000 in
theorem ct_startP {l : Launch} {D : va_G} {cy : Nat → ClassId} {y : MethodName} {b : ByteArray} {n : Nat} {r : Option FieldType} {rm : Room} {h : IH} {sz : Nat} {av : List Value} {P : Option Value → IH → Prop} (hy : plainName y.cls = true) (lv : List (Nat × Value)) (hlen : (lg_sl av).length ≤ n) (hlv : lv_args 0 av = lv)
    (W0 : ∀ (p : Program) (e : Env) (s : State) (m : MethodId) (args : Array Value) (below : List Frame) (meth : Method) (c : Code) (A : Nat → Prop) (H0 : Heap) (ls : Array Slot), Fx p s m args meth c D cy A H0 y b n r → (y.name = "<init>" → meth.name = "<init>") → AOs s → s.heap.size = sz → Mo D cy A H0 h s.heap [] → lv_has ls n lv → W p l e rm s m args below meth c s.heap [] 0 0 (MQ below (QP D cy A P) args s rm.cells rm.slots A) (F0 m 0 ls [])) :
    CtP l D cy y b n r rm h sz av P := by
  refine Met.ofW (cc := b) (maxL := n) (ret := r) hy rfl ?_
  intro p e s m args below meth c s₁ B hml hv
  obtain ⟨⟨rfl, hsz, ⟨hP, hK, hD0, hdom⟩, hN, hSC⟩, hAO⟩ := hv
  have hts := atoms_spec (ws := wsA y b n r) B.pre
  have hown : s.vm.findClass y.cls = some m.cls := findClass_of_methodNamed B.named
  have hin : y.name = "<init>" → meth.name = "<init>" := fun hq => (name_of_methodNamed B.named B.method).1.trans hq
  subst hsz
  have hD := hD0.self (sz := s.heap.size)
  have hl := lv_entry av (n := n) hlen
  rw [hlv] at hl
  rw [lg_entry_eq]
  exact W0 p e s m _ below meth c _ s.heap _ ⟨B.exec, B.bytes, B.returns, hml, hown, B.notSynchronized, hts, hK, hN, fun q hq => Or.inr hq, rfl, hSC⟩ hin hAO rfl ⟨hP, hD, va_S.rf, hdom⟩ hl
section RW6
variable {p : Program} {l : Launch} {e : Env} {R : Room} {s : State} {m : MethodId} {args : Array Value} {below : List Frame} {meth : Method} {c : Code} {H : Heap} {locs : List Loc} {cells slots : Nat} {Q : State → Prop}
variable {pc : Nat} {ls : Array Slot} {rest st0 : List Value} {D : va_G} {cy : Nat → ClassId} {A : Nat → Prop} {H0 : Heap} {h h' : IH}
variable {y : MethodName} {b : ByteArray} {n : Nat} {r : Option FieldType} {ci k index N t : Nat} {C : String} {T : u_T} {x : Option Nat} {cc : ByteArray}
theorem Mo.grow {q kq : Nat} {en : va_E} {H1 : Heap} (M : Mo D cy A H0 h H locs) (hads : ads h' = ads h ++ [q]) (hkd : kd h' = va_up (kd h) q kq) (he : ∀ z, va_up (ent cy h) q en z = ent cy h' z)
    (hP : va_P D vwCl (va_pl (ads h) (ent cy h) ++ [(q, en)]) H1) (hD : va_D A (va_pl (ads h) (ent cy h) ++ [(q, en)])) (hS : va_S A H0 H1 locs) : kd h q = 0 ∧ Mo D cy A H0 h' H1 locs := by
  have hq := mo_new hD
  refine ⟨Classical.byContradiction fun hk => hq (M.2.2.2 q hk), ?_⟩
  have e1 : va_pl (ads h) (ent cy h) ++ [(q, en)] = va_pl (ads h') (ent cy h') := by rw [va_pl_push hq, hads]; exact va_pl_congr he
  rw [e1] at hP hD
  refine ⟨hP, hD, hS, fun z hz => ?_⟩
  rw [hads]
  by_cases ez : z = q
  · subst ez
    simp
  · rw [hkd, va_up_ne _ _ ez] at hz
    exact List.mem_append_left _ (M.2.2.2 z hz)
/-- a class's facts for making an object -/
def NF (ci : Nat) (C : String) (T : u_T) (N : Nat) : Prop := vwCl[ci]? = some (C, T, N) ∧ (∀ w ∈ u_ws C T N, w ∈ gw) ∧ ci < 19 ∧ Cond.instantiable C N ∈ gw ∧ Cond.initialized C ∈ gw ∧ ∃ ty : Nat → FieldType, (∀ k, k < N → parseFieldDescriptor (T k).2.2.1 = some (ty k)) ∧ ∀ j, j < N → defaultValue (ty j) = vp_V (dfl ci) j
theorem ro_new (F : Fx p s m args meth c D cy A H0 y b n r) (M : Mo D cy A H0 h H locs) (G : NF ci C T N) (hcl : Cond.classLink y.cls index C ∈ gw) (hc1 : cells + 1 ≤ R.cells) (hs1 : slots + N ≤ R.slots) (hdg : decode b pc = .ok (.new index, 3))
    (kk : ∀ (q : Nat) (H1 : Heap), kd h q = 0 → Mo D cy A H0 (newO h ci q) H1 locs → W p l e R s m args below meth c H1 locs (cells + 1) (slots + N) Q (F0 m (pc + 3) ls (.ref q :: rest))) : W p l e R s m args below meth c H locs cells slots Q (F0 m pc ls rest) := by
  obtain ⟨hx, hb, -, hml, hown, -, hts, hK, hN, hA, -⟩ := F
  obtain ⟨hc, hin, hci, hinst, hini, ty, hty, hdf⟩ := G
  have tw : ∀ w ∈ gw, w.before args s = true := fun w hw => hts w (List.mem_cons_of_mem _ hw)
  refine va_new (fs := dfl ci) hx hb hts (fun w hw => List.mem_cons_of_mem _ (hin w hw)) ty hty hown (tw _ hcl) (tw _ hinst) (tw _ hini) hK M.1 M.2.1 M.2.2.1 hA hc hdf hc1 hs1 hdg (fun q H1 hP hD hS => ?_)
  obtain ⟨h1, h2⟩ := M.grow (h' := newO h ci q) rfl rfl (ent_newO hci) hP hD hS
  exact kk q H1 h1 h2
theorem ro_newI {nn : Int32} {N' : Nat} (F : Fx p s m args meth c D cy A H0 y b n r) (M : Mo D cy A H0 h H locs) (harr : Cond.arrayClass .int ∈ gw) (hn0 : ¬ nn < 0) (hN : nn.toNatClampNeg = N') (hbytes : N' * 4 ≤ 536870912) (hc1 : cells + 1 ≤ R.cells) (hs1 : slots + N' ≤ R.slots) (hdg : decode b pc = .ok (.newarray .int, 2))
    (kk : ∀ (q : Nat) (H1 : Heap), kd h q = 0 → Mo D cy A H0 (newA h 0 N' q) H1 locs → W p l e R s m args below meth c H1 locs (cells + 1) (slots + N') Q (F0 m (pc + 2) ls (.ref q :: rest))) : W p l e R s m args below meth c H locs cells slots Q (F0 m pc ls (.int nn :: rest)) := by
  obtain ⟨hx, hb, -, hml, hown, -, hts, hK, hN1, hA, -⟩ := F
  refine va_newa (atype := .int) (ty := .int) (a0 := (N', .inl (fun _ => 0))) hx hb (hts _ (List.mem_cons_of_mem _ harr)) rfl hK M.1 M.2.1 M.2.2.1 hA (fun cA => rfl) hn0 hN hbytes hc1 hs1 hdg (fun q cA H1 hK' hP hD hS => ?_)
  have ec : cA = cy 0 := ra_inj (hK'.2 7 (cA, .int) rfl).2 (hK.2 0 (cy 0, .int) rfl).2
  subst ec
  obtain ⟨h1, h2⟩ := M.grow (h' := newA h 0 N' q) rfl rfl ent_newI hP hD hS
  exact kk q H1 h1 h2
theorem ro_newJ {nn : Int32} {N' : Nat} (F : Fx p s m args meth c D cy A H0 y b n r) (M : Mo D cy A H0 h H locs) (harr : Cond.arrayClass .long ∈ gw) (hn0 : ¬ nn < 0) (hN : nn.toNatClampNeg = N') (hbytes : N' * 8 ≤ 536870912) (hc1 : cells + 1 ≤ R.cells) (hs1 : slots + N' ≤ R.slots) (hdg : decode b pc = .ok (.newarray .long, 2))
    (kk : ∀ (q : Nat) (H1 : Heap), kd h q = 0 → Mo D cy A H0 (newA h 1 N' q) H1 locs → W p l e R s m args below meth c H1 locs (cells + 1) (slots + N') Q (F0 m (pc + 2) ls (.ref q :: rest))) : W p l e R s m args below meth c H locs cells slots Q (F0 m pc ls (.int nn :: rest)) := by
  obtain ⟨hx, hb, -, hml, hown, -, hts, hK, hN1, hA, -⟩ := F
  refine va_newa (atype := .long) (ty := .long) (a0 := (N', .inr (.inl (fun _ => 0)))) hx hb (hts _ (List.mem_cons_of_mem _ harr)) rfl hK M.1 M.2.1 M.2.2.1 hA (fun cA => rfl) hn0 hN hbytes hc1 hs1 hdg (fun q cA H1 hK' hP hD hS => ?_)
  have ec : cA = cy 1 := ra_inj (hK'.2 7 (cA, .long) rfl).2 (hK.2 1 (cy 1, .long) rfl).2
  subst ec
  obtain ⟨h1, h2⟩ := M.grow (h' := newA h 1 N' q) rfl rfl ent_newJ hP hD hS
  exact kk q H1 h1 h2
theorem ro_newZ {nn : Int32} {N' : Nat} (F : Fx p s m args meth c D cy A H0 y b n r) (M : Mo D cy A H0 h H locs) (harr : Cond.arrayClass .boolean ∈ gw) (hn0 : ¬ nn < 0) (hN : nn.toNatClampNeg = N') (hbytes : N' * 1 ≤ 536870912) (hc1 : cells + 1 ≤ R.cells) (hs1 : slots + N' ≤ R.slots) (hdg : decode b pc = .ok (.newarray .boolean, 2))
    (kk : ∀ (q : Nat) (H1 : Heap), kd h q = 0 → Mo D cy A H0 (newA h 2 N' q) H1 locs → W p l e R s m args below meth c H1 locs (cells + 1) (slots + N') Q (F0 m (pc + 2) ls (.ref q :: rest))) : W p l e R s m args below meth c H locs cells slots Q (F0 m pc ls (.int nn :: rest)) := by
  obtain ⟨hx, hb, -, hml, hown, -, hts, hK, hN1, hA, -⟩ := F
  refine va_newa (atype := .boolean) (ty := .boolean) (a0 := (N', .inl (fun _ => 0))) hx hb (hts _ (List.mem_cons_of_mem _ harr)) rfl hK M.1 M.2.1 M.2.2.1 hA (fun cA => rfl) hn0 hN hbytes hc1 hs1 hdg (fun q cA H1 hK' hP hD hS => ?_)
  have ec : cA = cy 2 := ra_inj (hK'.2 7 (cA, .boolean) rfl).2 (hK.2 2 (cy 2, .boolean) rfl).2
  subst ec
  obtain ⟨h1, h2⟩ := M.grow (h' := newA h 2 N' q) rfl rfl ent_newZ hP hD hS
  exact kk q H1 h1 h2
theorem ro_newR {nn : Int32} {N' : Nat} (h3 : 3 ≤ k) (ht : (tysO cy)[k]? = some (cy k, .object C)) (F : Fx p s m args meth c D cy A H0 y b n r) (M : Mo D cy A H0 h H locs) (hcl : Cond.classLink y.cls index C ∈ gw) (hAO : va_AO C s) (hn0 : ¬ nn < 0) (hN : nn.toNatClampNeg = N') (hbytes : N' * 4 ≤ 536870912) (hc1 : cells + 1 ≤ R.cells) (hs1 : slots + N' ≤ R.slots) (hdg : decode b pc = .ok (.anewarray index, 3))
    (kk : ∀ (q : Nat) (H1 : Heap), kd h q = 0 → Mo D cy A H0 (newA h k N' q) H1 locs → W p l e R s m args below meth c H1 locs (cells + 1) (slots + N') Q (F0 m (pc + 3) ls (.ref q :: rest))) : W p l e R s m args below meth c H locs cells slots Q (F0 m pc ls (.int nn :: rest)) := by
  obtain ⟨hx, hb, -, hml, hown, -, hts, hK, hN1, hA, -⟩ := F
  refine va_newq (C := C) hx hb hown (hts _ (List.mem_cons_of_mem _ hcl)) hAO hK M.1 M.2.1 M.2.2.1 hA hn0 hN hbytes hc1 hs1 hdg (fun q cA H1 hK' hP hD hS => ?_)
  have ec : cA = cy k := ra_inj (hK'.2 7 (cA, .object C) rfl).2 (hK.2 k (cy k, .object C) ht).2
  subst ec
  obtain ⟨h1, h2⟩ := M.grow (h' := newA h k N' q) rfl rfl (ent_newR h3) hP hD hS
  exact kk q H1 h1 h2
theorem ca_goP {A1 : Nat → Prop} {P : Option Value → IH → Prop} {a : Array Value} {mc ms : Nat} (hr : va_Run p l e R s m args below meth c H locs cells slots mc ms (F0 m pc ls st0) rest (QP D cy A1 P a) A1) (hS : va_S A H0 H locs) (hA1 : ∀ q, A1 q → A q)
    (kk : ∀ (rv : Option Value) (h' : IH) (H1 : Heap) (locs1 : List Loc), P rv h' → Mo D cy A H0 h' H1 locs1 → W p l e R s m args below meth c H1 locs1 (cells + mc) (slots + ms) Q (F0 m (pc + 3) ls (rv.toList ++ rest))) : W p l e R s m args below meth c H locs cells slots Q (F0 m pc ls st0) := by
  intro T hT X
  obtain ⟨v, st₀, t, T', L, h0, X', hL, e1, e2, ⟨⟨rv, h', hv, hPq, hP, hK', hD, hdom⟩, hz, hk⟩, st⟩ := hr T hT X
  cases hv
  rw [h0] at hz hk
  obtain ⟨t2, a1, b1⟩ := kk v h' T'.heap (locs ++ L) hPq ⟨by rw [e1]; exact hP, hD.weaken (fun _ q _ hq => hA1 _ hq), ⟨Nat.le_trans hS.1 (by rw [e1]; exact hz), fun q h1 h2 => by rw [e1, hk q (Nat.lt_of_lt_of_le h1 hS.1) (fun z => h2 (hA1 q z))]; exact hS.2.1 q h1 h2, fun q hq => by
      rcases List.mem_append.mp hq with h9 | h9
      · exact hS.2.2 q h9
      · exact hA1 _ (hL q h9)⟩, hdom⟩ T' rfl X'
  exact ⟨t2, st t2 a1, b1⟩
variable {y' : MethodName} {b' : ByteArray} {n' np : Nat} {r' : Option FieldType} {rm : Room} {bq : Nat} {As : List Value} {P : Option Value → IH → Prop}
theorem ca_IP (F : Fx p s m args meth c D cy A H0 y b n r) (hAO : AOs s) (M : Mo D cy A H0 h H locs) (hM : CtP l D cy y' b' n' none rm h H.size (.ref bq :: As) P) (G : MI y' b' n' np) (hlk : Cond.methodLink y.cls index y' ∈ gw) (hn : As.length = np) (hR : rm.frames + 1 ≤ R.frames ∧ 8 + (n' + 11) + rm.locals ≤ R.locals) (hf : cells + rm.cells ≤ R.cells ∧ slots + rm.slots ≤ R.slots) (hl : ls.size = n) (hst0 : st0 = As.reverse ++ .ref bq :: rest) (hst : (rest.map fun v => v.category).sum ≤ 8) (hdg : decode b pc = .ok (.invokespecial index, 3))
    (kk : ∀ (rv : Option Value) (h' : IH) (H1 : Heap) (locs1 : List Loc), P rv h' → Mo D cy A H0 h' H1 locs1 → W p l e R s m args below meth c H1 locs1 (cells + rm.cells) (slots + rm.slots) Q (F0 m (pc + 3) ls (rv.toList ++ rest))) : W p l e R s m args below meth c H locs cells slots Q (F0 m pc ls st0) := by
  have F0_ := F
  obtain ⟨hx, hb, -, hml, hown, -, hts, hK, hN, hA, -⟩ := F
  obtain ⟨hc, hi, hnm, hini, hd⟩ := G
  have tw : ∀ w ∈ gw, w.before args s = true := fun w hw => hts w (List.mem_cons_of_mem _ hw)
  exact ca_goP (va_runI (As := As) (rest := rest) ⟨hx, hb, hml, hown, hts⟩ hM ⟨callB_of np hts (goodB hc) rfl rfl rfl (tw _ hini) (tw _ hlk) hd hR, hnm, tw _ hi⟩ ⟨PrP_blind, fun U hU hW => ⟨M.pre F0_ U hU hW, hAO.moved hW.alike⟩⟩ rfl hn hl hst0 (lv_room hst) hdg hf) M.2.2.1 (M.free hA) kk
theorem ca_INP {host : String} (F : Fx p s m args meth c D cy A H0 y b n r) (hAO : AOs s) (M : Mo D cy A H0 h H locs) (hM : CtP l D cy y' b' n' none rm h H.size (.ref bq :: As) P) (G : MI y' b' n' np) (hlk : Cond.methodLinkNest y.cls index y' host ∈ nestW) (hn : As.length = np) (hR : rm.frames + 1 ≤ R.frames ∧ 8 + (n' + 11) + rm.locals ≤ R.locals) (hf : cells + rm.cells ≤ R.cells ∧ slots + rm.slots ≤ R.slots) (hl : ls.size = n) (hst0 : st0 = As.reverse ++ .ref bq :: rest) (hst : (rest.map fun v => v.category).sum ≤ 8) (hdg : decode b pc = .ok (.invokespecial index, 3))
    (kk : ∀ (rv : Option Value) (h' : IH) (H1 : Heap) (locs1 : List Loc), P rv h' → Mo D cy A H0 h' H1 locs1 → W p l e R s m args below meth c H1 locs1 (cells + rm.cells) (slots + rm.slots) Q (F0 m (pc + 3) ls (rv.toList ++ rest))) : W p l e R s m args below meth c H locs cells slots Q (F0 m pc ls st0) := by
  have F0_ := F
  obtain ⟨hx, hb, -, hml, hown, -, hts, hK, hN, hA, -⟩ := F
  obtain ⟨hc, hi, hnm, hini, hd⟩ := G
  have tw : ∀ w ∈ gw, w.before args s = true := fun w hw => hts w (List.mem_cons_of_mem _ hw)
  exact ca_goP (va_runIN (As := As) (rest := rest) ⟨hx, hb, hml, hown, hts⟩ hM ⟨va_cnB np hts (goodB hc) rfl rfl rfl (hN _ hlk) (tw _ hini) hd hR, hnm, tw _ hi⟩ ⟨PrP_blind, fun U hU hW => ⟨M.pre F0_ U hU hW, hAO.moved hW.alike⟩⟩ rfl hn hl hst0 (lv_room hst) hdg hf) M.2.2.1 (M.free hA) kk
theorem Mo.endP (F : Fx p s m args meth c D cy A H0 y b n r) (M : Mo D cy A H0 h H locs) {t : State} {oc : Option Value} (hq : P oc h) (ht : t.heap = H) (hW : s.WarmedH t.vm) : QP D cy A P args s (.returned oc) t := by
  obtain ⟨hx, hb, -, -, -, -, -, hK, -, -, hH, -⟩ := F
  subst hH
  exact ⟨⟨oc, h, rfl, hq, by rw [ht]; exact M.1, va_K.moved hW.alike hK, M.2.1, M.2.2.2⟩, M.2.2.1.F ht⟩
theorem re_vP (F : Fx p s m args meth c D cy A H0 y b n none) (M : Mo D cy A H0 h H locs) (hq : P none h) (hdg : decode b pc = .ok (.return_, 1)) : W p l e R s m args below meth c H locs cells slots (MQ below (QP D cy A P) args s cells slots A) (F0 m pc ls []) :=
  W.vret F.1 F.2.1 F.2.2.1 (fun t ht hW => M.endP F hq ht hW) M.2.2.1.2.2 hdg F.2.2.2.2.2.1
theorem re_iP {v : Int32} (F : Fx p s m args meth c D cy A H0 y b n (some .int)) (M : Mo D cy A H0 h H locs) (hq : P (some (.int v)) h) (hdg : decode b pc = .ok (.ireturn, 1)) : W p l e R s m args below meth c H locs cells slots (MQ below (QP D cy A P) args s cells slots A) (F0 m pc ls [.int v]) :=
  W.iret F.1 F.2.1 F.2.2.1 (fun t ht hW => M.endP F hq ht hW) M.2.2.1.2.2 hdg F.2.2.2.2.2.1
end RW6
