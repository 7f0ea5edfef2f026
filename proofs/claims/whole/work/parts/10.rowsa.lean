/-! ===== the walked heap over the machine's; contracts; rows ===== -/
def wsA (y : MethodName) (b : ByteArray) (n : Nat) (r : Option FieldType) : List Cond := .code y b n r :: gw
def tysO (cy : Nat → ClassId) : List (ClassId × FieldType) := [(cy 0, .int), (cy 1, .long), (cy 2, .boolean), (cy 3, .object RX2), (cy 4, .object RX4), (cy 5, .object RX9), (cy 6, .array .int)]
def NW (U : State) : Prop := ∀ w ∈ nestW, va_Nw w U
def isNest : Cond → Bool
  | .fieldLinkNest .. => true
  | .methodLinkNest .. => true
  | _ => false
theorem nest_all : nestW.all isNest = true := by decide +kernel
theorem NW.warm {s U : State} (hW : s.WarmedH U.vm) (h : NW s) : NW U := by
  intro w hw
  have h1 := List.all_eq_true.mp nest_all w hw
  have h2 := h w hw
  cases w <;> first | exact va_Nw.warmF hW h2 | exact va_Nw.warmM hW h2 | (cases h1)
theorem NW.same {u U : State} (hv : u.vm = U.vm) (h : NW u) : NW U := by
  intro w hw
  have h1 := List.all_eq_true.mp nest_all w hw
  have h2 := h w hw
  cases w <;> first | exact va_Nw.same rfl hv h2 | (cases h1)
theorem cat_rf (x : Option Nat) : (va_rf x).category = 1 := by cases x <;> rfl
def Wd (D : va_G) (cy : Nat → ClassId) (h : IH) (A : Nat → Prop) (U : State) : Prop := va_P D vwCl (va_pl (ads h) (ent cy h)) U.heap ∧ va_K D vwCl (tysO cy) U ∧ va_D A (va_pl (ads h) (ent cy h)) ∧ ∀ a, kd h a ≠ 0 → a ∈ ads h
/-- the String constants: lengths, bytes, where each is named -/
def scLen : List Nat := [1, 1, 1, 4, 4, 4, 4, 3, 1, 1, 1, 1, 1]
def scByt : List (List Int32) := [[113], [114], [120], [98, 97, 110, 100], [107, 105, 110, 100], [122, 111, 110, 101], [109, 105, 110, 101], [102, 97, 114], [43], [45], [42], [47], [63]]
def scOwn (i : Nat) : String := [RX5, RX5, RX5, RX3, RX3, RX3, RX3, RX3, RX3, RX3, RX3, RX3, RX3].getD i ""
def scIx (i : Nat) : Nat := [73, 85, 90, 64, 70, 72, 74, 76, 78, 80, 82, 84, 86].getD i 0
def scTx (i : Nat) : String := ["q", "\x72", "x", "band", "kind", "zone", "mine", "far", "+", "-", "*", "/", "?"].getD i ""
def SC (cy : Nat → ClassId) (A : Nat → Prop) (U : State) : Prop := vk_S 13 scLen scByt (fun i => cy (100 + i)) (fun i => cy (200 + i)) A U U.heap ∧ (∀ i, i < 13 → vk_R (scOwn i) (scIx i) (scTx i) (cy (100 + i)) U) ∧ va_Z "java/lang/String" "COMPACT_STRINGS" "Z" (.int 1) A U U.heap ∧ ∃ x : Option Nat, va_Z "jdk/internal/util/Preconditions" "SIOOBE_FORMATTER" "Ljava/util/function/BiFunction;" (va_rf x) A U U.heap
abbrev Am (cy : Nat → ClassId) (h : IH) (sz : Nat) : Nat → Prop := va_A (va_pl (ads h) (ent cy h)) sz
def Pr (D : va_G) (cy : Nat → ClassId) (h : IH) (sz : Nat) (av : List Value) : Array Value → State → Prop := va_Pc av (fun U => U.heap.size = sz ∧ Wd D cy h (fun _ => True) U ∧ NW U ∧ SC cy (Am cy h sz) U)
def QR (D : va_G) (cy : Nat → ClassId) (h' : IH) (A : Nat → Prop) (rv : Option Value) : Array Value → State → Outcome → State → Prop := fun _ st oc t => oc = .returned rv ∧ Wd D cy h' A t ∧ va_F A st t
def Mo (D : va_G) (cy : Nat → ClassId) (A : Nat → Prop) (H0 : Heap) (h : IH) (H : Heap) (locs : List Loc) : Prop := va_P D vwCl (va_pl (ads h) (ent cy h)) H ∧ va_D A (va_pl (ads h) (ent cy h)) ∧ va_S A H0 H locs ∧ ∀ a, kd h a ≠ 0 → a ∈ ads h
/-- a method's contract: from the heap h, with the arguments av, it answers rv and leaves the heap h' -/
def Ct (l : Launch) (D : va_G) (cy : Nat → ClassId) (y : MethodName) (b : ByteArray) (n : Nat) (r : Option FieldType) (rm : Room) (h : IH) (sz : Nat) (av : List Value) (h' : IH) (rv : Option Value) : Prop :=
  Met l y (wsA y b n r) rm (Pr D cy h sz av) (QR D cy h' (Am cy h sz) rv) rm.cells rm.slots (Am cy h sz)
theorem Pr_blind {D : va_G} {cy : Nat → ClassId} {h : IH} {sz : Nat} {av : List Value} : FrameBlind (Pr D cy h sz av) := by
  intro a U g mk q
  obtain ⟨q0, q1, ⟨q2, q3, q4, q5⟩, q6, q7, q8, q9, x0, q10⟩ := q
  exact ⟨q0, q1, ⟨q2, va_K.moved (u := U) (U := U.calling g mk a) (Vm.Alike.refl U.vm) q3, q4, q5⟩, NW.same (u := U) (U := U.calling g mk a) rfl q6, vk_S.moved (u := U) (U := U.calling g mk a) (Vm.Alike.refl U.vm) q7, fun i hi => vk_R.same (u := U) (U := U.calling g mk a) rfl (q8 i hi), va_Z.moved (u := U) (U := U.calling g mk a) (Vm.Alike.refl U.vm) q9, x0, va_Z.moved (u := U) (U := U.calling g mk a) (Vm.Alike.refl U.vm) q10⟩
section RW1
variable {p : Program} {l : Launch} {e : Env} {R : Room} {s : State} {m : MethodId} {args : Array Value} {below : List Frame} {meth : Method} {c : Code} {H : Heap} {locs : List Loc} {cells slots : Nat} {Q : State → Prop}
variable {cc : ByteArray} {pc : Nat} {ls : Array Slot} {rest : List Value} {D : va_G} {cy : Nat → ClassId} {A : Nat → Prop} {H0 : Heap} {h : IH}
theorem Mo.at {a : Nat} (M : Mo D cy A H0 h H locs) (hk : kd h a ≠ 0) : ∃ q : Nat, (va_pl (ads h) (ent cy h))[q]? = some (a, ent cy h a) := va_pl_get (X := []) (M.2.2.2 a hk)
/-- the fixed part of a walk: the machine, the code, the words, the tables, the nest's words, where new cells may be -/
def Fx (p : Program) (s : State) (m : MethodId) (args : Array Value) (meth : Method) (c : Code) (D : va_G) (cy : Nat → ClassId) (A : Nat → Prop) (H0 : Heap) (y : MethodName) (b : ByteArray) (n : Nat) (r : Option FieldType) : Prop :=
  p.tables.exec = Jvm.exec ∧ c.code = b ∧ meth.sig.returnType = r ∧ c.maxLocals = n ∧ s.vm.findClass y.cls = some m.cls ∧ meth.locks = false ∧ (∀ w ∈ wsA y b n r, w.before args s = true) ∧ va_K D vwCl (tysO cy) s ∧ NW s ∧ (∀ q : Nat, H0.size ≤ q → A q) ∧ H0 = s.heap ∧ SC cy A s
end RW1
set_option maxHeartbeats 4000000 in
theorem ct_start {l : Launch} {D : va_G} {cy : Nat → ClassId} {y : MethodName} {b : ByteArray} {n : Nat} {r : Option FieldType} {rm : Room} {h : IH} {sz : Nat} {av : List Value} {h' : IH} {rv : Option Value} (hy : plainName y.cls = true) (lv : List (Nat × Value)) (hlen : (lg_sl av).length ≤ n) (hlv : lv_args 0 av = lv)
    (W0 : ∀ (p : Program) (e : Env) (s : State) (m : MethodId) (args : Array Value) (below : List Frame) (meth : Method) (c : Code) (A : Nat → Prop) (H0 : Heap) (ls : Array Slot), Fx p s m args meth c D cy A H0 y b n r → (y.name = "<init>" → meth.name = "<init>") → s.heap.size = sz → Mo D cy A H0 h s.heap [] → lv_has ls n lv → W p l e rm s m args below meth c s.heap [] 0 0 (MQ below (QR D cy h' A rv) args s rm.cells rm.slots A) (F0 m 0 ls [])) :
    Ct l D cy y b n r rm h sz av h' rv := by
  refine Met.ofW (cc := b) (maxL := n) (ret := r) hy rfl ?_
  intro p e s m args below meth c s₁ B hml hv
  obtain ⟨rfl, hsz, ⟨hP, hK, hD0, hdom⟩, hN, hSC⟩ := hv
  have hts := atoms_spec (ws := wsA y b n r) B.pre
  have hown : s.vm.findClass y.cls = some m.cls := findClass_of_methodNamed B.named
  have hin : y.name = "<init>" → meth.name = "<init>" := fun hq => (name_of_methodNamed B.named B.method).1.trans hq
  subst hsz
  have hD := hD0.self (sz := s.heap.size)
  have hl := lv_entry av (n := n) hlen
  rw [hlv] at hl
  rw [lg_entry_eq]
  exact W0 p e s m _ below meth c _ s.heap _ ⟨B.exec, B.bytes, B.returns, hml, hown, B.notSynchronized, hts, hK, hN, fun q hq => Or.inr hq, rfl, hSC⟩ hin rfl ⟨hP, hD, va_S.rf, hdom⟩ hl
def gI (h : IH) (c k : Nat) (x : Option Nat) : Option Int32 := x.bind (fun a => if kd h a = c + 1 then some (fI h (100 * c + k) a) else none)
def gL (h : IH) (c k : Nat) (x : Option Nat) : Option Int64 := x.bind (fun a => if kd h a = c + 1 then some (fL h (100 * c + k) a) else none)
def gR (h : IH) (c k : Nat) (x : Option Nat) : Option (Option Nat) := x.bind (fun a => if kd h a = c + 1 then some (fR h (100 * c + k) a) else none)
def pI (h : IH) (c k : Nat) (x : Option Nat) (v : Int32) : Option IH := x.bind (fun a => if kd h a = c + 1 then some (wfI h (100 * c + k) a v) else none)
def pZ (h : IH) (c k : Nat) (x : Option Nat) (v : Int32) : Option IH := x.bind (fun a => if kd h a = c + 1 ∧ (v = 0 ∨ v = 1) then some (wfI h (100 * c + k) a v) else none)
def pL (h : IH) (c k : Nat) (x : Option Nat) (v : Int64) : Option IH := x.bind (fun a => if kd h a = c + 1 then some (wfL h (100 * c + k) a v) else none)
def pR (h : IH) (c k : Nat) (x : Option Nat) (v : Option Nat) : Option IH := x.bind (fun a => if kd h a = c + 1 then some (wfR h (100 * c + k) a v) else none)
def lnO (h : IH) (x : Option Nat) : Option Int32 := x.bind (fun a => if 20 ≤ kd h a ∧ kd h a < 27 then some (nI (ln h a)) else none)
def aI (h : IH) (x : Option Nat) (j : Int32) : Option Int32 := x.bind (fun a => if kd h a = 20 ∧ ¬ (j < 0 ∨ ln h a ≤ j.toNatClampNeg) then some (rI h a j.toNatClampNeg) else none)
def aZ (h : IH) (x : Option Nat) (j : Int32) : Option Int32 := x.bind (fun a => if kd h a = 22 ∧ ¬ (j < 0 ∨ ln h a ≤ j.toNatClampNeg) then some (rI h a j.toNatClampNeg) else none)
def aJ (h : IH) (x : Option Nat) (j : Int32) : Option Int64 := x.bind (fun a => if kd h a = 21 ∧ ¬ (j < 0 ∨ ln h a ≤ j.toNatClampNeg) then some (rL h a j.toNatClampNeg) else none)
def aR (h : IH) (k : Nat) (x : Option Nat) (j : Int32) : Option (Option Nat) := x.bind (fun a => if kd h a = 20 + k ∧ ¬ (j < 0 ∨ ln h a ≤ j.toNatClampNeg) then some (rR h a j.toNatClampNeg) else none)
def sI (h : IH) (x : Option Nat) (j v : Int32) : Option IH := x.bind (fun a => if kd h a = 20 ∧ ¬ (j < 0 ∨ ln h a ≤ j.toNatClampNeg) then some (wrI h a j.toNatClampNeg v) else none)
def sZ (h : IH) (x : Option Nat) (j v : Int32) : Option IH := x.bind (fun a => if (kd h a = 22 ∧ ¬ (j < 0 ∨ ln h a ≤ j.toNatClampNeg)) ∧ (v = 0 ∨ v = 1) then some (wrI h a j.toNatClampNeg v) else none)
def sJ (h : IH) (x : Option Nat) (j : Int32) (v : Int64) : Option IH := x.bind (fun a => if kd h a = 21 ∧ ¬ (j < 0 ∨ ln h a ≤ j.toNatClampNeg) then some (wrL h a j.toNatClampNeg v) else none)
/-- a reference to an object of class c is laid into a row of such -/
def sR (h : IH) (k c : Nat) (x : Option Nat) (j : Int32) (v : Option Nat) : Option IH := x.bind (fun a => v.bind (fun w => if (kd h a = 20 + k ∧ kd h w = c + 1) ∧ ¬ (j < 0 ∨ ln h a ≤ j.toNatClampNeg) then some (wrR h a j.toNatClampNeg (some w)) else none))
theorem gI_some {h : IH} {c k : Nat} {x : Option Nat} {v : Int32} (hg : gI h c k x = some v) : ∃ a, x = some a ∧ kd h a = c + 1 ∧ fI h (100 * c + k) a = v := by
  cases x with
  | none => cases hg
  | some a =>
    by_cases hk : kd h a = c + 1
    · exact ⟨a, rfl, hk, by simpa [gI, hk] using hg⟩
    · simp [gI, hk] at hg
theorem gL_some {h : IH} {c k : Nat} {x : Option Nat} {v : Int64} (hg : gL h c k x = some v) : ∃ a, x = some a ∧ kd h a = c + 1 ∧ fL h (100 * c + k) a = v := by
  cases x with
  | none => cases hg
  | some a =>
    by_cases hk : kd h a = c + 1
    · exact ⟨a, rfl, hk, by simpa [gL, hk] using hg⟩
    · simp [gL, hk] at hg
theorem gR_some {h : IH} {c k : Nat} {x : Option Nat} {v : Option Nat} (hg : gR h c k x = some v) : ∃ a, x = some a ∧ kd h a = c + 1 ∧ fR h (100 * c + k) a = v := by
  cases x with
  | none => cases hg
  | some a =>
    by_cases hk : kd h a = c + 1
    · exact ⟨a, rfl, hk, by simpa [gR, hk] using hg⟩
    · simp [gR, hk] at hg
theorem pI_some {h h' : IH} {c k : Nat} {x : Option Nat} {v : Int32} (hg : pI h c k x v = some h') : ∃ a, x = some a ∧ kd h a = c + 1 ∧ wfI h (100 * c + k) a v = h' := by
  cases x with
  | none => cases hg
  | some a =>
    by_cases hk : kd h a = c + 1
    · exact ⟨a, rfl, hk, by simpa [pI, hk] using hg⟩
    · simp [pI, hk] at hg
theorem pZ_some {h h' : IH} {c k : Nat} {x : Option Nat} {v : Int32} (hg : pZ h c k x v = some h') : ∃ a, x = some a ∧ kd h a = c + 1 ∧ (v = 0 ∨ v = 1) ∧ wfI h (100 * c + k) a v = h' := by
  cases x with
  | none => cases hg
  | some a =>
    by_cases hk : kd h a = c + 1 ∧ (v = 0 ∨ v = 1)
    · exact ⟨a, rfl, hk.1, hk.2, by simpa [pZ, hk] using hg⟩
    · simp [pZ, hk] at hg
theorem pL_some {h h' : IH} {c k : Nat} {x : Option Nat} {v : Int64} (hg : pL h c k x v = some h') : ∃ a, x = some a ∧ kd h a = c + 1 ∧ wfL h (100 * c + k) a v = h' := by
  cases x with
  | none => cases hg
  | some a =>
    by_cases hk : kd h a = c + 1
    · exact ⟨a, rfl, hk, by simpa [pL, hk] using hg⟩
    · simp [pL, hk] at hg
theorem pR_some {h h' : IH} {c k : Nat} {x v : Option Nat} (hg : pR h c k x v = some h') : ∃ a, x = some a ∧ kd h a = c + 1 ∧ wfR h (100 * c + k) a v = h' := by
  cases x with
  | none => cases hg
  | some a =>
    by_cases hk : kd h a = c + 1
    · exact ⟨a, rfl, hk, by simpa [pR, hk] using hg⟩
    · simp [pR, hk] at hg
theorem bif_some {α : Type} {x : Option Nat} {P : Nat → Prop} {g : Nat → α} {r : α} {_ : ∀ a, Decidable (P a)} (hg : x.bind (fun a => if P a then some (g a) else none) = some r) : ∃ a, x = some a ∧ P a ∧ g a = r := by
  cases x with
  | none => cases hg
  | some a =>
    by_cases hk : P a
    · exact ⟨a, rfl, hk, by simpa [hk] using hg⟩
    · simp [hk] at hg
/-- a field's facts: its class, its words, its type -/
def FG (ci k t : Nat) (C : String) (T : u_T) (N : Nat) : Prop := vwCl[ci]? = some (C, T, N) ∧ (∀ w ∈ u_ws C T N, w ∈ gw) ∧ k < N ∧ ci < 19 ∧ (fT ci)[k]? = some t
def FP (k : Nat) (T : u_T) (N : Nat) (ty : FieldType) : Prop := ∃ ty0 : Nat → FieldType, (∀ k, k < N → parseFieldDescriptor (T k).2.2.1 = some (ty0 k)) ∧ (∀ a, a < N → ∀ b, b < N → a ≠ b → (T a).2.1 ≠ (T b).2.1) ∧ parseFieldDescriptor (T k).2.2.1 = some ty
theorem nar_z {v : Int32} (h : v = 0 ∨ v = 1) : narrow .boolean (.int v) = .int v := by rcases h with rfl | rfl <;> rfl
theorem fit_z {v : Int32} (h : v = 0 ∨ v = 1) : fits .boolean (.int v) = true := by rcases h with rfl | rfl <;> rfl
theorem nar_o (C : String) (x : Option Nat) : narrow (.object C) (va_rf x) = va_rf x := by cases x <;> rfl
theorem fit_o (C : String) (x : Option Nat) : fits (.object C) (va_rf x) = true := by cases x <;> rfl
theorem nar_a (t : FieldType) (x : Option Nat) : narrow (.array t) (va_rf x) = va_rf x := by cases x <;> rfl
theorem fit_a (t : FieldType) (x : Option Nat) : fits (.array t) (va_rf x) = true := by cases x <;> rfl
section RW2
variable {p : Program} {l : Launch} {e : Env} {R : Room} {s : State} {m : MethodId} {args : Array Value} {below : List Frame} {meth : Method} {c : Code} {H : Heap} {locs : List Loc} {cells slots : Nat} {Q : State → Prop}
variable {pc : Nat} {ls : Array Slot} {rest : List Value} {D : va_G} {cy : Nat → ClassId} {A : Nat → Prop} {H0 : Heap} {h h' : IH}
variable {y : MethodName} {b : ByteArray} {n : Nat} {r : Option FieldType} {ci k index N t : Nat} {C : String} {T : u_T} {x : Option Nat}
theorem ro_get {a : Nat} {v : Value} (F : Fx p s m args meth c D cy A H0 y b n r) (M : Mo D cy A H0 h H locs) (G : FG ci k t C T N) (hlk : Cond.fieldLink y.cls index (T k).1 (T k).2.1 (T k).2.2.1 ∈ gw) (hk : kd h a = ci + 1) (hv : fV h ci a k t = v) (hdg : decode b pc = .ok (.getfield index, 3))
    (kk : W p l e R s m args below meth c H locs cells slots Q (F0 m (pc + 3) ls (v :: rest))) : W p l e R s m args below meth c H locs cells slots Q (F0 m pc ls (.ref a :: rest)) := by
  obtain ⟨hx, hb, -, -, hown, -, hts, hK, -⟩ := F
  obtain ⟨hc, hin, hkN, hci, ht⟩ := G
  obtain ⟨q, hq⟩ := M.at (a := a) (by omega)
  rw [ent_o hk hci] at hq
  exact va_get hx hb hts (fun w hw => List.mem_cons_of_mem _ (hin w hw)) hown hK M.1 q hq hc k hkN (hts _ (List.mem_cons_of_mem _ hlk)) (fun _ h9 => h9) ((flds_get ht).trans (congrArg some hv)) hdg kk
theorem ro_getN {a : Nat} {v : Value} {host : String} (F : Fx p s m args meth c D cy A H0 y b n r) (M : Mo D cy A H0 h H locs) (G : FG ci k t C T N) (hlk : Cond.fieldLinkNest y.cls index (T k).1 (T k).2.1 (T k).2.2.1 host ∈ nestW) (hk : kd h a = ci + 1) (hv : fV h ci a k t = v) (hdg : decode b pc = .ok (.getfield index, 3))
    (kk : W p l e R s m args below meth c H locs cells slots Q (F0 m (pc + 3) ls (v :: rest))) : W p l e R s m args below meth c H locs cells slots Q (F0 m pc ls (.ref a :: rest)) := by
  obtain ⟨hx, hb, -, -, hown, -, hts, hK, hN, -⟩ := F
  obtain ⟨hc, hin, hkN, hci, ht⟩ := G
  obtain ⟨q, hq⟩ := M.at (a := a) (by omega)
  rw [ent_o hk hci] at hq
  exact va_getN hx hb hts (fun w hw => List.mem_cons_of_mem _ (hin w hw)) hown hK M.1 q hq hc k hkN (va_Nw.use rfl (hN _ hlk)) (fun _ h9 => h9) ((flds_get ht).trans (congrArg some hv)) hdg kk
theorem ro_gI {v : Int32} (F : Fx p s m args meth c D cy A H0 y b n r) (M : Mo D cy A H0 h H locs) (G : FG ci k 0 C T N) (hlk : Cond.fieldLink y.cls index (T k).1 (T k).2.1 (T k).2.2.1 ∈ gw) (hg : gI h ci k x = some v) (hdg : decode b pc = .ok (.getfield index, 3))
    (kk : W p l e R s m args below meth c H locs cells slots Q (F0 m (pc + 3) ls (.int v :: rest))) : W p l e R s m args below meth c H locs cells slots Q (F0 m pc ls (va_rf x :: rest)) := by
  obtain ⟨a, rfl, hk, hv⟩ := gI_some hg
  exact ro_get F M G hlk hk (congrArg Value.int hv) hdg kk
theorem ro_gIN {v : Int32} {host : String} (F : Fx p s m args meth c D cy A H0 y b n r) (M : Mo D cy A H0 h H locs) (G : FG ci k 0 C T N) (hlk : Cond.fieldLinkNest y.cls index (T k).1 (T k).2.1 (T k).2.2.1 host ∈ nestW) (hg : gI h ci k x = some v) (hdg : decode b pc = .ok (.getfield index, 3))
    (kk : W p l e R s m args below meth c H locs cells slots Q (F0 m (pc + 3) ls (.int v :: rest))) : W p l e R s m args below meth c H locs cells slots Q (F0 m pc ls (va_rf x :: rest)) := by
  obtain ⟨a, rfl, hk, hv⟩ := gI_some hg
  exact ro_getN F M G hlk hk (congrArg Value.int hv) hdg kk
theorem ro_gL {v : Int64} (F : Fx p s m args meth c D cy A H0 y b n r) (M : Mo D cy A H0 h H locs) (G : FG ci k 1 C T N) (hlk : Cond.fieldLink y.cls index (T k).1 (T k).2.1 (T k).2.2.1 ∈ gw) (hg : gL h ci k x = some v) (hdg : decode b pc = .ok (.getfield index, 3))
    (kk : W p l e R s m args below meth c H locs cells slots Q (F0 m (pc + 3) ls (.long v :: rest))) : W p l e R s m args below meth c H locs cells slots Q (F0 m pc ls (va_rf x :: rest)) := by
  obtain ⟨a, rfl, hk, hv⟩ := gL_some hg
  exact ro_get F M G hlk hk (congrArg Value.long hv) hdg kk
theorem ro_gLN {v : Int64} {host : String} (F : Fx p s m args meth c D cy A H0 y b n r) (M : Mo D cy A H0 h H locs) (G : FG ci k 1 C T N) (hlk : Cond.fieldLinkNest y.cls index (T k).1 (T k).2.1 (T k).2.2.1 host ∈ nestW) (hg : gL h ci k x = some v) (hdg : decode b pc = .ok (.getfield index, 3))
    (kk : W p l e R s m args below meth c H locs cells slots Q (F0 m (pc + 3) ls (.long v :: rest))) : W p l e R s m args below meth c H locs cells slots Q (F0 m pc ls (va_rf x :: rest)) := by
  obtain ⟨a, rfl, hk, hv⟩ := gL_some hg
  exact ro_getN F M G hlk hk (congrArg Value.long hv) hdg kk
theorem ro_gR {v : Option Nat} (F : Fx p s m args meth c D cy A H0 y b n r) (M : Mo D cy A H0 h H locs) (G : FG ci k 2 C T N) (hlk : Cond.fieldLink y.cls index (T k).1 (T k).2.1 (T k).2.2.1 ∈ gw) (hg : gR h ci k x = some v) (hdg : decode b pc = .ok (.getfield index, 3))
    (kk : W p l e R s m args below meth c H locs cells slots Q (F0 m (pc + 3) ls (va_rf v :: rest))) : W p l e R s m args below meth c H locs cells slots Q (F0 m pc ls (va_rf x :: rest)) := by
  obtain ⟨a, rfl, hk, hv⟩ := gR_some hg
  exact ro_get F M G hlk hk (congrArg va_rf hv) hdg kk
theorem ro_gRN {v : Option Nat} {host : String} (F : Fx p s m args meth c D cy A H0 y b n r) (M : Mo D cy A H0 h H locs) (G : FG ci k 2 C T N) (hlk : Cond.fieldLinkNest y.cls index (T k).1 (T k).2.1 (T k).2.2.1 host ∈ nestW) (hg : gR h ci k x = some v) (hdg : decode b pc = .ok (.getfield index, 3))
    (kk : W p l e R s m args below meth c H locs cells slots Q (F0 m (pc + 3) ls (va_rf v :: rest))) : W p l e R s m args below meth c H locs cells slots Q (F0 m pc ls (va_rf x :: rest)) := by
  obtain ⟨a, rfl, hk, hv⟩ := gR_some hg
  exact ro_getN F M G hlk hk (congrArg va_rf hv) hdg kk
/-- behind a store: the heap with one cell's entry another -/
theorem Mo.set {a q : Nat} {en : va_E} {H1 : Heap} {locs1 : List Loc} (M : Mo D cy A H0 h H locs) (hq : (va_pl (ads h) (ent cy h))[q]? = some (a, ent cy h a)) (hk : kd h a ≠ 0) (hads : ads h' = ads h) (hkd : kd h' = kd h) (he : ∀ z, va_up (ent cy h) a en z = ent cy h' z)
    (hP : va_P D vwCl ((va_pl (ads h) (ent cy h)).set q (a, en)) H1) (hD : va_D A ((va_pl (ads h) (ent cy h)).set q (a, en))) (hS : va_S A H0 H1 locs1) : Mo D cy A H0 h' H1 locs1 := by
  have e1 : (va_pl (ads h) (ent cy h)).set q (a, en) = va_pl (ads h) (va_up (ent cy h) a en) := va_pl_set (X := []) (A := A) M.2.1 (M.2.2.2 a hk) hq
  have e2 : va_pl (ads h) (va_up (ent cy h) a en) = va_pl (ads h') (ent cy h') := by rw [hads]; exact va_pl_congr he
  rw [e1, e2] at hP hD
  exact ⟨hP, hD, hS, fun z hz => by rw [hads]; rw [hkd] at hz; exact M.2.2.2 z hz⟩
theorem ro_put {a : Nat} {v : Value} {ty : FieldType} (F : Fx p s m args meth c D cy A H0 y b n r) (M : Mo D cy A H0 h H locs) (G : FG ci k t C T N) (P : FP k T N ty) (hfin : (T k).2.2.2 = false) (hlk : Cond.fieldLink y.cls index (T k).1 (T k).2.1 (T k).2.2.1 ∈ gw) (hk : kd h a = ci + 1) (hn : narrow ty v = v) (hfit : fits ty v = true) (hads : ads h' = ads h) (hkd : kd h' = kd h) (he : ∀ z, va_up (ent cy h) a (.inr (ci, (flds h ci a).set k v)) z = ent cy h' z) (hdg : decode b pc = .ok (.putfield index, 3))
    (kk : ∀ (H1 : Heap) (locs1 : List Loc), Mo D cy A H0 h' H1 locs1 → W p l e R s m args below meth c H1 locs1 cells slots Q (F0 m (pc + 3) ls rest)) : W p l e R s m args below meth c H locs cells slots Q (F0 m pc ls (v :: .ref a :: rest)) := by
  obtain ⟨hx, hb, -, -, hown, -, hts, hK, -⟩ := F
  obtain ⟨hc, hin, hkN, hci, ht⟩ := G
  obtain ⟨ty0, hty, hnm, hd⟩ := P
  obtain ⟨q, hq0⟩ := M.at (a := a) (by omega)
  have hq := hq0
  rw [ent_o hk hci] at hq
  exact va_put hx hb hts (fun w hw => List.mem_cons_of_mem _ (hin w hw)) ty0 hty hnm hown hK M.1 M.2.1 M.2.2.1 q hq hc k hkN (hts _ (List.mem_cons_of_mem _ hlk)) (fun _ h9 => h9) hfin hd hn hfit (flds_len ht) hdg (fun H1 locs1 hP hD hS => kk H1 locs1 (M.set hq0 (by omega) hads hkd he hP hD hS))
theorem ro_putN {a : Nat} {v : Value} {ty : FieldType} {host : String} (F : Fx p s m args meth c D cy A H0 y b n r) (M : Mo D cy A H0 h H locs) (G : FG ci k t C T N) (P : FP k T N ty) (hfin : (T k).2.2.2 = false) (hlk : Cond.fieldLinkNest y.cls index (T k).1 (T k).2.1 (T k).2.2.1 host ∈ nestW) (hk : kd h a = ci + 1) (hn : narrow ty v = v) (hfit : fits ty v = true) (hads : ads h' = ads h) (hkd : kd h' = kd h) (he : ∀ z, va_up (ent cy h) a (.inr (ci, (flds h ci a).set k v)) z = ent cy h' z) (hdg : decode b pc = .ok (.putfield index, 3))
    (kk : ∀ (H1 : Heap) (locs1 : List Loc), Mo D cy A H0 h' H1 locs1 → W p l e R s m args below meth c H1 locs1 cells slots Q (F0 m (pc + 3) ls rest)) : W p l e R s m args below meth c H locs cells slots Q (F0 m pc ls (v :: .ref a :: rest)) := by
  obtain ⟨hx, hb, -, -, hown, -, hts, hK, hN, -⟩ := F
  obtain ⟨hc, hin, hkN, hci, ht⟩ := G
  obtain ⟨ty0, hty, hnm, hd⟩ := P
  obtain ⟨q, hq0⟩ := M.at (a := a) (by omega)
  have hq := hq0
  rw [ent_o hk hci] at hq
  exact va_putN hx hb hts (fun w hw => List.mem_cons_of_mem _ (hin w hw)) ty0 hty hnm hown hK M.1 M.2.1 M.2.2.1 q hq hc k hkN (va_Nw.use rfl (hN _ hlk)) (fun _ h9 => h9) hfin hd hn hfit (flds_len ht) hdg (fun H1 locs1 hP hD hS => kk H1 locs1 (M.set hq0 (by omega) hads hkd he hP hD hS))
theorem ro_putF {a : Nat} {v : Value} {ty : FieldType} (F : Fx p s m args meth c D cy A H0 y b n r) (hinit : meth.name = "<init>") (M : Mo D cy A H0 h H locs) (G : FG ci k t C T N) (P : FP k T N ty) (hfin : (T k).2.2.2 = true) (hdecl : (T k).1 = y.cls) (hlk : Cond.fieldLink y.cls index (T k).1 (T k).2.1 (T k).2.2.1 ∈ gw) (hk : kd h a = ci + 1) (hn : narrow ty v = v) (hfit : fits ty v = true) (hads : ads h' = ads h) (hkd : kd h' = kd h) (he : ∀ z, va_up (ent cy h) a (.inr (ci, (flds h ci a).set k v)) z = ent cy h' z) (hdg : decode b pc = .ok (.putfield index, 3))
    (kk : ∀ (H1 : Heap) (locs1 : List Loc), Mo D cy A H0 h' H1 locs1 → W p l e R s m args below meth c H1 locs1 cells slots Q (F0 m (pc + 3) ls rest)) : W p l e R s m args below meth c H locs cells slots Q (F0 m pc ls (v :: .ref a :: rest)) := by
  obtain ⟨hx, hb, -, -, hown, -, hts, hK, -⟩ := F
  obtain ⟨hc, hin, hkN, hci, ht⟩ := G
  obtain ⟨ty0, hty, hnm, hd⟩ := P
  obtain ⟨q, hq0⟩ := M.at (a := a) (by omega)
  have hq := hq0
  rw [ent_o hk hci] at hq
  exact va_putF hx hb hts (fun w hw => List.mem_cons_of_mem _ (hin w hw)) ty0 hty hnm hown hK M.1 M.2.1 M.2.2.1 q hq hc k hkN (hts _ (List.mem_cons_of_mem _ hlk)) (fun _ h9 => h9) hfin hinit hdecl hd hn hfit (flds_len ht) hdg (fun H1 locs1 hP hD hS => kk H1 locs1 (M.set hq0 (by omega) hads hkd he hP hD hS))
end RW2
