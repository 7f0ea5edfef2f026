theorem bd {α β : Type} {o : Option α} {f : α → Option β} {q : β} (h : o.bind f = some q) : ∃ v, o = some v ∧ f v = some q := by
  cases o with
  | none => cases h
  | some v => exact ⟨v, rfl, h⟩
/-- a call on an object of class c -/
def cV {α : Type} (h : IH) (c : Nat) (x : Option Nat) (f : Nat → Option α) : Option α := x.bind (fun a => if kd h a = c + 1 then f a else none)
theorem cV_some {α : Type} {h : IH} {c : Nat} {x : Option Nat} {f : Nat → Option α} {q : α} (hg : cV h c x f = some q) : ∃ a, x = some a ∧ kd h a = c + 1 ∧ f a = some q := by
  cases x with
  | none => cases hg
  | some a =>
    by_cases hk : kd h a = c + 1
    · exact ⟨a, rfl, hk, by simpa [cV, hk] using hg⟩
    · simp [cV, hk] at hg
theorem goodB {y0 y : MethodName} {b0 b : ByteArray} {n0 n : Nat} {r0 r : Option FieldType} (hy : Cond.code y b n r ∈ gw) : GoodIn (wsA y0 b0 n0 r0) (wsA y b n r) := by
  intro w hw
  have h1 : w ∈ gw := by
    rcases List.mem_cons.mp hw with rfl | h
    · exact hy
    · exact h
  exact ⟨List.mem_cons_of_mem _ h1, good_of_word (gw_good w h1)⟩
/-- a method's facts: of the tables, and of its name -/
def MD (y : MethodName) (np : Nat) : Prop := y.cls ≠ "java/lang/invoke/MethodHandle" ∧ y.cls ≠ "java/lang/invoke/VarHandle" ∧ (parseMethodDescriptor y.desc).map (fun d => d.parameters.length) = some np
def MV (ci : Nat) (y : MethodName) (b : ByteArray) (n : Nat) (r : Option FieldType) (np : Nat) (C : String) : Prop := Cond.code y b n r ∈ gw ∧ Cond.instanceMethod y ∈ gw ∧ Cond.selects C y y ∈ gw ∧ Cond.initialized y.cls ∈ gw ∧ MD y np ∧ (vwCl[ci]?).map (fun q => q.1) = some C ∧ ci < 19
def MS (y : MethodName) (b : ByteArray) (n : Nat) (r : Option FieldType) (np : Nat) : Prop := Cond.code y b n r ∈ gw ∧ Cond.static y ∈ gw ∧ Cond.initialized y.cls ∈ gw ∧ MD y np
def MI (y : MethodName) (b : ByteArray) (n : Nat) (np : Nat) : Prop := Cond.code y b n none ∈ gw ∧ Cond.instanceMethod y ∈ gw ∧ y.name = "<init>" ∧ Cond.initialized y.cls ∈ gw ∧ MD y np
section RW3
variable {p : Program} {l : Launch} {e : Env} {R : Room} {s : State} {m : MethodId} {args : Array Value} {below : List Frame} {meth : Method} {c : Code} {H : Heap} {locs : List Loc} {cells slots : Nat} {Q : State → Prop}
variable {pc : Nat} {ls : Array Slot} {rest : List Value} {D : va_G} {cy : Nat → ClassId} {A : Nat → Prop} {H0 : Heap} {h h' : IH}
variable {y : MethodName} {b : ByteArray} {n : Nat} {r : Option FieldType} {ci k index N t : Nat} {C : String} {T : u_T} {x : Option Nat} {cc : ByteArray}
theorem ro_aI {j v : Int32} (F : Fx p s m args meth c D cy A H0 y b n r) (M : Mo D cy A H0 h H locs) (hg : aI h x j = some v) (hdg : decode b pc = .ok (.iaload, 1))
    (kk : W p l e R s m args below meth c H locs cells slots Q (F0 m (pc + 1) ls (.int v :: rest))) : W p l e R s m args below meth c H locs cells slots Q (F0 m pc ls (.int j :: va_rf x :: rest)) := by
  obtain ⟨a, rfl, ⟨hk, hin⟩, rfl⟩ := bif_some (P := fun a => kd h a = 20 ∧ ¬ (j < 0 ∨ ln h a ≤ j.toNatClampNeg)) (g := fun a => rI h a j.toNatClampNeg) hg
  obtain ⟨q, hq⟩ := M.at (a := a) (by omega)
  rw [ent_I hk] at hq
  obtain ⟨hx, hb, -, -, -, -, -, hK, -⟩ := F
  exact va_iald hx hb hK M.1 q 0 hq rfl hin hdg kk
theorem ro_aZ {j v : Int32} (F : Fx p s m args meth c D cy A H0 y b n r) (M : Mo D cy A H0 h H locs) (hg : aZ h x j = some v) (hdg : decode b pc = .ok (.baload, 1))
    (kk : W p l e R s m args below meth c H locs cells slots Q (F0 m (pc + 1) ls (.int v :: rest))) : W p l e R s m args below meth c H locs cells slots Q (F0 m pc ls (.int j :: va_rf x :: rest)) := by
  obtain ⟨a, rfl, ⟨hk, hin⟩, rfl⟩ := bif_some (P := fun a => kd h a = 22 ∧ ¬ (j < 0 ∨ ln h a ≤ j.toNatClampNeg)) (g := fun a => rI h a j.toNatClampNeg) hg
  obtain ⟨q, hq⟩ := M.at (a := a) (by omega)
  rw [ent_Z hk] at hq
  obtain ⟨hx, hb, -, -, -, -, -, hK, -⟩ := F
  exact va_zald hx hb hK M.1 q 2 hq rfl hin hdg kk
theorem ro_aJ {j : Int32} {v : Int64} (F : Fx p s m args meth c D cy A H0 y b n r) (M : Mo D cy A H0 h H locs) (hg : aJ h x j = some v) (hdg : decode b pc = .ok (.laload, 1))
    (kk : W p l e R s m args below meth c H locs cells slots Q (F0 m (pc + 1) ls (.long v :: rest))) : W p l e R s m args below meth c H locs cells slots Q (F0 m pc ls (.int j :: va_rf x :: rest)) := by
  obtain ⟨a, rfl, ⟨hk, hin⟩, rfl⟩ := bif_some (P := fun a => kd h a = 21 ∧ ¬ (j < 0 ∨ ln h a ≤ j.toNatClampNeg)) (g := fun a => rL h a j.toNatClampNeg) hg
  obtain ⟨q, hq⟩ := M.at (a := a) (by omega)
  rw [ent_J hk] at hq
  obtain ⟨hx, hb, -, -, -, -, -, hK, -⟩ := F
  exact va_lald hx hb hK M.1 q 1 hq rfl hin hdg kk
theorem ro_aR {j : Int32} {v : Option Nat} {Cn : String} (h3 : 3 ≤ k) (ht : (tysO cy)[k]? = some (cy k, .object Cn)) (F : Fx p s m args meth c D cy A H0 y b n r) (M : Mo D cy A H0 h H locs) (hg : aR h k x j = some v) (hdg : decode b pc = .ok (.aaload, 1))
    (kk : W p l e R s m args below meth c H locs cells slots Q (F0 m (pc + 1) ls (va_rf v :: rest))) : W p l e R s m args below meth c H locs cells slots Q (F0 m pc ls (.int j :: va_rf x :: rest)) := by
  obtain ⟨a, rfl, ⟨hk, hin⟩, rfl⟩ := bif_some (P := fun a => kd h a = 20 + k ∧ ¬ (j < 0 ∨ ln h a ≤ j.toNatClampNeg)) (g := fun a => rR h a j.toNatClampNeg) hg
  obtain ⟨q, hq⟩ := M.at (a := a) (by omega)
  rw [ent_R hk h3] at hq
  obtain ⟨hx, hb, -, -, -, -, -, hK, -⟩ := F
  exact va_aldq hx hb hK M.1 q k hq ht hin hdg kk
theorem ro_sI {j v : Int32} (F : Fx p s m args meth c D cy A H0 y b n r) (M : Mo D cy A H0 h H locs) (hg : sI h x j v = some h') (hdg : decode b pc = .ok (.iastore, 1))
    (kk : ∀ (H1 : Heap) (locs1 : List Loc), Mo D cy A H0 h' H1 locs1 → W p l e R s m args below meth c H1 locs1 cells slots Q (F0 m (pc + 1) ls rest)) : W p l e R s m args below meth c H locs cells slots Q (F0 m pc ls (.int v :: .int j :: va_rf x :: rest)) := by
  obtain ⟨a, rfl, ⟨hk, hin⟩, rfl⟩ := bif_some (P := fun a => kd h a = 20 ∧ ¬ (j < 0 ∨ ln h a ≤ j.toNatClampNeg)) (g := fun a => wrI h a j.toNatClampNeg v) hg
  obtain ⟨q, hq0⟩ := M.at (a := a) (by omega)
  have hq := hq0
  rw [ent_I hk] at hq
  obtain ⟨hx, hb, -, -, -, -, -, hK, -⟩ := F
  exact va_iast hx hb hK M.1 M.2.1 M.2.2.1 q 0 hq rfl hin hdg (fun H1 locs1 hP hD hS => kk H1 locs1 (M.set hq0 (by omega) rfl rfl (ent_wrI hk) hP hD hS))
theorem ro_sJ {j : Int32} {v : Int64} (F : Fx p s m args meth c D cy A H0 y b n r) (M : Mo D cy A H0 h H locs) (hg : sJ h x j v = some h') (hdg : decode b pc = .ok (.lastore, 1))
    (kk : ∀ (H1 : Heap) (locs1 : List Loc), Mo D cy A H0 h' H1 locs1 → W p l e R s m args below meth c H1 locs1 cells slots Q (F0 m (pc + 1) ls rest)) : W p l e R s m args below meth c H locs cells slots Q (F0 m pc ls (.long v :: .int j :: va_rf x :: rest)) := by
  obtain ⟨a, rfl, ⟨hk, hin⟩, rfl⟩ := bif_some (P := fun a => kd h a = 21 ∧ ¬ (j < 0 ∨ ln h a ≤ j.toNatClampNeg)) (g := fun a => wrL h a j.toNatClampNeg v) hg
  obtain ⟨q, hq0⟩ := M.at (a := a) (by omega)
  have hq := hq0
  rw [ent_J hk] at hq
  obtain ⟨hx, hb, -, -, -, -, -, hK, -⟩ := F
  exact va_last hx hb hK M.1 M.2.1 M.2.2.1 q 1 hq rfl hin hdg (fun H1 locs1 hP hD hS => kk H1 locs1 (M.set hq0 (by omega) rfl rfl (ent_wrL hk) hP hD hS))
theorem ro_sZ {j v : Int32} (F : Fx p s m args meth c D cy A H0 y b n r) (M : Mo D cy A H0 h H locs) (hg : sZ h x j v = some h') (hdg : decode b pc = .ok (.bastore, 1))
    (kk : ∀ (H1 : Heap) (locs1 : List Loc), Mo D cy A H0 h' H1 locs1 → W p l e R s m args below meth c H1 locs1 cells slots Q (F0 m (pc + 1) ls rest)) : W p l e R s m args below meth c H locs cells slots Q (F0 m pc ls (.int v :: .int j :: va_rf x :: rest)) := by
  obtain ⟨a, rfl, ⟨⟨hk, hin⟩, hz⟩, rfl⟩ := bif_some (P := fun a => (kd h a = 22 ∧ ¬ (j < 0 ∨ ln h a ≤ j.toNatClampNeg)) ∧ (v = 0 ∨ v = 1)) (g := fun a => wrI h a j.toNatClampNeg v) hg
  obtain ⟨q, hq0⟩ := M.at (a := a) (by omega)
  have hq := hq0
  rw [ent_Z hk] at hq
  obtain ⟨hx, hb, -, -, -, -, -, hK, -⟩ := F
  have hv : vp_nar .boolean v = v := by rcases hz with rfl | rfl <;> rfl
  refine va_zast hx hb hK M.1 M.2.1 M.2.2.1 q 2 hq rfl hin hdg (fun H1 locs1 hP hD hS => ?_)
  rw [hv] at hP hD
  exact kk H1 locs1 (M.set hq0 (by omega) rfl rfl (ent_wrZ hk) hP hD hS)
theorem ro_pI {v : Int32} (F : Fx p s m args meth c D cy A H0 y b n r) (M : Mo D cy A H0 h H locs) (G : FG ci k 0 C T N) (P : FP k T N .int) (hfin : (T k).2.2.2 = false) (hlk : Cond.fieldLink y.cls index (T k).1 (T k).2.1 (T k).2.2.1 ∈ gw) (hg : pI h ci k x v = some h') (hdg : decode b pc = .ok (.putfield index, 3))
    (kk : ∀ (H1 : Heap) (locs1 : List Loc), Mo D cy A H0 h' H1 locs1 → W p l e R s m args below meth c H1 locs1 cells slots Q (F0 m (pc + 3) ls rest)) : W p l e R s m args below meth c H locs cells slots Q (F0 m pc ls (.int v :: va_rf x :: rest)) := by
  obtain ⟨a, rfl, hk, rfl⟩ := pI_some hg
  exact ro_put (h' := wfI h (100 * ci + k) a v) F M G P hfin hlk hk rfl rfl rfl rfl (ent_wfI hk G.2.2.2.1 G.2.2.2.2) hdg kk
theorem ro_pIN {v : Int32} {host : String} (F : Fx p s m args meth c D cy A H0 y b n r) (M : Mo D cy A H0 h H locs) (G : FG ci k 0 C T N) (P : FP k T N .int) (hfin : (T k).2.2.2 = false) (hlk : Cond.fieldLinkNest y.cls index (T k).1 (T k).2.1 (T k).2.2.1 host ∈ nestW) (hg : pI h ci k x v = some h') (hdg : decode b pc = .ok (.putfield index, 3))
    (kk : ∀ (H1 : Heap) (locs1 : List Loc), Mo D cy A H0 h' H1 locs1 → W p l e R s m args below meth c H1 locs1 cells slots Q (F0 m (pc + 3) ls rest)) : W p l e R s m args below meth c H locs cells slots Q (F0 m pc ls (.int v :: va_rf x :: rest)) := by
  obtain ⟨a, rfl, hk, rfl⟩ := pI_some hg
  exact ro_putN (h' := wfI h (100 * ci + k) a v) F M G P hfin hlk hk rfl rfl rfl rfl (ent_wfI hk G.2.2.2.1 G.2.2.2.2) hdg kk
theorem ro_pZ {v : Int32} (F : Fx p s m args meth c D cy A H0 y b n r) (M : Mo D cy A H0 h H locs) (G : FG ci k 0 C T N) (P : FP k T N .boolean) (hfin : (T k).2.2.2 = false) (hlk : Cond.fieldLink y.cls index (T k).1 (T k).2.1 (T k).2.2.1 ∈ gw) (hg : pZ h ci k x v = some h') (hdg : decode b pc = .ok (.putfield index, 3))
    (kk : ∀ (H1 : Heap) (locs1 : List Loc), Mo D cy A H0 h' H1 locs1 → W p l e R s m args below meth c H1 locs1 cells slots Q (F0 m (pc + 3) ls rest)) : W p l e R s m args below meth c H locs cells slots Q (F0 m pc ls (.int v :: va_rf x :: rest)) := by
  obtain ⟨a, rfl, hk, hz, rfl⟩ := pZ_some hg
  exact ro_put (h' := wfI h (100 * ci + k) a v) F M G P hfin hlk hk (nar_z hz) (fit_z hz) rfl rfl (ent_wfI hk G.2.2.2.1 G.2.2.2.2) hdg kk
theorem ro_pZN {v : Int32} {host : String} (F : Fx p s m args meth c D cy A H0 y b n r) (M : Mo D cy A H0 h H locs) (G : FG ci k 0 C T N) (P : FP k T N .boolean) (hfin : (T k).2.2.2 = false) (hlk : Cond.fieldLinkNest y.cls index (T k).1 (T k).2.1 (T k).2.2.1 host ∈ nestW) (hg : pZ h ci k x v = some h') (hdg : decode b pc = .ok (.putfield index, 3))
    (kk : ∀ (H1 : Heap) (locs1 : List Loc), Mo D cy A H0 h' H1 locs1 → W p l e R s m args below meth c H1 locs1 cells slots Q (F0 m (pc + 3) ls rest)) : W p l e R s m args below meth c H locs cells slots Q (F0 m pc ls (.int v :: va_rf x :: rest)) := by
  obtain ⟨a, rfl, hk, hz, rfl⟩ := pZ_some hg
  exact ro_putN (h' := wfI h (100 * ci + k) a v) F M G P hfin hlk hk (nar_z hz) (fit_z hz) rfl rfl (ent_wfI hk G.2.2.2.1 G.2.2.2.2) hdg kk
theorem ro_pL {v : Int64} (F : Fx p s m args meth c D cy A H0 y b n r) (M : Mo D cy A H0 h H locs) (G : FG ci k 1 C T N) (P : FP k T N .long) (hfin : (T k).2.2.2 = false) (hlk : Cond.fieldLink y.cls index (T k).1 (T k).2.1 (T k).2.2.1 ∈ gw) (hg : pL h ci k x v = some h') (hdg : decode b pc = .ok (.putfield index, 3))
    (kk : ∀ (H1 : Heap) (locs1 : List Loc), Mo D cy A H0 h' H1 locs1 → W p l e R s m args below meth c H1 locs1 cells slots Q (F0 m (pc + 3) ls rest)) : W p l e R s m args below meth c H locs cells slots Q (F0 m pc ls (.long v :: va_rf x :: rest)) := by
  obtain ⟨a, rfl, hk, rfl⟩ := pL_some hg
  exact ro_put (h' := wfL h (100 * ci + k) a v) F M G P hfin hlk hk rfl rfl rfl rfl (ent_wfL hk G.2.2.2.1 G.2.2.2.2) hdg kk
theorem ro_pLN {v : Int64} {host : String} (F : Fx p s m args meth c D cy A H0 y b n r) (M : Mo D cy A H0 h H locs) (G : FG ci k 1 C T N) (P : FP k T N .long) (hfin : (T k).2.2.2 = false) (hlk : Cond.fieldLinkNest y.cls index (T k).1 (T k).2.1 (T k).2.2.1 host ∈ nestW) (hg : pL h ci k x v = some h') (hdg : decode b pc = .ok (.putfield index, 3))
    (kk : ∀ (H1 : Heap) (locs1 : List Loc), Mo D cy A H0 h' H1 locs1 → W p l e R s m args below meth c H1 locs1 cells slots Q (F0 m (pc + 3) ls rest)) : W p l e R s m args below meth c H locs cells slots Q (F0 m pc ls (.long v :: va_rf x :: rest)) := by
  obtain ⟨a, rfl, hk, rfl⟩ := pL_some hg
  exact ro_putN (h' := wfL h (100 * ci + k) a v) F M G P hfin hlk hk rfl rfl rfl rfl (ent_wfL hk G.2.2.2.1 G.2.2.2.2) hdg kk
theorem ro_pR {v : Option Nat} {Cn : String} (F : Fx p s m args meth c D cy A H0 y b n r) (M : Mo D cy A H0 h H locs) (G : FG ci k 2 C T N) (P : FP k T N (.object Cn)) (hfin : (T k).2.2.2 = false) (hlk : Cond.fieldLink y.cls index (T k).1 (T k).2.1 (T k).2.2.1 ∈ gw) (hg : pR h ci k x v = some h') (hdg : decode b pc = .ok (.putfield index, 3))
    (kk : ∀ (H1 : Heap) (locs1 : List Loc), Mo D cy A H0 h' H1 locs1 → W p l e R s m args below meth c H1 locs1 cells slots Q (F0 m (pc + 3) ls rest)) : W p l e R s m args below meth c H locs cells slots Q (F0 m pc ls (va_rf v :: va_rf x :: rest)) := by
  obtain ⟨a, rfl, hk, rfl⟩ := pR_some hg
  exact ro_put (h' := wfR h (100 * ci + k) a v) F M G P hfin hlk hk (nar_o _ _) (fit_o _ _) rfl rfl (ent_wfR hk G.2.2.2.1 G.2.2.2.2) hdg kk
theorem ro_pRN {v : Option Nat} {Cn host : String} (F : Fx p s m args meth c D cy A H0 y b n r) (M : Mo D cy A H0 h H locs) (G : FG ci k 2 C T N) (P : FP k T N (.object Cn)) (hfin : (T k).2.2.2 = false) (hlk : Cond.fieldLinkNest y.cls index (T k).1 (T k).2.1 (T k).2.2.1 host ∈ nestW) (hg : pR h ci k x v = some h') (hdg : decode b pc = .ok (.putfield index, 3))
    (kk : ∀ (H1 : Heap) (locs1 : List Loc), Mo D cy A H0 h' H1 locs1 → W p l e R s m args below meth c H1 locs1 cells slots Q (F0 m (pc + 3) ls rest)) : W p l e R s m args below meth c H locs cells slots Q (F0 m pc ls (va_rf v :: va_rf x :: rest)) := by
  obtain ⟨a, rfl, hk, rfl⟩ := pR_some hg
  exact ro_putN (h' := wfR h (100 * ci + k) a v) F M G P hfin hlk hk (nar_o _ _) (fit_o _ _) rfl rfl (ent_wfR hk G.2.2.2.1 G.2.2.2.2) hdg kk
/-- a field that holds an array -/
theorem ro_pA {v : Option Nat} {et : FieldType} (F : Fx p s m args meth c D cy A H0 y b n r) (M : Mo D cy A H0 h H locs) (G : FG ci k 2 C T N) (P : FP k T N (.array et)) (hfin : (T k).2.2.2 = false) (hlk : Cond.fieldLink y.cls index (T k).1 (T k).2.1 (T k).2.2.1 ∈ gw) (hg : pR h ci k x v = some h') (hdg : decode b pc = .ok (.putfield index, 3))
    (kk : ∀ (H1 : Heap) (locs1 : List Loc), Mo D cy A H0 h' H1 locs1 → W p l e R s m args below meth c H1 locs1 cells slots Q (F0 m (pc + 3) ls rest)) : W p l e R s m args below meth c H locs cells slots Q (F0 m pc ls (va_rf v :: va_rf x :: rest)) := by
  obtain ⟨a, rfl, hk, rfl⟩ := pR_some hg
  exact ro_put (h' := wfR h (100 * ci + k) a v) F M G P hfin hlk hk (nar_a _ _) (fit_a _ _) rfl rfl (ent_wfR hk G.2.2.2.1 G.2.2.2.2) hdg kk
theorem lo_aload_n {kf : Fin 4} {i : Nat} (hexec : p.tables.exec = Jvm.exec) (hb : c.code = cc) (hdg : decode cc pc = .ok (.aload_n kf, 1)) (hi : (kf : Nat) = i) (hl : ls[i]? = some (.val (va_rf x)))
    (kk : W p l e R s m args below meth c H locs cells slots Q (F0 m (pc + 1) ls (va_rf x :: rest))) : W p l e R s m args below meth c H locs cells slots Q (F0 m pc ls rest) := by
  cases x with
  | none => exact lv_aload_nN hexec hb hdg hi hl kk
  | some a => exact lv_aload_n hexec hb hdg hi hl kk
theorem lo_aload {i : Nat} (hexec : p.tables.exec = Jvm.exec) (hb : c.code = cc) (hdg : decode cc pc = .ok (.aload i, 2)) (hl : ls[i]? = some (.val (va_rf x)))
    (kk : W p l e R s m args below meth c H locs cells slots Q (F0 m (pc + 2) ls (va_rf x :: rest))) : W p l e R s m args below meth c H locs cells slots Q (F0 m pc ls rest) := by
  cases x with
  | none => exact lv_aloadN hexec hb hdg hl kk
  | some a => exact lv_aload hexec hb hdg hl kk
theorem lo_astore_n {kf : Fin 4} {i nL : Nat} {lv lv' : List (Nat × Value)} (hexec : p.tables.exec = Jvm.exec) (hb : c.code = cc) (hdg : decode cc pc = .ok (.astore_n kf, 1)) (hi : (kf : Nat) = i) (hl0 : lv_has ls nL lv) (hn : i < nL) (hl : (i, va_rf x) :: lv.filter (fun q => !(q.1 == i) && !(q.1 + 1 == i && q.2.category == 2)) = lv')
    (kk : ∀ ls' : Array Slot, lv_has ls' nL lv' → W p l e R s m args below meth c H locs cells slots Q (F0 m (pc + 1) ls' rest)) : W p l e R s m args below meth c H locs cells slots Q (F0 m pc ls (va_rf x :: rest)) := by
  cases x with
  | none => exact lv_astore_nN hexec hb hdg hi hl0 hn hl kk
  | some a => exact lv_astore_n hexec hb hdg hi hl0 hn hl kk
theorem lo_astore {i nL : Nat} {lv lv' : List (Nat × Value)} (hexec : p.tables.exec = Jvm.exec) (hb : c.code = cc) (hdg : decode cc pc = .ok (.astore i, 2)) (hl0 : lv_has ls nL lv) (hn : i < nL) (hl : (i, va_rf x) :: lv.filter (fun q => !(q.1 == i) && !(q.1 + 1 == i && q.2.category == 2)) = lv')
    (kk : ∀ ls' : Array Slot, lv_has ls' nL lv' → W p l e R s m args below meth c H locs cells slots Q (F0 m (pc + 2) ls' rest)) : W p l e R s m args below meth c H locs cells slots Q (F0 m pc ls (va_rf x :: rest)) := by
  cases x with
  | none => exact lv_astoreN hexec hb hdg hl0 hn hl kk
  | some a => exact lv_astore hexec hb hdg hl0 hn hl kk
theorem lo_ifnull {off : Int} {tgt : Nat} (hexec : p.tables.exec = Jvm.exec) (hb : c.code = cc) (hdg : decode cc pc = .ok (.ifnull off, 3)) (ht : (pc : Int) + off = (tgt : Int))
    (kt : x = none → W p l e R s m args below meth c H locs cells slots Q (F0 m tgt ls rest)) (kf : ¬ x = none → W p l e R s m args below meth c H locs cells slots Q (F0 m (pc + 3) ls rest)) : W p l e R s m args below meth c H locs cells slots Q (F0 m pc ls (va_rf x :: rest)) := by
  cases x with
  | none => exact lv_ifnullN hexec hb hdg ht (kt rfl)
  | some a => exact lv_ifnull hexec hb hdg (kf (fun q => by cases q))
theorem lo_ifnonnull {off : Int} {tgt : Nat} (hexec : p.tables.exec = Jvm.exec) (hb : c.code = cc) (hdg : decode cc pc = .ok (.ifnonnull off, 3)) (ht : (pc : Int) + off = (tgt : Int))
    (kt : ¬ x = none → W p l e R s m args below meth c H locs cells slots Q (F0 m tgt ls rest)) (kf : x = none → W p l e R s m args below meth c H locs cells slots Q (F0 m (pc + 3) ls rest)) : W p l e R s m args below meth c H locs cells slots Q (F0 m pc ls (va_rf x :: rest)) := by
  cases x with
  | none => exact lv_ifnonnullN hexec hb hdg (kf rfl)
  | some a => exact lv_ifnonnull hexec hb hdg ht (kt (fun q => by cases q))
end RW3
section RW4
variable {p : Program} {l : Launch} {e : Env} {R : Room} {s : State} {m : MethodId} {args : Array Value} {below : List Frame} {meth : Method} {c : Code} {H : Heap} {locs : List Loc} {cells slots : Nat} {Q : State → Prop}
variable {pc : Nat} {ls : Array Slot} {rest st0 : List Value} {D : va_G} {cy : Nat → ClassId} {A : Nat → Prop} {H0 : Heap} {h h' : IH}
variable {y : MethodName} {b : ByteArray} {n : Nat} {r : Option FieldType} {ci k index N t : Nat} {C : String} {T : u_T} {x : Option Nat} {cc : ByteArray}
theorem Mo.free (M : Mo D cy A H0 h H locs) (hA : ∀ q : Nat, H0.size ≤ q → A q) : ∀ q, Am cy h H.size q → A q := by
  intro q hq
  rcases hq with ⟨k, e, hk⟩ | hq
  · exact M.2.1.2 k _ hk
  · exact hA q (Nat.le_trans M.2.2.1.1 hq)
theorem ca_go {A1 : Nat → Prop} {rv : Option Value} {a : Array Value} {mc ms : Nat} (hr : va_Run p l e R s m args below meth c H locs cells slots mc ms (F0 m pc ls st0) rest (QR D cy h' A1 rv a) A1) (hS : va_S A H0 H locs) (hA1 : ∀ q, A1 q → A q)
    (kk : ∀ (H1 : Heap) (locs1 : List Loc), H.size ≤ H1.size → Mo D cy A H0 h' H1 locs1 → W p l e R s m args below meth c H1 locs1 (cells + mc) (slots + ms) Q (F0 m (pc + 3) ls (rv.toList ++ rest))) : W p l e R s m args below meth c H locs cells slots Q (F0 m pc ls st0) := by
  intro T hT X
  obtain ⟨v, st₀, t, T', L, h0, X', hL, e1, e2, ⟨hv, ⟨hP, hK', hD, hdom⟩, hz, hk⟩, st⟩ := hr T hT X
  cases hv
  rw [h0] at hz hk
  obtain ⟨t2, a1, b1⟩ := kk T'.heap (locs ++ L) (by rw [e1]; exact hz) ⟨by rw [e1]; exact hP, hD.weaken (fun _ q _ hq => hA1 _ hq), ⟨Nat.le_trans hS.1 (by rw [e1]; exact hz), fun q h1 h2 => by rw [e1, hk q (Nat.lt_of_lt_of_le h1 hS.1) (fun z => h2 (hA1 q z))]; exact hS.2.1 q h1 h2, fun q hq => by
      rcases List.mem_append.mp hq with h9 | h9
      · exact hS.2.2 q h9
      · exact hA1 _ (hL q h9)⟩, hdom⟩ T' rfl X'
  exact ⟨t2, st t2 a1, b1⟩
theorem Mo.pre {av : List Value} (F : Fx p s m args meth c D cy A H0 y b n r) (M : Mo D cy A H0 h H locs) : ∀ U : State, U.heap = H → s.WarmedH U.vm → Pr D cy h H.size av av.toArray U := by
  intro U hU hW
  obtain ⟨-, -, -, -, -, -, -, hK, hN, hA, hH, hS1, hS2, hS3, x0, hS4⟩ := F
  have hF := M.free hA
  subst hU
  subst hH
  exact ⟨rfl, rfl, ⟨M.1, va_K.moved hW.alike hK, M.2.1.weaken (fun _ _ _ _ => trivial), M.2.2.2⟩, hN.warm hW, ((hS1.kept M.2.2.1.2.1).moved hW.alike).narrow hF, fun i hi => (hS2 i hi).warm hW, ((hS3.kept M.2.2.1.2.1).moved hW.alike).narrow hF, x0, ((hS4.kept M.2.2.1.2.1).moved hW.alike).narrow hF⟩
variable {y' : MethodName} {b' : ByteArray} {n' np : Nat} {r' : Option FieldType} {rm : Room} {bq : Nat} {As : List Value} {rv : Option Value}
theorem ca_V (F : Fx p s m args meth c D cy A H0 y b n r) (M : Mo D cy A H0 h H locs) (hM : Ct l D cy y' b' n' r' rm h H.size (.ref bq :: As) h' rv) (G : MV ci y' b' n' r' np C) (hlk : Cond.methodLink y.cls index y' ∈ gw) (hkb : kd h bq = ci + 1) (hn : As.length = np) (hR : rm.frames + 1 ≤ R.frames ∧ 8 + (n' + 11) + rm.locals ≤ R.locals) (hf : cells + rm.cells ≤ R.cells ∧ slots + rm.slots ≤ R.slots) (hl : ls.size = n) (hst0 : st0 = As.reverse ++ .ref bq :: rest) (hst : (rest.map fun v => v.category).sum ≤ 8) (hdg : decode b pc = .ok (.invokevirtual index, 3))
    (kk : ∀ (H1 : Heap) (locs1 : List Loc), H.size ≤ H1.size → Mo D cy A H0 h' H1 locs1 → W p l e R s m args below meth c H1 locs1 (cells + rm.cells) (slots + rm.slots) Q (F0 m (pc + 3) ls (rv.toList ++ rest))) : W p l e R s m args below meth c H locs cells slots Q (F0 m pc ls st0) := by
  have F0_ := F
  obtain ⟨hx, hb, -, hml, hown, -, hts, hK, hN, hA, -⟩ := F
  obtain ⟨hc, hi, hsel, hini, hd, hcl, hci⟩ := G
  have tw : ∀ w ∈ gw, w.before args s = true := fun w hw => hts w (List.mem_cons_of_mem _ hw)
  obtain ⟨qv, hqv, hqC⟩ : ∃ q, vwCl[ci]? = some q ∧ q.1 = C := by
    cases hq : vwCl[ci]? with
    | none => rw [hq] at hcl; cases hcl
    | some q => rw [hq] at hcl; exact ⟨q, rfl, Option.some.inj hcl⟩
  obtain ⟨q, hq⟩ := M.at (a := bq) (by omega)
  rw [ent_o hkb hci] at hq
  have hrec := va_recv hK M.1 hqv hq
  rw [hqC] at hrec
  exact ca_go (va_runV (As := As) (rest := rest) ⟨hx, hb, hml, hown, hts⟩ hM ⟨callB_of np hts (goodB hc) rfl rfl rfl (tw _ hini) (tw _ hlk) hd hR, tw _ hi, tw _ hsel⟩ ⟨Pr_blind, hrec, M.pre F0_⟩ rfl hn hl hst0 (lv_room hst) hdg hf) M.2.2.1 (M.free hA) kk
theorem ca_VN {host : String} (F : Fx p s m args meth c D cy A H0 y b n r) (M : Mo D cy A H0 h H locs) (hM : Ct l D cy y' b' n' r' rm h H.size (.ref bq :: As) h' rv) (G : MV ci y' b' n' r' np C) (hlk : Cond.methodLinkNest y.cls index y' host ∈ nestW) (hkb : kd h bq = ci + 1) (hn : As.length = np) (hR : rm.frames + 1 ≤ R.frames ∧ 8 + (n' + 11) + rm.locals ≤ R.locals) (hf : cells + rm.cells ≤ R.cells ∧ slots + rm.slots ≤ R.slots) (hl : ls.size = n) (hst0 : st0 = As.reverse ++ .ref bq :: rest) (hst : (rest.map fun v => v.category).sum ≤ 8) (hdg : decode b pc = .ok (.invokevirtual index, 3))
    (kk : ∀ (H1 : Heap) (locs1 : List Loc), H.size ≤ H1.size → Mo D cy A H0 h' H1 locs1 → W p l e R s m args below meth c H1 locs1 (cells + rm.cells) (slots + rm.slots) Q (F0 m (pc + 3) ls (rv.toList ++ rest))) : W p l e R s m args below meth c H locs cells slots Q (F0 m pc ls st0) := by
  have F0_ := F
  obtain ⟨hx, hb, -, hml, hown, -, hts, hK, hN, hA, -⟩ := F
  obtain ⟨hc, hi, hsel, hini, hd, hcl, hci⟩ := G
  have tw : ∀ w ∈ gw, w.before args s = true := fun w hw => hts w (List.mem_cons_of_mem _ hw)
  obtain ⟨qv, hqv, hqC⟩ : ∃ q, vwCl[ci]? = some q ∧ q.1 = C := by
    cases hq : vwCl[ci]? with
    | none => rw [hq] at hcl; cases hcl
    | some q => rw [hq] at hcl; exact ⟨q, rfl, Option.some.inj hcl⟩
  obtain ⟨q, hq⟩ := M.at (a := bq) (by omega)
  rw [ent_o hkb hci] at hq
  have hrec := va_recv hK M.1 hqv hq
  rw [hqC] at hrec
  exact ca_go (va_runVN (As := As) (rest := rest) ⟨hx, hb, hml, hown, hts⟩ hM ⟨va_cnB np hts (goodB hc) rfl rfl rfl (hN _ hlk) (tw _ hini) hd hR, tw _ hi, tw _ hsel⟩ ⟨Pr_blind, hrec, M.pre F0_⟩ rfl hn hl hst0 (lv_room hst) hdg hf) M.2.2.1 (M.free hA) kk
theorem ca_S (F : Fx p s m args meth c D cy A H0 y b n r) (M : Mo D cy A H0 h H locs) (hM : Ct l D cy y' b' n' r' rm h H.size As h' rv) (G : MS y' b' n' r' np) (hlk : Cond.methodLink y.cls index y' ∈ gw) (hn : As.length = np) (hR : rm.frames + 1 ≤ R.frames ∧ 8 + (n' + 11) + rm.locals ≤ R.locals) (hf : cells + rm.cells ≤ R.cells ∧ slots + rm.slots ≤ R.slots) (hl : ls.size = n) (hst0 : st0 = As.reverse ++ rest) (hst : (rest.map fun v => v.category).sum ≤ 8) (hdg : decode b pc = .ok (.invokestatic index, 3))
    (kk : ∀ (H1 : Heap) (locs1 : List Loc), H.size ≤ H1.size → Mo D cy A H0 h' H1 locs1 → W p l e R s m args below meth c H1 locs1 (cells + rm.cells) (slots + rm.slots) Q (F0 m (pc + 3) ls (rv.toList ++ rest))) : W p l e R s m args below meth c H locs cells slots Q (F0 m pc ls st0) := by
  have F0_ := F
  obtain ⟨hx, hb, -, hml, hown, -, hts, hK, hN, hA, -⟩ := F
  obtain ⟨hc, hi, hini, hd⟩ := G
  have tw : ∀ w ∈ gw, w.before args s = true := fun w hw => hts w (List.mem_cons_of_mem _ hw)
  exact ca_go (va_runS (As := As) (rest := rest) ⟨hx, hb, hml, hown, hts⟩ hM ⟨callB_of np hts (goodB hc) rfl rfl rfl (tw _ hini) (tw _ hlk) hd hR, tw _ hi⟩ ⟨Pr_blind, M.pre F0_⟩ rfl hn hl hst0 (lv_room hst) hdg hf) M.2.2.1 (M.free hA) kk
theorem ca_SN {host : String} (F : Fx p s m args meth c D cy A H0 y b n r) (M : Mo D cy A H0 h H locs) (hM : Ct l D cy y' b' n' r' rm h H.size As h' rv) (G : MS y' b' n' r' np) (hlk : Cond.methodLinkNest y.cls index y' host ∈ nestW) (hn : As.length = np) (hR : rm.frames + 1 ≤ R.frames ∧ 8 + (n' + 11) + rm.locals ≤ R.locals) (hf : cells + rm.cells ≤ R.cells ∧ slots + rm.slots ≤ R.slots) (hl : ls.size = n) (hst0 : st0 = As.reverse ++ rest) (hst : (rest.map fun v => v.category).sum ≤ 8) (hdg : decode b pc = .ok (.invokestatic index, 3))
    (kk : ∀ (H1 : Heap) (locs1 : List Loc), H.size ≤ H1.size → Mo D cy A H0 h' H1 locs1 → W p l e R s m args below meth c H1 locs1 (cells + rm.cells) (slots + rm.slots) Q (F0 m (pc + 3) ls (rv.toList ++ rest))) : W p l e R s m args below meth c H locs cells slots Q (F0 m pc ls st0) := by
  have F0_ := F
  obtain ⟨hx, hb, -, hml, hown, -, hts, hK, hN, hA, -⟩ := F
  obtain ⟨hc, hi, hini, hd⟩ := G
  have tw : ∀ w ∈ gw, w.before args s = true := fun w hw => hts w (List.mem_cons_of_mem _ hw)
  exact ca_go (va_runSN (As := As) (rest := rest) ⟨hx, hb, hml, hown, hts⟩ hM ⟨va_cnB np hts (goodB hc) rfl rfl rfl (hN _ hlk) (tw _ hini) hd hR, tw _ hi, trivial⟩ ⟨Pr_blind, M.pre F0_⟩ rfl hn hl hst0 (lv_room hst) hdg hf) M.2.2.1 (M.free hA) kk
theorem ca_I (F : Fx p s m args meth c D cy A H0 y b n r) (M : Mo D cy A H0 h H locs) (hM : Ct l D cy y' b' n' none rm h H.size (.ref bq :: As) h' rv) (G : MI y' b' n' np) (hlk : Cond.methodLink y.cls index y' ∈ gw) (hn : As.length = np) (hR : rm.frames + 1 ≤ R.frames ∧ 8 + (n' + 11) + rm.locals ≤ R.locals) (hf : cells + rm.cells ≤ R.cells ∧ slots + rm.slots ≤ R.slots) (hl : ls.size = n) (hst0 : st0 = As.reverse ++ .ref bq :: rest) (hst : (rest.map fun v => v.category).sum ≤ 8) (hdg : decode b pc = .ok (.invokespecial index, 3))
    (kk : ∀ (H1 : Heap) (locs1 : List Loc), H.size ≤ H1.size → Mo D cy A H0 h' H1 locs1 → W p l e R s m args below meth c H1 locs1 (cells + rm.cells) (slots + rm.slots) Q (F0 m (pc + 3) ls (rv.toList ++ rest))) : W p l e R s m args below meth c H locs cells slots Q (F0 m pc ls st0) := by
  have F0_ := F
  obtain ⟨hx, hb, -, hml, hown, -, hts, hK, hN, hA, -⟩ := F
  obtain ⟨hc, hi, hnm, hini, hd⟩ := G
  have tw : ∀ w ∈ gw, w.before args s = true := fun w hw => hts w (List.mem_cons_of_mem _ hw)
  exact ca_go (va_runI (As := As) (rest := rest) ⟨hx, hb, hml, hown, hts⟩ hM ⟨callB_of np hts (goodB hc) rfl rfl rfl (tw _ hini) (tw _ hlk) hd hR, hnm, tw _ hi⟩ ⟨Pr_blind, M.pre F0_⟩ rfl hn hl hst0 (lv_room hst) hdg hf) M.2.2.1 (M.free hA) kk
theorem ca_IN {host : String} (F : Fx p s m args meth c D cy A H0 y b n r) (M : Mo D cy A H0 h H locs) (hM : Ct l D cy y' b' n' none rm h H.size (.ref bq :: As) h' rv) (G : MI y' b' n' np) (hlk : Cond.methodLinkNest y.cls index y' host ∈ nestW) (hn : As.length = np) (hR : rm.frames + 1 ≤ R.frames ∧ 8 + (n' + 11) + rm.locals ≤ R.locals) (hf : cells + rm.cells ≤ R.cells ∧ slots + rm.slots ≤ R.slots) (hl : ls.size = n) (hst0 : st0 = As.reverse ++ .ref bq :: rest) (hst : (rest.map fun v => v.category).sum ≤ 8) (hdg : decode b pc = .ok (.invokespecial index, 3))
    (kk : ∀ (H1 : Heap) (locs1 : List Loc), H.size ≤ H1.size → Mo D cy A H0 h' H1 locs1 → W p l e R s m args below meth c H1 locs1 (cells + rm.cells) (slots + rm.slots) Q (F0 m (pc + 3) ls (rv.toList ++ rest))) : W p l e R s m args below meth c H locs cells slots Q (F0 m pc ls st0) := by
  have F0_ := F
  obtain ⟨hx, hb, -, hml, hown, -, hts, hK, hN, hA, -⟩ := F
  obtain ⟨hc, hi, hnm, hini, hd⟩ := G
  have tw : ∀ w ∈ gw, w.before args s = true := fun w hw => hts w (List.mem_cons_of_mem _ hw)
  exact ca_go (va_runIN (As := As) (rest := rest) ⟨hx, hb, hml, hown, hts⟩ hM ⟨va_cnB np hts (goodB hc) rfl rfl rfl (hN _ hlk) (tw _ hini) hd hR, hnm, tw _ hi⟩ ⟨Pr_blind, M.pre F0_⟩ rfl hn hl hst0 (lv_room hst) hdg hf) M.2.2.1 (M.free hA) kk
theorem Mo.end (F : Fx p s m args meth c D cy A H0 y b n r) (M : Mo D cy A H0 h H locs) {t : State} {oc : Option Value} (ht : t.heap = H) (hW : s.WarmedH t.vm) : QR D cy h A oc args s (.returned oc) t := by
  obtain ⟨hx, hb, -, -, -, -, -, hK, -, -, hH, -⟩ := F
  subst hH
  exact ⟨rfl, ⟨by rw [ht]; exact M.1, va_K.moved hW.alike hK, M.2.1, M.2.2.2⟩, M.2.2.1.F ht⟩
theorem re_i {v : Int32} (F : Fx p s m args meth c D cy A H0 y b n (some .int)) (M : Mo D cy A H0 h H locs) (hdg : decode b pc = .ok (.ireturn, 1)) : W p l e R s m args below meth c H locs cells slots (MQ below (QR D cy h A (some (.int v))) args s cells slots A) (F0 m pc ls [.int v]) :=
  W.iret F.1 F.2.1 F.2.2.1 (fun t ht hW => M.end F ht hW) M.2.2.1.2.2 hdg F.2.2.2.2.2.1
theorem re_z {v : Int32} (F : Fx p s m args meth c D cy A H0 y b n (some .boolean)) (M : Mo D cy A H0 h H locs) (hv : v = 0 ∨ v = 1) (hdg : decode b pc = .ok (.ireturn, 1)) : W p l e R s m args below meth c H locs cells slots (MQ below (QR D cy h A (some (.int v))) args s cells slots A) (F0 m pc ls [.int v]) :=
  W.zret F.1 F.2.1 F.2.2.1 (nar_z hv) (fun t ht hW => M.end F ht hW) M.2.2.1.2.2 hdg F.2.2.2.2.2.1
theorem re_l {v : Int64} (F : Fx p s m args meth c D cy A H0 y b n (some .long)) (M : Mo D cy A H0 h H locs) (hdg : decode b pc = .ok (.lreturn, 1)) : W p l e R s m args below meth c H locs cells slots (MQ below (QR D cy h A (some (.long v))) args s cells slots A) (F0 m pc ls [.long v]) :=
  W.lret F.1 F.2.1 F.2.2.1 (fun t ht hW => M.end F ht hW) M.2.2.1.2.2 hdg F.2.2.2.2.2.1
theorem re_v (F : Fx p s m args meth c D cy A H0 y b n none) (M : Mo D cy A H0 h H locs) (hdg : decode b pc = .ok (.return_, 1)) : W p l e R s m args below meth c H locs cells slots (MQ below (QR D cy h A none) args s cells slots A) (F0 m pc ls []) :=
  W.vret F.1 F.2.1 F.2.2.1 (fun t ht hW => M.end F ht hW) M.2.2.1.2.2 hdg F.2.2.2.2.2.1
theorem re_a {Cn : String} (F : Fx p s m args meth c D cy A H0 y b n (some (.object Cn))) (M : Mo D cy A H0 h H locs) (hdg : decode b pc = .ok (.areturn, 1)) : W p l e R s m args below meth c H locs cells slots (MQ below (QR D cy h A (some (va_rf x))) args s cells slots A) (F0 m pc ls [va_rf x]) :=
  W.aret F.1 F.2.1 F.2.2.1 (Or.inl ⟨_, rfl⟩) (by cases x with | none => exact Or.inl rfl | some a => exact Or.inr ⟨a, rfl⟩) (fun t ht hW => M.end F ht hW) M.2.2.1.2.2 hdg F.2.2.2.2.2.1
end RW4
