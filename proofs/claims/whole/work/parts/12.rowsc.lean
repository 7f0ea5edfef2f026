theorem cat_i (v : Int32) : (Value.int v).category = 1 := rfl
theorem cat_j (v : Int64) : (Value.long v).category = 2 := rfl
theorem cat_r (a : Nat) : (Value.ref a).category = 1 := rfl
theorem se_r {α β γ : Type} {f : α → Option γ} {g : β → Option γ} {t : β} {q : γ} (h : Sum.elim f g (.inr t) = some q) : g t = some q := h
theorem se_l {α β γ : Type} {f : α → Option γ} {g : β → Option γ} {t : α} {q : γ} (h : Sum.elim f g (.inl t) = some q) : f t = some q := h
theorem ne_ti {x k : Int32} {n : Int} (hk : k.toInt = n) (h : ¬ x = k) : x.toInt ≠ n := fun e => h (Int32.toInt_inj.mp (e.trans hk.symm))
section RW5
variable {p : Program} {l : Launch} {e : Env} {R : Room} {s : State} {m : MethodId} {args : Array Value} {below : List Frame} {meth : Method} {c : Code} {H : Heap} {locs : List Loc} {cells slots : Nat} {Q : State → Prop}
variable {pc : Nat} {ls : Array Slot} {rest st0 : List Value} {D : va_G} {cy : Nat → ClassId} {A : Nat → Prop} {H0 : Heap} {h h' : IH}
variable {y : MethodName} {b : ByteArray} {n : Nat} {r : Option FieldType} {ci k index N t : Nat} {C : String} {T : u_T} {x : Option Nat} {cc : ByteArray}
variable {y' : MethodName} {b' : ByteArray} {n' np : Nat} {r' : Option FieldType} {rm : Room} {bq : Nat} {As : List Value} {rv : Option Value}
theorem ro_len {v : Int32} (F : Fx p s m args meth c D cy A H0 y b n r) (M : Mo D cy A H0 h H locs) (hg : lnO h x = some v) (hdg : decode b pc = .ok (.arraylength, 1))
    (kk : W p l e R s m args below meth c H locs cells slots Q (F0 m (pc + 1) ls (.int v :: rest))) : W p l e R s m args below meth c H locs cells slots Q (F0 m pc ls (va_rf x :: rest)) := by
  obtain ⟨a, rfl, ⟨hk1, hk2⟩, rfl⟩ := bif_some (P := fun a => 20 ≤ kd h a ∧ kd h a < 27) (g := fun a => nI (ln h a)) hg
  obtain ⟨q, hq⟩ := M.at (a := a) (by omega)
  obtain ⟨hx, hb, -, -, -, -, -, hK, -⟩ := F
  obtain ⟨j, hj⟩ : ∃ j, kd h a = 20 + j := ⟨kd h a - 20, by omega⟩
  have h7 : j < 7 := by omega
  rcases (show j = 0 ∨ j = 1 ∨ j = 2 ∨ 3 ≤ j by omega) with rfl | rfl | rfl | h3
  · rw [ent_I hj] at hq
    exact va_alen hx hb hK M.1 q 0 hq rfl rfl hdg kk
  · rw [ent_J hj] at hq
    exact va_alen hx hb hK M.1 q 1 hq rfl rfl hdg kk
  · rw [ent_Z hj] at hq
    exact va_alen hx hb hK M.1 q 2 hq rfl rfl hdg kk
  · rw [ent_R hj h3] at hq
    rcases (show j = 3 ∨ j = 4 ∨ j = 5 ∨ j = 6 by omega) with rfl | rfl | rfl | rfl
    · exact va_alen hx hb hK M.1 q 3 hq rfl rfl hdg kk
    · exact va_alen hx hb hK M.1 q 4 hq rfl rfl hdg kk
    · exact va_alen hx hb hK M.1 q 5 hq rfl rfl hdg kk
    · exact va_alen hx hb hK M.1 q 6 hq rfl rfl hdg kk
theorem ro_aG {j : Int32} {v : Option Nat} (F : Fx p s m args meth c D cy A H0 y b n r) (M : Mo D cy A H0 h H locs) (hg : aR h 6 x j = some v) (hdg : decode b pc = .ok (.aaload, 1))
    (kk : W p l e R s m args below meth c H locs cells slots Q (F0 m (pc + 1) ls (va_rf v :: rest))) : W p l e R s m args below meth c H locs cells slots Q (F0 m pc ls (.int j :: va_rf x :: rest)) := by
  obtain ⟨a, rfl, ⟨hk, hin⟩, rfl⟩ := bif_some (P := fun a => kd h a = 20 + 6 ∧ ¬ (j < 0 ∨ ln h a ≤ j.toNatClampNeg)) (g := fun a => rR h a j.toNatClampNeg) hg
  obtain ⟨q, hq⟩ := M.at (a := a) (by omega)
  rw [ent_R hk (by decide)] at hq
  obtain ⟨hx, hb, -, -, -, -, -, hK, -⟩ := F
  have hlt : j.toNatClampNeg < ln h a := Nat.not_le.mp fun z => hin (Or.inr z)
  refine W.aald (v := va_rf (rR h a j.toNatClampNeg)) (ty := .array .int) hx hb (M.1 q _ hq) ((hK.2 6 (cy 6, .array .int) rfl).1 (ln h a) (fun i => va_rf (rR h a i))) rfl (fun z => by cases z) ?_ ?_ rfl rfl hdg kk
  · show ¬ (j < 0 ∨ (arrV _ _ _).slots.size ≤ _)
    rw [arrV_size]
    exact hin
  · show (arrV _ _ _).slots[_]? = _
    rw [arrV_read _ _ hlt]
theorem ro_sR {j : Int32} {v : Option Nat} (h3 : 3 ≤ k) (ht : (tysO cy)[k]? = some (cy k, .object C)) (hc : vwCl[ci]? = some (C, T, N)) (hci : ci < 19) (F : Fx p s m args meth c D cy A H0 y b n r) (M : Mo D cy A H0 h H locs) (hg : sR h k ci x j v = some h') (hdg : decode b pc = .ok (.aastore, 1))
    (kk : ∀ (H1 : Heap) (locs1 : List Loc), Mo D cy A H0 h' H1 locs1 → W p l e R s m args below meth c H1 locs1 cells slots Q (F0 m (pc + 1) ls rest)) : W p l e R s m args below meth c H locs cells slots Q (F0 m pc ls (va_rf v :: .int j :: va_rf x :: rest)) := by
  obtain ⟨a, rfl, hg⟩ := bd hg
  obtain ⟨w, rfl, ⟨⟨hk, hw⟩, hin⟩, rfl⟩ := bif_some (P := fun w => (kd h a = 20 + k ∧ kd h w = ci + 1) ∧ ¬ (j < 0 ∨ ln h a ≤ j.toNatClampNeg)) (g := fun w => wrR h a j.toNatClampNeg (some w)) hg
  obtain ⟨q, hq0⟩ := M.at (a := a) (by omega)
  have hq := hq0
  rw [ent_R hk h3] at hq
  obtain ⟨q2, hq2⟩ := M.at (a := w) (by omega)
  rw [ent_o hw hci] at hq2
  obtain ⟨hx, hb, -, -, -, -, -, hK, -⟩ := F
  exact va_astq hx hb hK M.1 M.2.1 M.2.2.1 q k q2 ci hq ht hq2 hc hin hdg (fun H1 locs1 hP hD hS => kk H1 locs1 (M.set hq0 (by omega) rfl rfl (ent_wrR hk h3) hP hD hS))
theorem ca_Vi {v : Int32} (F : Fx p s m args meth c D cy A H0 y b n r) (M : Mo D cy A H0 h H locs) (hM : Ct l D cy y' b' n' r' rm h H.size (.ref bq :: As) h' (some (.int v))) (G : MV ci y' b' n' r' np C) (hlk : Cond.methodLink y.cls index y' ∈ gw) (hkb : kd h bq = ci + 1) (hn : As.length = np) (hR : rm.frames + 1 ≤ R.frames ∧ 8 + (n' + 11) + rm.locals ≤ R.locals) (hrm : rm.cells = 0 ∧ rm.slots = 0) (hf : cells ≤ R.cells ∧ slots ≤ R.slots) (hl : ls.size = n) (hst0 : st0 = As.reverse ++ .ref bq :: rest) (hst : (rest.map fun v => v.category).sum ≤ 8) (hdg : decode b pc = .ok (.invokevirtual index, 3))
    (kk : ∀ (H1 : Heap) (locs1 : List Loc), Mo D cy A H0 h' H1 locs1 → W p l e R s m args below meth c H1 locs1 cells slots Q (F0 m (pc + 3) ls (.int v :: rest))) : W p l e R s m args below meth c H locs cells slots Q (F0 m pc ls st0) := by
  refine ca_V F M hM G hlk hkb hn hR (by rw [hrm.1, hrm.2]; exact hf) hl hst0 hst hdg (fun H1 locs1 _ M1 => ?_)
  rw [hrm.1, hrm.2]
  exact kk H1 locs1 M1
theorem ca_Vl {v : Int64} (F : Fx p s m args meth c D cy A H0 y b n r) (M : Mo D cy A H0 h H locs) (hM : Ct l D cy y' b' n' r' rm h H.size (.ref bq :: As) h' (some (.long v))) (G : MV ci y' b' n' r' np C) (hlk : Cond.methodLink y.cls index y' ∈ gw) (hkb : kd h bq = ci + 1) (hn : As.length = np) (hR : rm.frames + 1 ≤ R.frames ∧ 8 + (n' + 11) + rm.locals ≤ R.locals) (hrm : rm.cells = 0 ∧ rm.slots = 0) (hf : cells ≤ R.cells ∧ slots ≤ R.slots) (hl : ls.size = n) (hst0 : st0 = As.reverse ++ .ref bq :: rest) (hst : (rest.map fun v => v.category).sum ≤ 8) (hdg : decode b pc = .ok (.invokevirtual index, 3))
    (kk : ∀ (H1 : Heap) (locs1 : List Loc), Mo D cy A H0 h' H1 locs1 → W p l e R s m args below meth c H1 locs1 cells slots Q (F0 m (pc + 3) ls (.long v :: rest))) : W p l e R s m args below meth c H locs cells slots Q (F0 m pc ls st0) := by
  refine ca_V F M hM G hlk hkb hn hR (by rw [hrm.1, hrm.2]; exact hf) hl hst0 hst hdg (fun H1 locs1 _ M1 => ?_)
  rw [hrm.1, hrm.2]
  exact kk H1 locs1 M1
theorem ca_Va {v : Option Nat} (F : Fx p s m args meth c D cy A H0 y b n r) (M : Mo D cy A H0 h H locs) (hM : Ct l D cy y' b' n' r' rm h H.size (.ref bq :: As) h' (some (va_rf v))) (G : MV ci y' b' n' r' np C) (hlk : Cond.methodLink y.cls index y' ∈ gw) (hkb : kd h bq = ci + 1) (hn : As.length = np) (hR : rm.frames + 1 ≤ R.frames ∧ 8 + (n' + 11) + rm.locals ≤ R.locals) (hrm : rm.cells = 0 ∧ rm.slots = 0) (hf : cells ≤ R.cells ∧ slots ≤ R.slots) (hl : ls.size = n) (hst0 : st0 = As.reverse ++ .ref bq :: rest) (hst : (rest.map fun v => v.category).sum ≤ 8) (hdg : decode b pc = .ok (.invokevirtual index, 3))
    (kk : ∀ (H1 : Heap) (locs1 : List Loc), Mo D cy A H0 h' H1 locs1 → W p l e R s m args below meth c H1 locs1 cells slots Q (F0 m (pc + 3) ls (va_rf v :: rest))) : W p l e R s m args below meth c H locs cells slots Q (F0 m pc ls st0) := by
  refine ca_V F M hM G hlk hkb hn hR (by rw [hrm.1, hrm.2]; exact hf) hl hst0 hst hdg (fun H1 locs1 _ M1 => ?_)
  rw [hrm.1, hrm.2]
  exact kk H1 locs1 M1
theorem ca_Vv (F : Fx p s m args meth c D cy A H0 y b n r) (M : Mo D cy A H0 h H locs) (hM : Ct l D cy y' b' n' r' rm h H.size (.ref bq :: As) h' none) (G : MV ci y' b' n' r' np C) (hlk : Cond.methodLink y.cls index y' ∈ gw) (hkb : kd h bq = ci + 1) (hn : As.length = np) (hR : rm.frames + 1 ≤ R.frames ∧ 8 + (n' + 11) + rm.locals ≤ R.locals) (hrm : rm.cells = 0 ∧ rm.slots = 0) (hf : cells ≤ R.cells ∧ slots ≤ R.slots) (hl : ls.size = n) (hst0 : st0 = As.reverse ++ .ref bq :: rest) (hst : (rest.map fun v => v.category).sum ≤ 8) (hdg : decode b pc = .ok (.invokevirtual index, 3))
    (kk : ∀ (H1 : Heap) (locs1 : List Loc), Mo D cy A H0 h' H1 locs1 → W p l e R s m args below meth c H1 locs1 cells slots Q (F0 m (pc + 3) ls rest)) : W p l e R s m args below meth c H locs cells slots Q (F0 m pc ls st0) := by
  refine ca_V F M hM G hlk hkb hn hR (by rw [hrm.1, hrm.2]; exact hf) hl hst0 hst hdg (fun H1 locs1 _ M1 => ?_)
  rw [hrm.1, hrm.2]
  exact kk H1 locs1 M1
theorem ca_VNi {host : String} {v : Int32} (F : Fx p s m args meth c D cy A H0 y b n r) (M : Mo D cy A H0 h H locs) (hM : Ct l D cy y' b' n' r' rm h H.size (.ref bq :: As) h' (some (.int v))) (G : MV ci y' b' n' r' np C) (hlk : Cond.methodLinkNest y.cls index y' host ∈ nestW) (hkb : kd h bq = ci + 1) (hn : As.length = np) (hR : rm.frames + 1 ≤ R.frames ∧ 8 + (n' + 11) + rm.locals ≤ R.locals) (hrm : rm.cells = 0 ∧ rm.slots = 0) (hf : cells ≤ R.cells ∧ slots ≤ R.slots) (hl : ls.size = n) (hst0 : st0 = As.reverse ++ .ref bq :: rest) (hst : (rest.map fun v => v.category).sum ≤ 8) (hdg : decode b pc = .ok (.invokevirtual index, 3))
    (kk : ∀ (H1 : Heap) (locs1 : List Loc), Mo D cy A H0 h' H1 locs1 → W p l e R s m args below meth c H1 locs1 cells slots Q (F0 m (pc + 3) ls (.int v :: rest))) : W p l e R s m args below meth c H locs cells slots Q (F0 m pc ls st0) := by
  refine ca_VN F M hM G hlk hkb hn hR (by rw [hrm.1, hrm.2]; exact hf) hl hst0 hst hdg (fun H1 locs1 _ M1 => ?_)
  rw [hrm.1, hrm.2]
  exact kk H1 locs1 M1
theorem ca_VNl {host : String} {v : Int64} (F : Fx p s m args meth c D cy A H0 y b n r) (M : Mo D cy A H0 h H locs) (hM : Ct l D cy y' b' n' r' rm h H.size (.ref bq :: As) h' (some (.long v))) (G : MV ci y' b' n' r' np C) (hlk : Cond.methodLinkNest y.cls index y' host ∈ nestW) (hkb : kd h bq = ci + 1) (hn : As.length = np) (hR : rm.frames + 1 ≤ R.frames ∧ 8 + (n' + 11) + rm.locals ≤ R.locals) (hrm : rm.cells = 0 ∧ rm.slots = 0) (hf : cells ≤ R.cells ∧ slots ≤ R.slots) (hl : ls.size = n) (hst0 : st0 = As.reverse ++ .ref bq :: rest) (hst : (rest.map fun v => v.category).sum ≤ 8) (hdg : decode b pc = .ok (.invokevirtual index, 3))
    (kk : ∀ (H1 : Heap) (locs1 : List Loc), Mo D cy A H0 h' H1 locs1 → W p l e R s m args below meth c H1 locs1 cells slots Q (F0 m (pc + 3) ls (.long v :: rest))) : W p l e R s m args below meth c H locs cells slots Q (F0 m pc ls st0) := by
  refine ca_VN F M hM G hlk hkb hn hR (by rw [hrm.1, hrm.2]; exact hf) hl hst0 hst hdg (fun H1 locs1 _ M1 => ?_)
  rw [hrm.1, hrm.2]
  exact kk H1 locs1 M1
theorem ca_VNa {host : String} {v : Option Nat} (F : Fx p s m args meth c D cy A H0 y b n r) (M : Mo D cy A H0 h H locs) (hM : Ct l D cy y' b' n' r' rm h H.size (.ref bq :: As) h' (some (va_rf v))) (G : MV ci y' b' n' r' np C) (hlk : Cond.methodLinkNest y.cls index y' host ∈ nestW) (hkb : kd h bq = ci + 1) (hn : As.length = np) (hR : rm.frames + 1 ≤ R.frames ∧ 8 + (n' + 11) + rm.locals ≤ R.locals) (hrm : rm.cells = 0 ∧ rm.slots = 0) (hf : cells ≤ R.cells ∧ slots ≤ R.slots) (hl : ls.size = n) (hst0 : st0 = As.reverse ++ .ref bq :: rest) (hst : (rest.map fun v => v.category).sum ≤ 8) (hdg : decode b pc = .ok (.invokevirtual index, 3))
    (kk : ∀ (H1 : Heap) (locs1 : List Loc), Mo D cy A H0 h' H1 locs1 → W p l e R s m args below meth c H1 locs1 cells slots Q (F0 m (pc + 3) ls (va_rf v :: rest))) : W p l e R s m args below meth c H locs cells slots Q (F0 m pc ls st0) := by
  refine ca_VN F M hM G hlk hkb hn hR (by rw [hrm.1, hrm.2]; exact hf) hl hst0 hst hdg (fun H1 locs1 _ M1 => ?_)
  rw [hrm.1, hrm.2]
  exact kk H1 locs1 M1
theorem ca_VNv {host : String} (F : Fx p s m args meth c D cy A H0 y b n r) (M : Mo D cy A H0 h H locs) (hM : Ct l D cy y' b' n' r' rm h H.size (.ref bq :: As) h' none) (G : MV ci y' b' n' r' np C) (hlk : Cond.methodLinkNest y.cls index y' host ∈ nestW) (hkb : kd h bq = ci + 1) (hn : As.length = np) (hR : rm.frames + 1 ≤ R.frames ∧ 8 + (n' + 11) + rm.locals ≤ R.locals) (hrm : rm.cells = 0 ∧ rm.slots = 0) (hf : cells ≤ R.cells ∧ slots ≤ R.slots) (hl : ls.size = n) (hst0 : st0 = As.reverse ++ .ref bq :: rest) (hst : (rest.map fun v => v.category).sum ≤ 8) (hdg : decode b pc = .ok (.invokevirtual index, 3))
    (kk : ∀ (H1 : Heap) (locs1 : List Loc), Mo D cy A H0 h' H1 locs1 → W p l e R s m args below meth c H1 locs1 cells slots Q (F0 m (pc + 3) ls rest)) : W p l e R s m args below meth c H locs cells slots Q (F0 m pc ls st0) := by
  refine ca_VN F M hM G hlk hkb hn hR (by rw [hrm.1, hrm.2]; exact hf) hl hst0 hst hdg (fun H1 locs1 _ M1 => ?_)
  rw [hrm.1, hrm.2]
  exact kk H1 locs1 M1
theorem ca_Si {v : Int32} (F : Fx p s m args meth c D cy A H0 y b n r) (M : Mo D cy A H0 h H locs) (hM : Ct l D cy y' b' n' r' rm h H.size As h' (some (.int v))) (G : MS y' b' n' r' np) (hlk : Cond.methodLink y.cls index y' ∈ gw) (hn : As.length = np) (hR : rm.frames + 1 ≤ R.frames ∧ 8 + (n' + 11) + rm.locals ≤ R.locals) (hrm : rm.cells = 0 ∧ rm.slots = 0) (hf : cells ≤ R.cells ∧ slots ≤ R.slots) (hl : ls.size = n) (hst0 : st0 = As.reverse ++ rest) (hst : (rest.map fun v => v.category).sum ≤ 8) (hdg : decode b pc = .ok (.invokestatic index, 3))
    (kk : ∀ (H1 : Heap) (locs1 : List Loc), Mo D cy A H0 h' H1 locs1 → W p l e R s m args below meth c H1 locs1 cells slots Q (F0 m (pc + 3) ls (.int v :: rest))) : W p l e R s m args below meth c H locs cells slots Q (F0 m pc ls st0) := by
  refine ca_S F M hM G hlk hn hR (by rw [hrm.1, hrm.2]; exact hf) hl hst0 hst hdg (fun H1 locs1 _ M1 => ?_)
  rw [hrm.1, hrm.2]
  exact kk H1 locs1 M1
theorem ca_Sl {v : Int64} (F : Fx p s m args meth c D cy A H0 y b n r) (M : Mo D cy A H0 h H locs) (hM : Ct l D cy y' b' n' r' rm h H.size As h' (some (.long v))) (G : MS y' b' n' r' np) (hlk : Cond.methodLink y.cls index y' ∈ gw) (hn : As.length = np) (hR : rm.frames + 1 ≤ R.frames ∧ 8 + (n' + 11) + rm.locals ≤ R.locals) (hrm : rm.cells = 0 ∧ rm.slots = 0) (hf : cells ≤ R.cells ∧ slots ≤ R.slots) (hl : ls.size = n) (hst0 : st0 = As.reverse ++ rest) (hst : (rest.map fun v => v.category).sum ≤ 8) (hdg : decode b pc = .ok (.invokestatic index, 3))
    (kk : ∀ (H1 : Heap) (locs1 : List Loc), Mo D cy A H0 h' H1 locs1 → W p l e R s m args below meth c H1 locs1 cells slots Q (F0 m (pc + 3) ls (.long v :: rest))) : W p l e R s m args below meth c H locs cells slots Q (F0 m pc ls st0) := by
  refine ca_S F M hM G hlk hn hR (by rw [hrm.1, hrm.2]; exact hf) hl hst0 hst hdg (fun H1 locs1 _ M1 => ?_)
  rw [hrm.1, hrm.2]
  exact kk H1 locs1 M1
theorem ca_Sa {v : Option Nat} (F : Fx p s m args meth c D cy A H0 y b n r) (M : Mo D cy A H0 h H locs) (hM : Ct l D cy y' b' n' r' rm h H.size As h' (some (va_rf v))) (G : MS y' b' n' r' np) (hlk : Cond.methodLink y.cls index y' ∈ gw) (hn : As.length = np) (hR : rm.frames + 1 ≤ R.frames ∧ 8 + (n' + 11) + rm.locals ≤ R.locals) (hrm : rm.cells = 0 ∧ rm.slots = 0) (hf : cells ≤ R.cells ∧ slots ≤ R.slots) (hl : ls.size = n) (hst0 : st0 = As.reverse ++ rest) (hst : (rest.map fun v => v.category).sum ≤ 8) (hdg : decode b pc = .ok (.invokestatic index, 3))
    (kk : ∀ (H1 : Heap) (locs1 : List Loc), Mo D cy A H0 h' H1 locs1 → W p l e R s m args below meth c H1 locs1 cells slots Q (F0 m (pc + 3) ls (va_rf v :: rest))) : W p l e R s m args below meth c H locs cells slots Q (F0 m pc ls st0) := by
  refine ca_S F M hM G hlk hn hR (by rw [hrm.1, hrm.2]; exact hf) hl hst0 hst hdg (fun H1 locs1 _ M1 => ?_)
  rw [hrm.1, hrm.2]
  exact kk H1 locs1 M1
theorem ca_Sv (F : Fx p s m args meth c D cy A H0 y b n r) (M : Mo D cy A H0 h H locs) (hM : Ct l D cy y' b' n' r' rm h H.size As h' none) (G : MS y' b' n' r' np) (hlk : Cond.methodLink y.cls index y' ∈ gw) (hn : As.length = np) (hR : rm.frames + 1 ≤ R.frames ∧ 8 + (n' + 11) + rm.locals ≤ R.locals) (hrm : rm.cells = 0 ∧ rm.slots = 0) (hf : cells ≤ R.cells ∧ slots ≤ R.slots) (hl : ls.size = n) (hst0 : st0 = As.reverse ++ rest) (hst : (rest.map fun v => v.category).sum ≤ 8) (hdg : decode b pc = .ok (.invokestatic index, 3))
    (kk : ∀ (H1 : Heap) (locs1 : List Loc), Mo D cy A H0 h' H1 locs1 → W p l e R s m args below meth c H1 locs1 cells slots Q (F0 m (pc + 3) ls rest)) : W p l e R s m args below meth c H locs cells slots Q (F0 m pc ls st0) := by
  refine ca_S F M hM G hlk hn hR (by rw [hrm.1, hrm.2]; exact hf) hl hst0 hst hdg (fun H1 locs1 _ M1 => ?_)
  rw [hrm.1, hrm.2]
  exact kk H1 locs1 M1
theorem ca_SNi {host : String} {v : Int32} (F : Fx p s m args meth c D cy A H0 y b n r) (M : Mo D cy A H0 h H locs) (hM : Ct l D cy y' b' n' r' rm h H.size As h' (some (.int v))) (G : MS y' b' n' r' np) (hlk : Cond.methodLinkNest y.cls index y' host ∈ nestW) (hn : As.length = np) (hR : rm.frames + 1 ≤ R.frames ∧ 8 + (n' + 11) + rm.locals ≤ R.locals) (hrm : rm.cells = 0 ∧ rm.slots = 0) (hf : cells ≤ R.cells ∧ slots ≤ R.slots) (hl : ls.size = n) (hst0 : st0 = As.reverse ++ rest) (hst : (rest.map fun v => v.category).sum ≤ 8) (hdg : decode b pc = .ok (.invokestatic index, 3))
    (kk : ∀ (H1 : Heap) (locs1 : List Loc), Mo D cy A H0 h' H1 locs1 → W p l e R s m args below meth c H1 locs1 cells slots Q (F0 m (pc + 3) ls (.int v :: rest))) : W p l e R s m args below meth c H locs cells slots Q (F0 m pc ls st0) := by
  refine ca_SN F M hM G hlk hn hR (by rw [hrm.1, hrm.2]; exact hf) hl hst0 hst hdg (fun H1 locs1 _ M1 => ?_)
  rw [hrm.1, hrm.2]
  exact kk H1 locs1 M1
theorem ca_SNl {host : String} {v : Int64} (F : Fx p s m args meth c D cy A H0 y b n r) (M : Mo D cy A H0 h H locs) (hM : Ct l D cy y' b' n' r' rm h H.size As h' (some (.long v))) (G : MS y' b' n' r' np) (hlk : Cond.methodLinkNest y.cls index y' host ∈ nestW) (hn : As.length = np) (hR : rm.frames + 1 ≤ R.frames ∧ 8 + (n' + 11) + rm.locals ≤ R.locals) (hrm : rm.cells = 0 ∧ rm.slots = 0) (hf : cells ≤ R.cells ∧ slots ≤ R.slots) (hl : ls.size = n) (hst0 : st0 = As.reverse ++ rest) (hst : (rest.map fun v => v.category).sum ≤ 8) (hdg : decode b pc = .ok (.invokestatic index, 3))
    (kk : ∀ (H1 : Heap) (locs1 : List Loc), Mo D cy A H0 h' H1 locs1 → W p l e R s m args below meth c H1 locs1 cells slots Q (F0 m (pc + 3) ls (.long v :: rest))) : W p l e R s m args below meth c H locs cells slots Q (F0 m pc ls st0) := by
  refine ca_SN F M hM G hlk hn hR (by rw [hrm.1, hrm.2]; exact hf) hl hst0 hst hdg (fun H1 locs1 _ M1 => ?_)
  rw [hrm.1, hrm.2]
  exact kk H1 locs1 M1
theorem ca_SNa {host : String} {v : Option Nat} (F : Fx p s m args meth c D cy A H0 y b n r) (M : Mo D cy A H0 h H locs) (hM : Ct l D cy y' b' n' r' rm h H.size As h' (some (va_rf v))) (G : MS y' b' n' r' np) (hlk : Cond.methodLinkNest y.cls index y' host ∈ nestW) (hn : As.length = np) (hR : rm.frames + 1 ≤ R.frames ∧ 8 + (n' + 11) + rm.locals ≤ R.locals) (hrm : rm.cells = 0 ∧ rm.slots = 0) (hf : cells ≤ R.cells ∧ slots ≤ R.slots) (hl : ls.size = n) (hst0 : st0 = As.reverse ++ rest) (hst : (rest.map fun v => v.category).sum ≤ 8) (hdg : decode b pc = .ok (.invokestatic index, 3))
    (kk : ∀ (H1 : Heap) (locs1 : List Loc), Mo D cy A H0 h' H1 locs1 → W p l e R s m args below meth c H1 locs1 cells slots Q (F0 m (pc + 3) ls (va_rf v :: rest))) : W p l e R s m args below meth c H locs cells slots Q (F0 m pc ls st0) := by
  refine ca_SN F M hM G hlk hn hR (by rw [hrm.1, hrm.2]; exact hf) hl hst0 hst hdg (fun H1 locs1 _ M1 => ?_)
  rw [hrm.1, hrm.2]
  exact kk H1 locs1 M1
theorem ca_SNv {host : String} (F : Fx p s m args meth c D cy A H0 y b n r) (M : Mo D cy A H0 h H locs) (hM : Ct l D cy y' b' n' r' rm h H.size As h' none) (G : MS y' b' n' r' np) (hlk : Cond.methodLinkNest y.cls index y' host ∈ nestW) (hn : As.length = np) (hR : rm.frames + 1 ≤ R.frames ∧ 8 + (n' + 11) + rm.locals ≤ R.locals) (hrm : rm.cells = 0 ∧ rm.slots = 0) (hf : cells ≤ R.cells ∧ slots ≤ R.slots) (hl : ls.size = n) (hst0 : st0 = As.reverse ++ rest) (hst : (rest.map fun v => v.category).sum ≤ 8) (hdg : decode b pc = .ok (.invokestatic index, 3))
    (kk : ∀ (H1 : Heap) (locs1 : List Loc), Mo D cy A H0 h' H1 locs1 → W p l e R s m args below meth c H1 locs1 cells slots Q (F0 m (pc + 3) ls rest)) : W p l e R s m args below meth c H locs cells slots Q (F0 m pc ls st0) := by
  refine ca_SN F M hM G hlk hn hR (by rw [hrm.1, hrm.2]; exact hf) hl hst0 hst hdg (fun H1 locs1 _ M1 => ?_)
  rw [hrm.1, hrm.2]
  exact kk H1 locs1 M1
theorem ca_Iv (F : Fx p s m args meth c D cy A H0 y b n r) (M : Mo D cy A H0 h H locs) (hM : Ct l D cy y' b' n' none rm h H.size (.ref bq :: As) h' none) (G : MI y' b' n' np) (hlk : Cond.methodLink y.cls index y' ∈ gw) (hn : As.length = np) (hR : rm.frames + 1 ≤ R.frames ∧ 8 + (n' + 11) + rm.locals ≤ R.locals) (hrm : rm.cells = 0 ∧ rm.slots = 0) (hf : cells ≤ R.cells ∧ slots ≤ R.slots) (hl : ls.size = n) (hst0 : st0 = As.reverse ++ .ref bq :: rest) (hst : (rest.map fun v => v.category).sum ≤ 8) (hdg : decode b pc = .ok (.invokespecial index, 3))
    (kk : ∀ (H1 : Heap) (locs1 : List Loc), Mo D cy A H0 h' H1 locs1 → W p l e R s m args below meth c H1 locs1 cells slots Q (F0 m (pc + 3) ls rest)) : W p l e R s m args below meth c H locs cells slots Q (F0 m pc ls st0) := by
  refine ca_I F M hM G hlk hn hR (by rw [hrm.1, hrm.2]; exact hf) hl hst0 hst hdg (fun H1 locs1 _ M1 => ?_)
  rw [hrm.1, hrm.2]
  exact kk H1 locs1 M1
theorem ca_INv {host : String} (F : Fx p s m args meth c D cy A H0 y b n r) (M : Mo D cy A H0 h H locs) (hM : Ct l D cy y' b' n' none rm h H.size (.ref bq :: As) h' none) (G : MI y' b' n' np) (hlk : Cond.methodLinkNest y.cls index y' host ∈ nestW) (hn : As.length = np) (hR : rm.frames + 1 ≤ R.frames ∧ 8 + (n' + 11) + rm.locals ≤ R.locals) (hrm : rm.cells = 0 ∧ rm.slots = 0) (hf : cells ≤ R.cells ∧ slots ≤ R.slots) (hl : ls.size = n) (hst0 : st0 = As.reverse ++ .ref bq :: rest) (hst : (rest.map fun v => v.category).sum ≤ 8) (hdg : decode b pc = .ok (.invokespecial index, 3))
    (kk : ∀ (H1 : Heap) (locs1 : List Loc), Mo D cy A H0 h' H1 locs1 → W p l e R s m args below meth c H1 locs1 cells slots Q (F0 m (pc + 3) ls rest)) : W p l e R s m args below meth c H locs cells slots Q (F0 m pc ls st0) := by
  refine ca_IN F M hM G hlk hn hR (by rw [hrm.1, hrm.2]; exact hf) hl hst0 hst hdg (fun H1 locs1 _ M1 => ?_)
  rw [hrm.1, hrm.2]
  exact kk H1 locs1 M1
theorem ro_pIF {v : Int32} (F : Fx p s m args meth c D cy A H0 y b n r) (hinit : meth.name = "<init>") (M : Mo D cy A H0 h H locs) (G : FG ci k 0 C T N) (P : FP k T N .int) (hfin : (T k).2.2.2 = true) (hdecl : (T k).1 = y.cls) (hlk : Cond.fieldLink y.cls index (T k).1 (T k).2.1 (T k).2.2.1 ∈ gw) (hg : pI h ci k x v = some h') (hdg : decode b pc = .ok (.putfield index, 3))
    (kk : ∀ (H1 : Heap) (locs1 : List Loc), Mo D cy A H0 h' H1 locs1 → W p l e R s m args below meth c H1 locs1 cells slots Q (F0 m (pc + 3) ls rest)) : W p l e R s m args below meth c H locs cells slots Q (F0 m pc ls (.int v :: va_rf x :: rest)) := by
  obtain ⟨a, rfl, hk, rfl⟩ := pI_some hg
  exact ro_putF (h' := wfI h (100 * ci + k) a v) F hinit M G P hfin hdecl hlk hk rfl rfl rfl rfl (ent_wfI hk G.2.2.2.1 G.2.2.2.2) hdg kk
theorem ro_pLF {v : Int64} (F : Fx p s m args meth c D cy A H0 y b n r) (hinit : meth.name = "<init>") (M : Mo D cy A H0 h H locs) (G : FG ci k 1 C T N) (P : FP k T N .long) (hfin : (T k).2.2.2 = true) (hdecl : (T k).1 = y.cls) (hlk : Cond.fieldLink y.cls index (T k).1 (T k).2.1 (T k).2.2.1 ∈ gw) (hg : pL h ci k x v = some h') (hdg : decode b pc = .ok (.putfield index, 3))
    (kk : ∀ (H1 : Heap) (locs1 : List Loc), Mo D cy A H0 h' H1 locs1 → W p l e R s m args below meth c H1 locs1 cells slots Q (F0 m (pc + 3) ls rest)) : W p l e R s m args below meth c H locs cells slots Q (F0 m pc ls (.long v :: va_rf x :: rest)) := by
  obtain ⟨a, rfl, hk, rfl⟩ := pL_some hg
  exact ro_putF (h' := wfL h (100 * ci + k) a v) F hinit M G P hfin hdecl hlk hk rfl rfl rfl rfl (ent_wfL hk G.2.2.2.1 G.2.2.2.2) hdg kk
theorem ro_pRF {v : Option Nat} {Cn : String} (F : Fx p s m args meth c D cy A H0 y b n r) (hinit : meth.name = "<init>") (M : Mo D cy A H0 h H locs) (G : FG ci k 2 C T N) (P : FP k T N (.object Cn)) (hfin : (T k).2.2.2 = true) (hdecl : (T k).1 = y.cls) (hlk : Cond.fieldLink y.cls index (T k).1 (T k).2.1 (T k).2.2.1 ∈ gw) (hg : pR h ci k x v = some h') (hdg : decode b pc = .ok (.putfield index, 3))
    (kk : ∀ (H1 : Heap) (locs1 : List Loc), Mo D cy A H0 h' H1 locs1 → W p l e R s m args below meth c H1 locs1 cells slots Q (F0 m (pc + 3) ls rest)) : W p l e R s m args below meth c H locs cells slots Q (F0 m pc ls (va_rf v :: va_rf x :: rest)) := by
  obtain ⟨a, rfl, hk, rfl⟩ := pR_some hg
  exact ro_putF (h' := wfR h (100 * ci + k) a v) F hinit M G P hfin hdecl hlk hk (nar_o _ _) (fit_o _ _) rfl rfl (ent_wfR hk G.2.2.2.1 G.2.2.2.2) hdg kk
theorem ro_pAF {v : Option Nat} {et : FieldType} (F : Fx p s m args meth c D cy A H0 y b n r) (hinit : meth.name = "<init>") (M : Mo D cy A H0 h H locs) (G : FG ci k 2 C T N) (P : FP k T N (.array et)) (hfin : (T k).2.2.2 = true) (hdecl : (T k).1 = y.cls) (hlk : Cond.fieldLink y.cls index (T k).1 (T k).2.1 (T k).2.2.1 ∈ gw) (hg : pR h ci k x v = some h') (hdg : decode b pc = .ok (.putfield index, 3))
    (kk : ∀ (H1 : Heap) (locs1 : List Loc), Mo D cy A H0 h' H1 locs1 → W p l e R s m args below meth c H1 locs1 cells slots Q (F0 m (pc + 3) ls rest)) : W p l e R s m args below meth c H locs cells slots Q (F0 m pc ls (va_rf v :: va_rf x :: rest)) := by
  obtain ⟨a, rfl, hk, rfl⟩ := pR_some hg
  exact ro_putF (h' := wfR h (100 * ci + k) a v) F hinit M G P hfin hdecl hlk hk (nar_a _ _) (fit_a _ _) rfl rfl (ent_wfR hk G.2.2.2.1 G.2.2.2.2) hdg kk
end RW5
set_option maxHeartbeats 4000000 in
theorem ct_startF {l : Launch} {D : va_G} {cy : Nat → ClassId} {y : MethodName} {b : ByteArray} {n : Nat} {r : Option FieldType} {rm : Room} {h : IH} {sz : Nat} {av : List Value} {h' : IH} {rv : Option Value} (hy : plainFor y = true) (lv : List (Nat × Value)) (hlen : (lg_sl av).length ≤ n) (hlv : lv_args 0 av = lv)
    (W0 : ∀ (p : Program) (e : Env) (s : State) (m : MethodId) (args : Array Value) (below : List Frame) (meth : Method) (c : Code) (A : Nat → Prop) (H0 : Heap) (ls : Array Slot), Fx p s m args meth c D cy A H0 y b n r → (y.name = "<init>" → meth.name = "<init>") → s.heap.size = sz → Mo D cy A H0 h s.heap [] → lv_has ls n lv → W p l e rm s m args below meth c s.heap [] 0 0 (MQ below (QR D cy h' A rv) args s rm.cells rm.slots A) (F0 m 0 ls [])) :
    Ct l D cy y b n r rm h sz av h' rv := by
  refine va_MetF (cc := b) (maxL := n) (ret := r) hy rfl ?_
  intro p e s m args below meth c s₁ B hml hv
  obtain ⟨rfl, hsz, ⟨hP, hK, hD0, hdom⟩, hN, hSC⟩ := hv
  have hts := atoms_spec (ws := wsA y b n r) B.pre
  have hown : s.vm.findClass y.cls = some m.cls := findClass_of_methodNamed B.named
  have hin : y.name = "<init>" → meth.name = "<init>" := fun hq => (name_of_methodNamed B.named B.method).1.trans hq
  subst hsz
  have hD := hD0.self (sz := s.heap.size)
  have hl := lv_entry av (n := n) hlen
  rw [hlv] at hl
  rw [lg_entry_eq]
  exact W0 p e s m _ below meth c _ s.heap _ ⟨B.exec, B.bytes, B.returns, hml, hown, B.notSynchronized, hts, hK, hN, fun q hq => Or.inr hq, rfl, hSC⟩ hin rfl ⟨hP, hD, va_S.rf, hdom⟩ hl

theorem fg_0_0 : FG 0 0 2 RX0 TX0 5 := ⟨rfl, inX0, by decide, by decide, rfl⟩
theorem fp_0_0 : FP 0 TX0 5 (.object "ContactHouse$Roster") := ⟨tyX0, tyX0_ok, nmX0, tyX0_ok 0 (by decide)⟩
theorem fg_0_1 : FG 0 1 2 RX0 TX0 5 := ⟨rfl, inX0, by decide, by decide, rfl⟩
theorem fp_0_1 : FP 1 TX0 5 (.object "ContactHouse$Clocks") := ⟨tyX0, tyX0_ok, nmX0, tyX0_ok 1 (by decide)⟩
theorem fg_0_2 : FG 0 2 2 RX0 TX0 5 := ⟨rfl, inX0, by decide, by decide, rfl⟩
theorem fp_0_2 : FP 2 TX0 5 (.object "ContactHouse$Pairing") := ⟨tyX0, tyX0_ok, nmX0, tyX0_ok 2 (by decide)⟩
theorem fg_0_3 : FG 0 3 0 RX0 TX0 5 := ⟨rfl, inX0, by decide, by decide, rfl⟩
theorem fp_0_3 : FP 3 TX0 5 .int := ⟨tyX0, tyX0_ok, nmX0, tyX0_ok 3 (by decide)⟩
theorem fg_0_4 : FG 0 4 0 RX0 TX0 5 := ⟨rfl, inX0, by decide, by decide, rfl⟩
theorem fp_0_4 : FP 4 TX0 5 .boolean := ⟨tyX0, tyX0_ok, nmX0, tyX0_ok 4 (by decide)⟩
theorem fg_1_0 : FG 1 0 2 RX1 TX1 5 := ⟨rfl, inX1, by decide, by decide, rfl⟩
theorem fp_1_0 : FP 0 TX1 5 (.object "ContactHouse$Roster") := ⟨tyX1, tyX1_ok, nmX1, tyX1_ok 0 (by decide)⟩
theorem fg_1_1 : FG 1 1 2 RX1 TX1 5 := ⟨rfl, inX1, by decide, by decide, rfl⟩
theorem fp_1_1 : FP 1 TX1 5 (.array .long) := ⟨tyX1, tyX1_ok, nmX1, tyX1_ok 1 (by decide)⟩
theorem fg_1_2 : FG 1 2 2 RX1 TX1 5 := ⟨rfl, inX1, by decide, by decide, rfl⟩
theorem fp_1_2 : FP 2 TX1 5 (.array .int) := ⟨tyX1, tyX1_ok, nmX1, tyX1_ok 2 (by decide)⟩
theorem fg_1_3 : FG 1 3 0 RX1 TX1 5 := ⟨rfl, inX1, by decide, by decide, rfl⟩
theorem fp_1_3 : FP 3 TX1 5 .int := ⟨tyX1, tyX1_ok, nmX1, tyX1_ok 3 (by decide)⟩
theorem fg_1_4 : FG 1 4 0 RX1 TX1 5 := ⟨rfl, inX1, by decide, by decide, rfl⟩
theorem fp_1_4 : FP 4 TX1 5 .int := ⟨tyX1, tyX1_ok, nmX1, tyX1_ok 4 (by decide)⟩
theorem fg_2_0 : FG 2 0 0 RX2 TX2 11 := ⟨rfl, inX2, by decide, by decide, rfl⟩
theorem fp_2_0 : FP 0 TX2 11 .int := ⟨tyX2, tyX2_ok, nmX2, tyX2_ok 0 (by decide)⟩
theorem fg_2_1 : FG 2 1 1 RX2 TX2 11 := ⟨rfl, inX2, by decide, by decide, rfl⟩
theorem fp_2_1 : FP 1 TX2 11 .long := ⟨tyX2, tyX2_ok, nmX2, tyX2_ok 1 (by decide)⟩
theorem fg_2_2 : FG 2 2 1 RX2 TX2 11 := ⟨rfl, inX2, by decide, by decide, rfl⟩
theorem fp_2_2 : FP 2 TX2 11 .long := ⟨tyX2, tyX2_ok, nmX2, tyX2_ok 2 (by decide)⟩
theorem fg_2_3 : FG 2 3 1 RX2 TX2 11 := ⟨rfl, inX2, by decide, by decide, rfl⟩
theorem fp_2_3 : FP 3 TX2 11 .long := ⟨tyX2, tyX2_ok, nmX2, tyX2_ok 3 (by decide)⟩
theorem fg_2_4 : FG 2 4 0 RX2 TX2 11 := ⟨rfl, inX2, by decide, by decide, rfl⟩
theorem fp_2_4 : FP 4 TX2 11 .int := ⟨tyX2, tyX2_ok, nmX2, tyX2_ok 4 (by decide)⟩
theorem fg_2_5 : FG 2 5 0 RX2 TX2 11 := ⟨rfl, inX2, by decide, by decide, rfl⟩
theorem fp_2_5 : FP 5 TX2 11 .int := ⟨tyX2, tyX2_ok, nmX2, tyX2_ok 5 (by decide)⟩
theorem fg_2_6 : FG 2 6 0 RX2 TX2 11 := ⟨rfl, inX2, by decide, by decide, rfl⟩
theorem fp_2_6 : FP 6 TX2 11 .int := ⟨tyX2, tyX2_ok, nmX2, tyX2_ok 6 (by decide)⟩
theorem fg_2_7 : FG 2 7 0 RX2 TX2 11 := ⟨rfl, inX2, by decide, by decide, rfl⟩
theorem fp_2_7 : FP 7 TX2 11 .int := ⟨tyX2, tyX2_ok, nmX2, tyX2_ok 7 (by decide)⟩
theorem fg_2_8 : FG 2 8 0 RX2 TX2 11 := ⟨rfl, inX2, by decide, by decide, rfl⟩
theorem fp_2_8 : FP 8 TX2 11 .int := ⟨tyX2, tyX2_ok, nmX2, tyX2_ok 8 (by decide)⟩
theorem fg_2_9 : FG 2 9 0 RX2 TX2 11 := ⟨rfl, inX2, by decide, by decide, rfl⟩
theorem fp_2_9 : FP 9 TX2 11 .int := ⟨tyX2, tyX2_ok, nmX2, tyX2_ok 9 (by decide)⟩
theorem fg_2_10 : FG 2 10 0 RX2 TX2 11 := ⟨rfl, inX2, by decide, by decide, rfl⟩
theorem fp_2_10 : FP 10 TX2 11 .int := ⟨tyX2, tyX2_ok, nmX2, tyX2_ok 10 (by decide)⟩
theorem fg_3_0 : FG 3 0 2 RX3 TX3 7 := ⟨rfl, inX3, by decide, by decide, rfl⟩
theorem fp_3_0 : FP 0 TX3 7 (.array .int) := ⟨tyX3, tyX3_ok, nmX3, tyX3_ok 0 (by decide)⟩
theorem fg_3_1 : FG 3 1 0 RX3 TX3 7 := ⟨rfl, inX3, by decide, by decide, rfl⟩
theorem fp_3_1 : FP 1 TX3 7 .int := ⟨tyX3, tyX3_ok, nmX3, tyX3_ok 1 (by decide)⟩
theorem fg_3_2 : FG 3 2 2 RX3 TX3 7 := ⟨rfl, inX3, by decide, by decide, rfl⟩
theorem fp_3_2 : FP 2 TX3 7 (.array .int) := ⟨tyX3, tyX3_ok, nmX3, tyX3_ok 2 (by decide)⟩
theorem fg_3_3 : FG 3 3 2 RX3 TX3 7 := ⟨rfl, inX3, by decide, by decide, rfl⟩
theorem fp_3_3 : FP 3 TX3 7 (.array .int) := ⟨tyX3, tyX3_ok, nmX3, tyX3_ok 3 (by decide)⟩
theorem fg_3_4 : FG 3 4 0 RX3 TX3 7 := ⟨rfl, inX3, by decide, by decide, rfl⟩
theorem fp_3_4 : FP 4 TX3 7 .int := ⟨tyX3, tyX3_ok, nmX3, tyX3_ok 4 (by decide)⟩
theorem fg_3_5 : FG 3 5 2 RX3 TX3 7 := ⟨rfl, inX3, by decide, by decide, rfl⟩
theorem fp_3_5 : FP 5 TX3 7 (.array .long) := ⟨tyX3, tyX3_ok, nmX3, tyX3_ok 5 (by decide)⟩
theorem fg_3_6 : FG 3 6 0 RX3 TX3 7 := ⟨rfl, inX3, by decide, by decide, rfl⟩
theorem fp_3_6 : FP 6 TX3 7 .int := ⟨tyX3, tyX3_ok, nmX3, tyX3_ok 6 (by decide)⟩
theorem fg_4_0 : FG 4 0 2 RX4 TX4 3 := ⟨rfl, inX4, by decide, by decide, rfl⟩
theorem fp_4_0 : FP 0 TX4 3 (.array (.object "ContactHouse$Entry")) := ⟨tyX4, tyX4_ok, nmX4, tyX4_ok 0 (by decide)⟩
theorem fg_4_1 : FG 4 1 0 RX4 TX4 3 := ⟨rfl, inX4, by decide, by decide, rfl⟩
theorem fp_4_1 : FP 1 TX4 3 .int := ⟨tyX4, tyX4_ok, nmX4, tyX4_ok 1 (by decide)⟩
theorem fg_4_2 : FG 4 2 0 RX4 TX4 3 := ⟨rfl, inX4, by decide, by decide, rfl⟩
theorem fp_4_2 : FP 2 TX4 3 .boolean := ⟨tyX4, tyX4_ok, nmX4, tyX4_ok 2 (by decide)⟩
theorem fg_5_0 : FG 5 0 2 RX5 TX5 5 := ⟨rfl, inX5, by decide, by decide, rfl⟩
theorem fp_5_0 : FP 0 TX5 5 (.object "ContactHouse$Tape") := ⟨tyX5, tyX5_ok, nmX5, tyX5_ok 0 (by decide)⟩
theorem fg_5_1 : FG 5 1 2 RX5 TX5 5 := ⟨rfl, inX5, by decide, by decide, rfl⟩
theorem fp_5_1 : FP 1 TX5 5 (.object "ContactHouse$Entry") := ⟨tyX5, tyX5_ok, nmX5, tyX5_ok 1 (by decide)⟩
theorem fg_5_2 : FG 5 2 2 RX5 TX5 5 := ⟨rfl, inX5, by decide, by decide, rfl⟩
theorem fp_5_2 : FP 2 TX5 5 (.array .int) := ⟨tyX5, tyX5_ok, nmX5, tyX5_ok 2 (by decide)⟩
theorem fg_5_3 : FG 5 3 0 RX5 TX5 5 := ⟨rfl, inX5, by decide, by decide, rfl⟩
theorem fp_5_3 : FP 3 TX5 5 .int := ⟨tyX5, tyX5_ok, nmX5, tyX5_ok 3 (by decide)⟩
theorem fg_5_4 : FG 5 4 2 RX5 TX5 5 := ⟨rfl, inX5, by decide, by decide, rfl⟩
theorem fp_5_4 : FP 4 TX5 5 (.object "ContactHouse$Log") := ⟨tyX5, tyX5_ok, nmX5, tyX5_ok 4 (by decide)⟩
theorem fg_6_0 : FG 6 0 2 RX6 TX6 8 := ⟨rfl, inX6, by decide, by decide, rfl⟩
theorem fp_6_0 : FP 0 TX6 8 (.array (.array .int)) := ⟨tyX6, tyX6_ok, nmX6, tyX6_ok 0 (by decide)⟩
theorem fg_6_1 : FG 6 1 2 RX6 TX6 8 := ⟨rfl, inX6, by decide, by decide, rfl⟩
theorem fp_6_1 : FP 1 TX6 8 (.array (.array .int)) := ⟨tyX6, tyX6_ok, nmX6, tyX6_ok 1 (by decide)⟩
theorem fg_6_2 : FG 6 2 2 RX6 TX6 8 := ⟨rfl, inX6, by decide, by decide, rfl⟩
theorem fp_6_2 : FP 2 TX6 8 (.array .int) := ⟨tyX6, tyX6_ok, nmX6, tyX6_ok 2 (by decide)⟩
theorem fg_6_3 : FG 6 3 2 RX6 TX6 8 := ⟨rfl, inX6, by decide, by decide, rfl⟩
theorem fp_6_3 : FP 3 TX6 8 (.array .int) := ⟨tyX6, tyX6_ok, nmX6, tyX6_ok 3 (by decide)⟩
theorem fg_6_4 : FG 6 4 0 RX6 TX6 8 := ⟨rfl, inX6, by decide, by decide, rfl⟩
theorem fp_6_4 : FP 4 TX6 8 .int := ⟨tyX6, tyX6_ok, nmX6, tyX6_ok 4 (by decide)⟩
theorem fg_6_5 : FG 6 5 0 RX6 TX6 8 := ⟨rfl, inX6, by decide, by decide, rfl⟩
theorem fp_6_5 : FP 5 TX6 8 .int := ⟨tyX6, tyX6_ok, nmX6, tyX6_ok 5 (by decide)⟩
theorem fg_6_6 : FG 6 6 2 RX6 TX6 8 := ⟨rfl, inX6, by decide, by decide, rfl⟩
theorem fp_6_6 : FP 6 TX6 8 (.array .boolean) := ⟨tyX6, tyX6_ok, nmX6, tyX6_ok 6 (by decide)⟩
theorem fg_6_7 : FG 6 7 2 RX6 TX6 8 := ⟨rfl, inX6, by decide, by decide, rfl⟩
theorem fp_6_7 : FP 7 TX6 8 (.array .boolean) := ⟨tyX6, tyX6_ok, nmX6, tyX6_ok 7 (by decide)⟩
theorem fg_7_0 : FG 7 0 2 RX7 TX7 2 := ⟨rfl, inX7, by decide, by decide, rfl⟩
theorem fp_7_0 : FP 0 TX7 2 (.array (.object "ContactHouse$Station")) := ⟨tyX7, tyX7_ok, nmX7, tyX7_ok 0 (by decide)⟩
theorem fg_7_1 : FG 7 1 0 RX7 TX7 2 := ⟨rfl, inX7, by decide, by decide, rfl⟩
theorem fp_7_1 : FP 1 TX7 2 .int := ⟨tyX7, tyX7_ok, nmX7, tyX7_ok 1 (by decide)⟩
theorem fg_8_0 : FG 8 0 2 RX8 TX8 3 := ⟨rfl, inX8, by decide, by decide, rfl⟩
theorem fp_8_0 : FP 0 TX8 3 (.object "ContactHouse$Roster") := ⟨tyX8, tyX8_ok, nmX8, tyX8_ok 0 (by decide)⟩
theorem fg_8_1 : FG 8 1 2 RX8 TX8 3 := ⟨rfl, inX8, by decide, by decide, rfl⟩
theorem fp_8_1 : FP 1 TX8 3 (.object "ContactHouse$Formula") := ⟨tyX8, tyX8_ok, nmX8, tyX8_ok 1 (by decide)⟩
theorem fg_8_2 : FG 8 2 0 RX8 TX8 3 := ⟨rfl, inX8, by decide, by decide, rfl⟩
theorem fp_8_2 : FP 2 TX8 3 .int := ⟨tyX8, tyX8_ok, nmX8, tyX8_ok 2 (by decide)⟩
theorem fg_9_0 : FG 9 0 0 RX9 TX9 9 := ⟨rfl, inX9, by decide, by decide, rfl⟩
theorem fp_9_0 : FP 0 TX9 9 .int := ⟨tyX9, tyX9_ok, nmX9, tyX9_ok 0 (by decide)⟩
theorem fg_9_1 : FG 9 1 0 RX9 TX9 9 := ⟨rfl, inX9, by decide, by decide, rfl⟩
theorem fp_9_1 : FP 1 TX9 9 .int := ⟨tyX9, tyX9_ok, nmX9, tyX9_ok 1 (by decide)⟩
theorem fg_9_2 : FG 9 2 0 RX9 TX9 9 := ⟨rfl, inX9, by decide, by decide, rfl⟩
theorem fp_9_2 : FP 2 TX9 9 .int := ⟨tyX9, tyX9_ok, nmX9, tyX9_ok 2 (by decide)⟩
theorem fg_9_3 : FG 9 3 0 RX9 TX9 9 := ⟨rfl, inX9, by decide, by decide, rfl⟩
theorem fp_9_3 : FP 3 TX9 9 .int := ⟨tyX9, tyX9_ok, nmX9, tyX9_ok 3 (by decide)⟩
theorem fg_9_4 : FG 9 4 1 RX9 TX9 9 := ⟨rfl, inX9, by decide, by decide, rfl⟩
theorem fp_9_4 : FP 4 TX9 9 .long := ⟨tyX9, tyX9_ok, nmX9, tyX9_ok 4 (by decide)⟩
theorem fg_9_5 : FG 9 5 2 RX9 TX9 9 := ⟨rfl, inX9, by decide, by decide, rfl⟩
theorem fp_9_5 : FP 5 TX9 9 (.array (.object "ContactHouse$Log")) := ⟨tyX9, tyX9_ok, nmX9, tyX9_ok 5 (by decide)⟩
theorem fg_9_6 : FG 9 6 0 RX9 TX9 9 := ⟨rfl, inX9, by decide, by decide, rfl⟩
theorem fp_9_6 : FP 6 TX9 9 .int := ⟨tyX9, tyX9_ok, nmX9, tyX9_ok 6 (by decide)⟩
theorem fg_9_7 : FG 9 7 0 RX9 TX9 9 := ⟨rfl, inX9, by decide, by decide, rfl⟩
theorem fp_9_7 : FP 7 TX9 9 .int := ⟨tyX9, tyX9_ok, nmX9, tyX9_ok 7 (by decide)⟩
theorem fg_9_8 : FG 9 8 1 RX9 TX9 9 := ⟨rfl, inX9, by decide, by decide, rfl⟩
theorem fp_9_8 : FP 8 TX9 9 .long := ⟨tyX9, tyX9_ok, nmX9, tyX9_ok 8 (by decide)⟩
theorem fg_10_0 : FG 10 0 2 RX10 TX10 6 := ⟨rfl, inX10, by decide, by decide, rfl⟩
theorem fp_10_0 : FP 0 TX10 6 (.array .int) := ⟨tyX10, tyX10_ok, nmX10, tyX10_ok 0 (by decide)⟩
theorem fg_10_1 : FG 10 1 0 RX10 TX10 6 := ⟨rfl, inX10, by decide, by decide, rfl⟩
theorem fp_10_1 : FP 1 TX10 6 .int := ⟨tyX10, tyX10_ok, nmX10, tyX10_ok 1 (by decide)⟩
theorem fg_10_2 : FG 10 2 0 RX10 TX10 6 := ⟨rfl, inX10, by decide, by decide, rfl⟩
theorem fp_10_2 : FP 2 TX10 6 .int := ⟨tyX10, tyX10_ok, nmX10, tyX10_ok 2 (by decide)⟩
theorem fg_10_3 : FG 10 3 0 RX10 TX10 6 := ⟨rfl, inX10, by decide, by decide, rfl⟩
theorem fp_10_3 : FP 3 TX10 6 .int := ⟨tyX10, tyX10_ok, nmX10, tyX10_ok 3 (by decide)⟩
theorem fg_10_4 : FG 10 4 0 RX10 TX10 6 := ⟨rfl, inX10, by decide, by decide, rfl⟩
theorem fp_10_4 : FP 4 TX10 6 .int := ⟨tyX10, tyX10_ok, nmX10, tyX10_ok 4 (by decide)⟩
theorem fg_10_5 : FG 10 5 0 RX10 TX10 6 := ⟨rfl, inX10, by decide, by decide, rfl⟩
theorem fp_10_5 : FP 5 TX10 6 .int := ⟨tyX10, tyX10_ok, nmX10, tyX10_ok 5 (by decide)⟩
theorem fg_11_0 : FG 11 0 2 RX11 TX11 14 := ⟨rfl, inX11, by decide, by decide, rfl⟩
theorem fp_11_0 : FP 0 TX11 14 (.object "ContactHouse$Tape") := ⟨tyX11, tyX11_ok, nmX11, tyX11_ok 0 (by decide)⟩
theorem fg_11_1 : FG 11 1 2 RX11 TX11 14 := ⟨rfl, inX11, by decide, by decide, rfl⟩
theorem fp_11_1 : FP 1 TX11 14 (.object "ContactHouse$Roster") := ⟨tyX11, tyX11_ok, nmX11, tyX11_ok 1 (by decide)⟩
theorem fg_11_2 : FG 11 2 2 RX11 TX11 14 := ⟨rfl, inX11, by decide, by decide, rfl⟩
theorem fp_11_2 : FP 2 TX11 14 (.object "ContactHouse$LogReader") := ⟨tyX11, tyX11_ok, nmX11, tyX11_ok 2 (by decide)⟩
theorem fg_11_3 : FG 11 3 2 RX11 TX11 14 := ⟨rfl, inX11, by decide, by decide, rfl⟩
theorem fp_11_3 : FP 3 TX11 14 (.object "ContactHouse$Formula") := ⟨tyX11, tyX11_ok, nmX11, tyX11_ok 3 (by decide)⟩
theorem fg_11_4 : FG 11 4 2 RX11 TX11 14 := ⟨rfl, inX11, by decide, by decide, rfl⟩
theorem fp_11_4 : FP 4 TX11 14 (.object "ContactHouse$Checker") := ⟨tyX11, tyX11_ok, nmX11, tyX11_ok 4 (by decide)⟩
theorem fg_11_5 : FG 11 5 2 RX11 TX11 14 := ⟨rfl, inX11, by decide, by decide, rfl⟩
theorem fp_11_5 : FP 5 TX11 14 (.object "ContactHouse$Scores") := ⟨tyX11, tyX11_ok, nmX11, tyX11_ok 5 (by decide)⟩
theorem fg_11_6 : FG 11 6 2 RX11 TX11 14 := ⟨rfl, inX11, by decide, by decide, rfl⟩
theorem fp_11_6 : FP 6 TX11 14 (.array (.array .int)) := ⟨tyX11, tyX11_ok, nmX11, tyX11_ok 6 (by decide)⟩
theorem fg_11_7 : FG 11 7 2 RX11 TX11 14 := ⟨rfl, inX11, by decide, by decide, rfl⟩
theorem fp_11_7 : FP 7 TX11 14 (.array .int) := ⟨tyX11, tyX11_ok, nmX11, tyX11_ok 7 (by decide)⟩
theorem fg_11_8 : FG 11 8 0 RX11 TX11 14 := ⟨rfl, inX11, by decide, by decide, rfl⟩
theorem fp_11_8 : FP 8 TX11 14 .int := ⟨tyX11, tyX11_ok, nmX11, tyX11_ok 8 (by decide)⟩
theorem fg_11_9 : FG 11 9 0 RX11 TX11 14 := ⟨rfl, inX11, by decide, by decide, rfl⟩
theorem fp_11_9 : FP 9 TX11 14 .int := ⟨tyX11, tyX11_ok, nmX11, tyX11_ok 9 (by decide)⟩
theorem fg_11_10 : FG 11 10 0 RX11 TX11 14 := ⟨rfl, inX11, by decide, by decide, rfl⟩
theorem fp_11_10 : FP 10 TX11 14 .int := ⟨tyX11, tyX11_ok, nmX11, tyX11_ok 10 (by decide)⟩
theorem fg_11_11 : FG 11 11 0 RX11 TX11 14 := ⟨rfl, inX11, by decide, by decide, rfl⟩
theorem fp_11_11 : FP 11 TX11 14 .int := ⟨tyX11, tyX11_ok, nmX11, tyX11_ok 11 (by decide)⟩
theorem fg_11_12 : FG 11 12 0 RX11 TX11 14 := ⟨rfl, inX11, by decide, by decide, rfl⟩
theorem fp_11_12 : FP 12 TX11 14 .int := ⟨tyX11, tyX11_ok, nmX11, tyX11_ok 12 (by decide)⟩
theorem fg_11_13 : FG 11 13 0 RX11 TX11 14 := ⟨rfl, inX11, by decide, by decide, rfl⟩
theorem fp_11_13 : FP 13 TX11 14 .int := ⟨tyX11, tyX11_ok, nmX11, tyX11_ok 13 (by decide)⟩
theorem fg_12_0 : FG 12 0 0 RX12 TX12 70 := ⟨rfl, inX12, by decide, by decide, rfl⟩
theorem fp_12_0 : FP 0 TX12 70 .int := ⟨tyX12, tyX12_ok, nmX12, tyX12_ok 0 (by decide)⟩
theorem fg_12_1 : FG 12 1 0 RX12 TX12 70 := ⟨rfl, inX12, by decide, by decide, rfl⟩
theorem fp_12_1 : FP 1 TX12 70 .int := ⟨tyX12, tyX12_ok, nmX12, tyX12_ok 1 (by decide)⟩
theorem fg_12_2 : FG 12 2 2 RX12 TX12 70 := ⟨rfl, inX12, by decide, by decide, rfl⟩
theorem fp_12_2 : FP 2 TX12 70 (.array .int) := ⟨tyX12, tyX12_ok, nmX12, tyX12_ok 2 (by decide)⟩
theorem fg_12_3 : FG 12 3 2 RX12 TX12 70 := ⟨rfl, inX12, by decide, by decide, rfl⟩
theorem fp_12_3 : FP 3 TX12 70 (.array .int) := ⟨tyX12, tyX12_ok, nmX12, tyX12_ok 3 (by decide)⟩
theorem fg_12_4 : FG 12 4 2 RX12 TX12 70 := ⟨rfl, inX12, by decide, by decide, rfl⟩
theorem fp_12_4 : FP 4 TX12 70 (.array .int) := ⟨tyX12, tyX12_ok, nmX12, tyX12_ok 4 (by decide)⟩
theorem fg_12_5 : FG 12 5 2 RX12 TX12 70 := ⟨rfl, inX12, by decide, by decide, rfl⟩
theorem fp_12_5 : FP 5 TX12 70 (.array .int) := ⟨tyX12, tyX12_ok, nmX12, tyX12_ok 5 (by decide)⟩
theorem fg_12_6 : FG 12 6 2 RX12 TX12 70 := ⟨rfl, inX12, by decide, by decide, rfl⟩
theorem fp_12_6 : FP 6 TX12 70 (.array .int) := ⟨tyX12, tyX12_ok, nmX12, tyX12_ok 6 (by decide)⟩
theorem fg_12_7 : FG 12 7 2 RX12 TX12 70 := ⟨rfl, inX12, by decide, by decide, rfl⟩
theorem fp_12_7 : FP 7 TX12 70 (.array .int) := ⟨tyX12, tyX12_ok, nmX12, tyX12_ok 7 (by decide)⟩
theorem fg_12_8 : FG 12 8 2 RX12 TX12 70 := ⟨rfl, inX12, by decide, by decide, rfl⟩
theorem fp_12_8 : FP 8 TX12 70 (.array .int) := ⟨tyX12, tyX12_ok, nmX12, tyX12_ok 8 (by decide)⟩
theorem fg_12_9 : FG 12 9 2 RX12 TX12 70 := ⟨rfl, inX12, by decide, by decide, rfl⟩
theorem fp_12_9 : FP 9 TX12 70 (.array .int) := ⟨tyX12, tyX12_ok, nmX12, tyX12_ok 9 (by decide)⟩
theorem fg_12_10 : FG 12 10 2 RX12 TX12 70 := ⟨rfl, inX12, by decide, by decide, rfl⟩
theorem fp_12_10 : FP 10 TX12 70 (.array .int) := ⟨tyX12, tyX12_ok, nmX12, tyX12_ok 10 (by decide)⟩
theorem fg_12_11 : FG 12 11 2 RX12 TX12 70 := ⟨rfl, inX12, by decide, by decide, rfl⟩
theorem fp_12_11 : FP 11 TX12 70 (.array .long) := ⟨tyX12, tyX12_ok, nmX12, tyX12_ok 11 (by decide)⟩
theorem fg_12_12 : FG 12 12 2 RX12 TX12 70 := ⟨rfl, inX12, by decide, by decide, rfl⟩
theorem fp_12_12 : FP 12 TX12 70 (.array .long) := ⟨tyX12, tyX12_ok, nmX12, tyX12_ok 12 (by decide)⟩
theorem fg_12_13 : FG 12 13 2 RX12 TX12 70 := ⟨rfl, inX12, by decide, by decide, rfl⟩
theorem fp_12_13 : FP 13 TX12 70 (.array .int) := ⟨tyX12, tyX12_ok, nmX12, tyX12_ok 13 (by decide)⟩
theorem fg_12_14 : FG 12 14 2 RX12 TX12 70 := ⟨rfl, inX12, by decide, by decide, rfl⟩
theorem fp_12_14 : FP 14 TX12 70 (.array .int) := ⟨tyX12, tyX12_ok, nmX12, tyX12_ok 14 (by decide)⟩
theorem fg_12_15 : FG 12 15 2 RX12 TX12 70 := ⟨rfl, inX12, by decide, by decide, rfl⟩
theorem fp_12_15 : FP 15 TX12 70 (.array .int) := ⟨tyX12, tyX12_ok, nmX12, tyX12_ok 15 (by decide)⟩
theorem fg_12_16 : FG 12 16 2 RX12 TX12 70 := ⟨rfl, inX12, by decide, by decide, rfl⟩
theorem fp_12_16 : FP 16 TX12 70 (.array .int) := ⟨tyX12, tyX12_ok, nmX12, tyX12_ok 16 (by decide)⟩
theorem fg_12_17 : FG 12 17 0 RX12 TX12 70 := ⟨rfl, inX12, by decide, by decide, rfl⟩
theorem fp_12_17 : FP 17 TX12 70 .boolean := ⟨tyX12, tyX12_ok, nmX12, tyX12_ok 17 (by decide)⟩
theorem fg_12_18 : FG 12 18 2 RX12 TX12 70 := ⟨rfl, inX12, by decide, by decide, rfl⟩
theorem fp_12_18 : FP 18 TX12 70 (.array .int) := ⟨tyX12, tyX12_ok, nmX12, tyX12_ok 18 (by decide)⟩
theorem fg_12_19 : FG 12 19 2 RX12 TX12 70 := ⟨rfl, inX12, by decide, by decide, rfl⟩
theorem fp_12_19 : FP 19 TX12 70 (.array .int) := ⟨tyX12, tyX12_ok, nmX12, tyX12_ok 19 (by decide)⟩
theorem fg_12_20 : FG 12 20 2 RX12 TX12 70 := ⟨rfl, inX12, by decide, by decide, rfl⟩
theorem fp_12_20 : FP 20 TX12 70 (.array .long) := ⟨tyX12, tyX12_ok, nmX12, tyX12_ok 20 (by decide)⟩
theorem fg_12_21 : FG 12 21 0 RX12 TX12 70 := ⟨rfl, inX12, by decide, by decide, rfl⟩
theorem fp_12_21 : FP 21 TX12 70 .int := ⟨tyX12, tyX12_ok, nmX12, tyX12_ok 21 (by decide)⟩
theorem fg_12_22 : FG 12 22 0 RX12 TX12 70 := ⟨rfl, inX12, by decide, by decide, rfl⟩
theorem fp_12_22 : FP 22 TX12 70 .int := ⟨tyX12, tyX12_ok, nmX12, tyX12_ok 22 (by decide)⟩
theorem fg_12_23 : FG 12 23 0 RX12 TX12 70 := ⟨rfl, inX12, by decide, by decide, rfl⟩
theorem fp_12_23 : FP 23 TX12 70 .int := ⟨tyX12, tyX12_ok, nmX12, tyX12_ok 23 (by decide)⟩
theorem fg_12_24 : FG 12 24 2 RX12 TX12 70 := ⟨rfl, inX12, by decide, by decide, rfl⟩
theorem fp_12_24 : FP 24 TX12 70 (.array .int) := ⟨tyX12, tyX12_ok, nmX12, tyX12_ok 24 (by decide)⟩
theorem fg_12_25 : FG 12 25 2 RX12 TX12 70 := ⟨rfl, inX12, by decide, by decide, rfl⟩
theorem fp_12_25 : FP 25 TX12 70 (.array .int) := ⟨tyX12, tyX12_ok, nmX12, tyX12_ok 25 (by decide)⟩
theorem fg_12_26 : FG 12 26 2 RX12 TX12 70 := ⟨rfl, inX12, by decide, by decide, rfl⟩
theorem fp_12_26 : FP 26 TX12 70 (.array .int) := ⟨tyX12, tyX12_ok, nmX12, tyX12_ok 26 (by decide)⟩
theorem fg_12_27 : FG 12 27 2 RX12 TX12 70 := ⟨rfl, inX12, by decide, by decide, rfl⟩
theorem fp_12_27 : FP 27 TX12 70 (.array .int) := ⟨tyX12, tyX12_ok, nmX12, tyX12_ok 27 (by decide)⟩
theorem fg_12_28 : FG 12 28 2 RX12 TX12 70 := ⟨rfl, inX12, by decide, by decide, rfl⟩
theorem fp_12_28 : FP 28 TX12 70 (.array .int) := ⟨tyX12, tyX12_ok, nmX12, tyX12_ok 28 (by decide)⟩
theorem fg_12_29 : FG 12 29 0 RX12 TX12 70 := ⟨rfl, inX12, by decide, by decide, rfl⟩
theorem fp_12_29 : FP 29 TX12 70 .int := ⟨tyX12, tyX12_ok, nmX12, tyX12_ok 29 (by decide)⟩
theorem fg_12_30 : FG 12 30 0 RX12 TX12 70 := ⟨rfl, inX12, by decide, by decide, rfl⟩
theorem fp_12_30 : FP 30 TX12 70 .int := ⟨tyX12, tyX12_ok, nmX12, tyX12_ok 30 (by decide)⟩
theorem fg_12_31 : FG 12 31 2 RX12 TX12 70 := ⟨rfl, inX12, by decide, by decide, rfl⟩
theorem fp_12_31 : FP 31 TX12 70 (.array .int) := ⟨tyX12, tyX12_ok, nmX12, tyX12_ok 31 (by decide)⟩
theorem fg_12_32 : FG 12 32 0 RX12 TX12 70 := ⟨rfl, inX12, by decide, by decide, rfl⟩
theorem fp_12_32 : FP 32 TX12 70 .int := ⟨tyX12, tyX12_ok, nmX12, tyX12_ok 32 (by decide)⟩
theorem fg_12_33 : FG 12 33 2 RX12 TX12 70 := ⟨rfl, inX12, by decide, by decide, rfl⟩
theorem fp_12_33 : FP 33 TX12 70 (.array .int) := ⟨tyX12, tyX12_ok, nmX12, tyX12_ok 33 (by decide)⟩
theorem fg_12_34 : FG 12 34 2 RX12 TX12 70 := ⟨rfl, inX12, by decide, by decide, rfl⟩
theorem fp_12_34 : FP 34 TX12 70 (.array .int) := ⟨tyX12, tyX12_ok, nmX12, tyX12_ok 34 (by decide)⟩
theorem fg_12_35 : FG 12 35 2 RX12 TX12 70 := ⟨rfl, inX12, by decide, by decide, rfl⟩
theorem fp_12_35 : FP 35 TX12 70 (.array .int) := ⟨tyX12, tyX12_ok, nmX12, tyX12_ok 35 (by decide)⟩
theorem fg_12_36 : FG 12 36 0 RX12 TX12 70 := ⟨rfl, inX12, by decide, by decide, rfl⟩
theorem fp_12_36 : FP 36 TX12 70 .int := ⟨tyX12, tyX12_ok, nmX12, tyX12_ok 36 (by decide)⟩
theorem fg_12_37 : FG 12 37 0 RX12 TX12 70 := ⟨rfl, inX12, by decide, by decide, rfl⟩
theorem fp_12_37 : FP 37 TX12 70 .int := ⟨tyX12, tyX12_ok, nmX12, tyX12_ok 37 (by decide)⟩
theorem fg_12_38 : FG 12 38 0 RX12 TX12 70 := ⟨rfl, inX12, by decide, by decide, rfl⟩
theorem fp_12_38 : FP 38 TX12 70 .int := ⟨tyX12, tyX12_ok, nmX12, tyX12_ok 38 (by decide)⟩
theorem fg_12_39 : FG 12 39 0 RX12 TX12 70 := ⟨rfl, inX12, by decide, by decide, rfl⟩
theorem fp_12_39 : FP 39 TX12 70 .int := ⟨tyX12, tyX12_ok, nmX12, tyX12_ok 39 (by decide)⟩
theorem fg_12_40 : FG 12 40 0 RX12 TX12 70 := ⟨rfl, inX12, by decide, by decide, rfl⟩
theorem fp_12_40 : FP 40 TX12 70 .int := ⟨tyX12, tyX12_ok, nmX12, tyX12_ok 40 (by decide)⟩
theorem fg_12_41 : FG 12 41 0 RX12 TX12 70 := ⟨rfl, inX12, by decide, by decide, rfl⟩
theorem fp_12_41 : FP 41 TX12 70 .int := ⟨tyX12, tyX12_ok, nmX12, tyX12_ok 41 (by decide)⟩
theorem fg_12_42 : FG 12 42 0 RX12 TX12 70 := ⟨rfl, inX12, by decide, by decide, rfl⟩
theorem fp_12_42 : FP 42 TX12 70 .int := ⟨tyX12, tyX12_ok, nmX12, tyX12_ok 42 (by decide)⟩
theorem fg_12_43 : FG 12 43 0 RX12 TX12 70 := ⟨rfl, inX12, by decide, by decide, rfl⟩
theorem fp_12_43 : FP 43 TX12 70 .int := ⟨tyX12, tyX12_ok, nmX12, tyX12_ok 43 (by decide)⟩
theorem fg_12_44 : FG 12 44 0 RX12 TX12 70 := ⟨rfl, inX12, by decide, by decide, rfl⟩
theorem fp_12_44 : FP 44 TX12 70 .int := ⟨tyX12, tyX12_ok, nmX12, tyX12_ok 44 (by decide)⟩
theorem fg_12_45 : FG 12 45 1 RX12 TX12 70 := ⟨rfl, inX12, by decide, by decide, rfl⟩
theorem fp_12_45 : FP 45 TX12 70 .long := ⟨tyX12, tyX12_ok, nmX12, tyX12_ok 45 (by decide)⟩
theorem fg_12_46 : FG 12 46 1 RX12 TX12 70 := ⟨rfl, inX12, by decide, by decide, rfl⟩
theorem fp_12_46 : FP 46 TX12 70 .long := ⟨tyX12, tyX12_ok, nmX12, tyX12_ok 46 (by decide)⟩
theorem fg_12_47 : FG 12 47 0 RX12 TX12 70 := ⟨rfl, inX12, by decide, by decide, rfl⟩
theorem fp_12_47 : FP 47 TX12 70 .int := ⟨tyX12, tyX12_ok, nmX12, tyX12_ok 47 (by decide)⟩
theorem fg_12_48 : FG 12 48 0 RX12 TX12 70 := ⟨rfl, inX12, by decide, by decide, rfl⟩
theorem fp_12_48 : FP 48 TX12 70 .int := ⟨tyX12, tyX12_ok, nmX12, tyX12_ok 48 (by decide)⟩
theorem fg_12_49 : FG 12 49 0 RX12 TX12 70 := ⟨rfl, inX12, by decide, by decide, rfl⟩
theorem fp_12_49 : FP 49 TX12 70 .int := ⟨tyX12, tyX12_ok, nmX12, tyX12_ok 49 (by decide)⟩
theorem fg_12_50 : FG 12 50 0 RX12 TX12 70 := ⟨rfl, inX12, by decide, by decide, rfl⟩
theorem fp_12_50 : FP 50 TX12 70 .int := ⟨tyX12, tyX12_ok, nmX12, tyX12_ok 50 (by decide)⟩
theorem fg_12_51 : FG 12 51 2 RX12 TX12 70 := ⟨rfl, inX12, by decide, by decide, rfl⟩
theorem fp_12_51 : FP 51 TX12 70 (.array .int) := ⟨tyX12, tyX12_ok, nmX12, tyX12_ok 51 (by decide)⟩
theorem fg_12_52 : FG 12 52 0 RX12 TX12 70 := ⟨rfl, inX12, by decide, by decide, rfl⟩
theorem fp_12_52 : FP 52 TX12 70 .boolean := ⟨tyX12, tyX12_ok, nmX12, tyX12_ok 52 (by decide)⟩
theorem fg_12_53 : FG 12 53 0 RX12 TX12 70 := ⟨rfl, inX12, by decide, by decide, rfl⟩
theorem fp_12_53 : FP 53 TX12 70 .int := ⟨tyX12, tyX12_ok, nmX12, tyX12_ok 53 (by decide)⟩
theorem fg_12_54 : FG 12 54 0 RX12 TX12 70 := ⟨rfl, inX12, by decide, by decide, rfl⟩
theorem fp_12_54 : FP 54 TX12 70 .int := ⟨tyX12, tyX12_ok, nmX12, tyX12_ok 54 (by decide)⟩
theorem fg_12_55 : FG 12 55 0 RX12 TX12 70 := ⟨rfl, inX12, by decide, by decide, rfl⟩
theorem fp_12_55 : FP 55 TX12 70 .int := ⟨tyX12, tyX12_ok, nmX12, tyX12_ok 55 (by decide)⟩
theorem fg_12_56 : FG 12 56 0 RX12 TX12 70 := ⟨rfl, inX12, by decide, by decide, rfl⟩
theorem fp_12_56 : FP 56 TX12 70 .int := ⟨tyX12, tyX12_ok, nmX12, tyX12_ok 56 (by decide)⟩
theorem fg_12_57 : FG 12 57 0 RX12 TX12 70 := ⟨rfl, inX12, by decide, by decide, rfl⟩
theorem fp_12_57 : FP 57 TX12 70 .int := ⟨tyX12, tyX12_ok, nmX12, tyX12_ok 57 (by decide)⟩
theorem fg_12_58 : FG 12 58 0 RX12 TX12 70 := ⟨rfl, inX12, by decide, by decide, rfl⟩
theorem fp_12_58 : FP 58 TX12 70 .int := ⟨tyX12, tyX12_ok, nmX12, tyX12_ok 58 (by decide)⟩
theorem fg_12_59 : FG 12 59 2 RX12 TX12 70 := ⟨rfl, inX12, by decide, by decide, rfl⟩
theorem fp_12_59 : FP 59 TX12 70 (.array .int) := ⟨tyX12, tyX12_ok, nmX12, tyX12_ok 59 (by decide)⟩
theorem fg_12_60 : FG 12 60 2 RX12 TX12 70 := ⟨rfl, inX12, by decide, by decide, rfl⟩
theorem fp_12_60 : FP 60 TX12 70 (.array .int) := ⟨tyX12, tyX12_ok, nmX12, tyX12_ok 60 (by decide)⟩
theorem fg_12_61 : FG 12 61 2 RX12 TX12 70 := ⟨rfl, inX12, by decide, by decide, rfl⟩
theorem fp_12_61 : FP 61 TX12 70 (.array .long) := ⟨tyX12, tyX12_ok, nmX12, tyX12_ok 61 (by decide)⟩
theorem fg_12_62 : FG 12 62 2 RX12 TX12 70 := ⟨rfl, inX12, by decide, by decide, rfl⟩
theorem fp_12_62 : FP 62 TX12 70 (.array .boolean) := ⟨tyX12, tyX12_ok, nmX12, tyX12_ok 62 (by decide)⟩
theorem fg_12_63 : FG 12 63 2 RX12 TX12 70 := ⟨rfl, inX12, by decide, by decide, rfl⟩
theorem fp_12_63 : FP 63 TX12 70 (.array .int) := ⟨tyX12, tyX12_ok, nmX12, tyX12_ok 63 (by decide)⟩
theorem fg_12_64 : FG 12 64 2 RX12 TX12 70 := ⟨rfl, inX12, by decide, by decide, rfl⟩
theorem fp_12_64 : FP 64 TX12 70 (.array .int) := ⟨tyX12, tyX12_ok, nmX12, tyX12_ok 64 (by decide)⟩
theorem fg_12_65 : FG 12 65 2 RX12 TX12 70 := ⟨rfl, inX12, by decide, by decide, rfl⟩
theorem fp_12_65 : FP 65 TX12 70 (.array .long) := ⟨tyX12, tyX12_ok, nmX12, tyX12_ok 65 (by decide)⟩
theorem fg_12_66 : FG 12 66 2 RX12 TX12 70 := ⟨rfl, inX12, by decide, by decide, rfl⟩
theorem fp_12_66 : FP 66 TX12 70 (.array .int) := ⟨tyX12, tyX12_ok, nmX12, tyX12_ok 66 (by decide)⟩
theorem fg_12_67 : FG 12 67 0 RX12 TX12 70 := ⟨rfl, inX12, by decide, by decide, rfl⟩
theorem fp_12_67 : FP 67 TX12 70 .int := ⟨tyX12, tyX12_ok, nmX12, tyX12_ok 67 (by decide)⟩
theorem fg_12_68 : FG 12 68 1 RX12 TX12 70 := ⟨rfl, inX12, by decide, by decide, rfl⟩
theorem fp_12_68 : FP 68 TX12 70 .long := ⟨tyX12, tyX12_ok, nmX12, tyX12_ok 68 (by decide)⟩
theorem fg_12_69 : FG 12 69 2 RX12 TX12 70 := ⟨rfl, inX12, by decide, by decide, rfl⟩
theorem fp_12_69 : FP 69 TX12 70 (.array .boolean) := ⟨tyX12, tyX12_ok, nmX12, tyX12_ok 69 (by decide)⟩
