/-! ===== BEGIN new T[n][m]: the outer array a place, the inner ones among the pooled ===== -/
/-- f, but v at every address of l -/
def vr_up {α : Type} (f : Nat → α) (l : List Nat) (v : α) : Nat → α := fun a => if a ∈ l then v else f a
theorem vr_up_in {α : Type} {f : Nat → α} {l : List Nat} {v : α} {a : Nat} (h : a ∈ l) : vr_up f l v a = v := if_pos h
theorem vr_up_ne {α : Type} {f : Nat → α} {l : List Nat} {v : α} {a : Nat} (h : a ∉ l) : vr_up f l v a = f a := if_neg h
theorem vr_rows {L l : List Nat} {f : Nat → va_E} {e : va_E} (h : ∀ a, a ∈ l → a ∉ L) : va_pl L f ++ l.map (fun a => (a, e)) = va_pl (L ++ l) (vr_up f l e) := by
  unfold va_pl
  rw [List.map_append]
  congr 1
  · apply List.map_congr_left
    intro a ha
    rw [vr_up_ne (fun q => h a q ha)]
  · apply List.map_congr_left
    intro a ha
    rw [vr_up_in ha]
theorem vr_lay {X rows : va_W} {x : Nat × va_E} {pl : va_W} {D : va_G} {cl : List vw_C} {H : Heap} (hP : va_P D cl (((X ++ pl) ++ [x]) ++ rows) H) : va_P D cl ((X ++ [x]) ++ (pl ++ rows)) H := by
  rw [List.append_assoc (X ++ pl)] at hP
  have h := va_P.swap hP
  rw [← List.append_assoc X] at h
  have h2 := va_P.swap h
  rw [List.append_assoc (X ++ [x])] at h2
  exact h2
theorem vr_layD {X rows : va_W} {x : Nat × va_E} {pl : va_W} {A : Nat → Prop} (hD : va_D A (((X ++ pl) ++ [x]) ++ rows)) : va_D A ((X ++ [x]) ++ (pl ++ rows)) := by
  rw [List.append_assoc (X ++ pl)] at hD
  have h := va_D.swap hD
  rw [← List.append_assoc X] at h
  have h2 := va_D.swap h
  rw [List.append_assoc (X ++ [x])] at h2
  exact h2
theorem vr_outer (c : ClassId) (N h0 : Nat) : ∀ i : Nat, Jvm.Free.Multi.outerC c N h0 i = arrV c N (fun j => va_rf (if j < i then some (h0 + 1 + j) else none))
  | 0 => by
    show ({ cls := c, slots := Array.replicate N .null, vm := .none } : Cell) = _
    rw [arrV_new]
    refine congrArg (arrV c N) (funext fun j => ?_)
    simp [va_rf]
  | i + 1 => by
    show (Jvm.Free.Multi.outerC c N h0 i).setSlot i (.ref (h0 + 1 + i)) = _
    rw [vr_outer c N h0 i, arrV_store]
    refine congrArg (arrV c N) (funext fun j => ?_)
    by_cases e : j = i
    · subst e
      simp [updV, va_rf]
    · by_cases h : j < i
      · simp [updV, e, h, Nat.lt_succ_of_lt h]
      · simp [updV, e, h, show ¬ j < i + 1 by omega]
section VGM
variable {p : Program} {l : Launch} {e : Env} {R : Room} {s : State} {m : MethodId} {args : Array Value} {below : List Frame} {meth : Method} {c : Code} {H : Heap} {locs : List Loc} {cells slots : Nat} {Q : State → Prop}
variable {cc : ByteArray} {pc : Nat} {ls : Array Slot} {rest : List Value} {D : va_G} {cl : List vw_C} {A : Nat → Prop} {a : Nat} {tys : List (ClassId × FieldType)} {ws : va_W} {H0 : Heap}
theorem va_mna {X : va_W} {L : List Nat} {f : Nat → va_E} {cc : ByteArray} (hexec : p.tables.exec = Jvm.exec) (hb : c.code = cc) {own : String} {index : Nat} {ty : FieldType} {cy : ClassId} (hown : s.vm.findClass own = some m.cls) (hclink : (Cond.classLink own index ("[" ++ (FieldType.array ty).toString)).before args s = true) (hover : va_AOA ty s) (harr : (Cond.arrayClass ty).before args s = true) (hcy : s.vm.findClass (FieldType.array ty).toString = some cy)
    (hK : va_K D cl tys s) (hP : va_P D cl (X ++ va_pl L f) H) (hD : va_D A (X ++ va_pl L f)) (hS : va_S A H0 H locs) (hA : ∀ q, H0.size ≤ q → A q) {n k : Int32} {N' K' : Nat} {z : vp_A} (hn : ¬ n < 0) (hk : ¬ k < 0) (hN : n.toNatClampNeg = N') (hM : k.toNatClampNeg = K')
    (hb1 : N' * 4 ≤ 536870912) (hb2 : K' * componentBytes ty ≤ 536870912) (hb3 : K' ≤ 536870912) (hdf : fits ty (defaultValue ty) = true) (hdd : (defaultValue ty).isDefault = true) (hcells : cells + (1 + N') ≤ R.cells) (hslots : slots + (N' + N' * K') ≤ R.slots) (hz : ∀ c : ClassId, Jvm.Free.Multi.innerC c K' (defaultValue ty) = vp_cell c z) (hdg : decode cc pc = .ok (.multianewarray index 2, 4))
    (kk : ∀ (q : Nat) (r : Nat → Nat) (cA : ClassId) (H1 : Heap), (∀ i j : Nat, i < N' → j < N' → r i = r j → i = j) → (∀ i : Nat, i < N' → r i ∉ L) → va_K D cl (tys ++ [(cA, .array ty)]) s →
      va_P D cl ((X ++ [(q, .inl (cA, N', .inr (.inr (.inr (.inr (fun i => if i < N' then some (r i) else none))))))]) ++ va_pl (L ++ (List.range N').map r) (vr_up f ((List.range N').map r) (.inl (cy, z)))) H1 → va_D A ((X ++ [(q, .inl (cA, N', .inr (.inr (.inr (.inr (fun i => if i < N' then some (r i) else none))))))]) ++ va_pl (L ++ (List.range N').map r) (vr_up f ((List.range N').map r) (.inl (cy, z)))) → va_S A H0 H1 locs →
      W p l e R s m args below meth c H1 locs (cells + 1 + N') (slots + N' + N' * K') Q (F0 m (pc + 4) ls (.ref q :: rest))) : W p l e R s m args below meth c H locs cells slots Q (F0 m pc ls (.int k :: .int n :: rest)) := by
  subst hN
  subst hM
  intro T hT Xs
  obtain ⟨vm₁, cA, comp, -, fA, fC, hO, -, X', step⟩ := Xs.multianewarray2F hexec hown hclink (va_AOA.use hover) harr (g := F0 m pc ls (.int k :: .int n :: rest)) rfl (by rw [hb]; exact hdg) rfl hn hk hb1 hb2 hb3 hdf hdd hcells hslots
  have ec : some cy = some comp := hcy.symm.trans fC
  cases ec
  generalize hF : Jvm.Free.Multi.fill (T.setVm vm₁) cA cy n.toNatClampNeg k.toNatClampNeg (defaultValue ty) n.toNatClampNeg = F at X' step
  have hTh : (T.setVm vm₁).heap = H := hT
  obtain ⟨f1, f2, -, -⟩ := Jvm.Free.Multi.fill_facts (T.setVm vm₁) cA cy n.toNatClampNeg k.toNatClampNeg (defaultValue ty) n.toNatClampNeg
  rw [hF, hTh] at f1 f2
  have hold : ∀ x : Nat, x < H.size → F.heap[x]? = H[x]? := fun x hx => by
    have := Jvm.Free.Multi.fill_old (T.setVm vm₁) cA cy n.toNatClampNeg k.toNatClampNeg (defaultValue ty) (a := x) (by rw [hTh]; exact hx) n.toNatClampNeg
    rw [hF, hTh] at this
    exact this
  have hrow : ∀ j : Nat, j < n.toNatClampNeg → F.heap[H.size + 1 + j]? = some (vp_cell cy z) := fun j hj => by
    have := Jvm.Free.Multi.fill_inner (T.setVm vm₁) cA cy n.toNatClampNeg k.toNatClampNeg (defaultValue ty) n.toNatClampNeg j hj
    rw [hF, hTh, hz] at this
    exact this
  have hout : Jvm.Free.Multi.outerC cA n.toNatClampNeg H.size n.toNatClampNeg = vp_cell cA (n.toNatClampNeg, .inr (.inr (.inr (.inr (fun i => if i < n.toNatClampNeg then some (H.size + 1 + i) else none))))) := by
    rw [vp_cell_q]
    exact vr_outer cA n.toNatClampNeg H.size n.toNatClampNeg
  rw [hout] at f2
  have hlt : ∀ a, a ∈ L → a < H.size := fun a ha => by
    obtain ⟨k9, hk9⟩ := va_pl_get (X := X) (f := f) ha
    exact (hP k9 _ hk9).lt
  have hnl : ∀ i : Nat, i < n.toNatClampNeg → H.size + 1 + i ∉ L := fun i _ h => by
    have := hlt _ h
    omega
  have hnm : ∀ a, a ∈ (List.range n.toNatClampNeg).map (fun i => H.size + 1 + i) → a ∉ L := fun a ha h => by
    obtain ⟨i, -, rfl⟩ := List.mem_map.mp ha
    have := hlt _ h
    omega
  have hP0 : va_P D cl (X ++ va_pl L f) F.heap := hP.kept (fun k9 x hx => hold x.1 ((hP k9 x hx).lt))
  have hP1 : va_P D cl ((X ++ va_pl L f) ++ [(H.size, .inl (cA, n.toNatClampNeg, .inr (.inr (.inr (.inr (fun i => if i < n.toNatClampNeg then some (H.size + 1 + i) else none))))))]) F.heap := hP0.app (fun k9 x hx => by
    have h0 : k9 < 1 := (List.getElem?_eq_some_iff.mp hx).1
    rw [show k9 = 0 by omega] at hx
    cases hx
    exact f2)
  have hP2 : va_P D cl (((X ++ va_pl L f) ++ [(H.size, .inl (cA, n.toNatClampNeg, .inr (.inr (.inr (.inr (fun i => if i < n.toNatClampNeg then some (H.size + 1 + i) else none))))))]) ++ ((List.range n.toNatClampNeg).map (fun i => H.size + 1 + i)).map (fun a => (a, .inl (cy, z)))) F.heap := hP1.app (fun k9 x hx => by
    obtain ⟨a, ha, rfl⟩ := List.mem_map.mp (List.mem_of_getElem? hx)
    obtain ⟨i, hi, rfl⟩ := List.mem_map.mp ha
    exact hrow i (List.mem_range.mp hi))
  have hD2 : va_D A (((X ++ va_pl L f) ++ [(H.size, .inl (cA, n.toNatClampNeg, .inr (.inr (.inr (.inr (fun i => if i < n.toNatClampNeg then some (H.size + 1 + i) else none))))))]) ++ ((List.range n.toNatClampNeg).map (fun i => H.size + 1 + i)).map (fun a => (a, .inl (cy, z)))) := by
    have hD1 := hD.push (e := .inl (cA, n.toNatClampNeg, .inr (.inr (.inr (.inr (fun i => if i < n.toNatClampNeg then some (H.size + 1 + i) else none)))))) hP rfl (hA _ hS.1)
    generalize hW1 : (X ++ va_pl L f) ++ [(H.size, .inl (cA, n.toNatClampNeg, .inr (.inr (.inr (.inr (fun i => if i < n.toNatClampNeg then some (H.size + 1 + i) else none))))))] = W1 at hD1 hP1 ⊢
    have hle : ∀ (k9 : Nat) (x : Nat × va_E), W1[k9]? = some x → x.1 ≤ H.size := fun k9 x hx => by
      rw [← hW1] at hx
      by_cases hl : k9 < (X ++ va_pl L f).length
      · rw [List.getElem?_append_left hl] at hx
        exact Nat.le_of_lt ((hP k9 x hx).lt)
      · rw [List.getElem?_append_right (by omega)] at hx
        have h0 : k9 - (X ++ va_pl L f).length < 1 := (List.getElem?_eq_some_iff.mp hx).1
        rw [show k9 - (X ++ va_pl L f).length = 0 by omega] at hx
        cases hx
        exact Nat.le_refl _
    have hr : ∀ (k9 : Nat) (x : Nat × va_E), (((List.range n.toNatClampNeg).map (fun i => H.size + 1 + i)).map (fun a => ((a, .inl (cy, z)) : Nat × va_E)))[k9]? = some x → x.1 = H.size + 1 + k9 := fun k9 x hx => by
      rw [List.getElem?_map, List.getElem?_map] at hx
      by_cases h9 : k9 < n.toNatClampNeg
      · rw [List.getElem?_range h9] at hx
        cases hx
        rfl
      · have hn0 : (List.range n.toNatClampNeg)[k9]? = none := List.getElem?_eq_none (by rw [List.length_range]; omega)
        rw [hn0] at hx
        cases hx
    refine ⟨fun i j x y hi hj hxy => ?_, fun k9 x hx => ?_⟩
    · by_cases h1 : i < W1.length <;> by_cases h2 : j < W1.length
      · rw [List.getElem?_append_left h1] at hi
        rw [List.getElem?_append_left h2] at hj
        exact hD1.1 i j x y hi hj hxy
      · rw [List.getElem?_append_left h1] at hi
        rw [List.getElem?_append_right (by omega)] at hj
        have := hle _ _ hi
        have := hr _ _ hj
        omega
      · rw [List.getElem?_append_right (by omega)] at hi
        rw [List.getElem?_append_left h2] at hj
        have := hle _ _ hj
        have := hr _ _ hi
        omega
      · rw [List.getElem?_append_right (by omega)] at hi hj
        have := hr _ _ hi
        have := hr _ _ hj
        omega
    · by_cases h1 : k9 < W1.length
      · rw [List.getElem?_append_left h1] at hx
        exact hD1.2 k9 x hx
      · rw [List.getElem?_append_right (by omega)] at hx
        have := hr _ _ hx
        exact hA _ (by have := hS.1; omega)
  have hAr : ArrOfT s cA (.array ty) := fun N9 z9 => by
    obtain ⟨-, k9, hk9, cm9, hkk9⟩ := (hO 0 0 0).1
    exact ⟨(fun q hq => by cases hq), k9, hk9, cm9, hkk9⟩
  have hK2 : va_K D cl (tys ++ [(cA, .array ty)]) s := ⟨hK.1, fun k9 x hx => by
    by_cases hl : k9 < tys.length
    · rw [List.getElem?_append_left hl] at hx
      exact hK.2 k9 x hx
    · rw [List.getElem?_append_right (by omega)] at hx
      have h0 : k9 - tys.length < 1 := (List.getElem?_eq_some_iff.mp hx).1
      rw [show k9 - tys.length = 0 by omega] at hx
      cases hx
      exact ⟨hAr, fA⟩⟩
  obtain ⟨t, a1, b1⟩ := kk H.size (fun i => H.size + 1 + i) cA F.heap (fun i j _ _ h => by have h9 : H.size + 1 + i = H.size + 1 + j := h; omega) hnl hK2 (by rw [← vr_rows hnm]; exact vr_lay hP2) (by rw [← vr_rows hnm]; exact vr_layD hD2) ⟨by rw [f1]; have := hS.1; omega, fun x h1 h2 => (hold x (Nat.lt_of_lt_of_le h1 hS.1)).trans (hS.2.1 x h1 h2), hS.2.2⟩ F rfl X'
  refine ⟨t, step t ?_, b1⟩
  have e : T.heap.size = H.size := by rw [hT]
  rw [e]
  exact a1
end VGM
/-! ===== END ===== -/


/-! ===== new int[n][k] over the walked heap ===== -/
def newG (h : IH) (n k q : Nat) (r : Nat → Nat) : IH := ((fun a => if a = q then 26 else if a ∈ (List.range n).map r then 20 else kd h a), q :: (ads h ++ (List.range n).map r), h.2.2.1, h.2.2.2.1, h.2.2.2.2.1, (fun a => if a = q then n else if a ∈ (List.range n).map r then k else ln h a), (fun x y => if x ∈ (List.range n).map r then 0 else rI h x y), h.2.2.2.2.2.2.2.1, (fun x y => if x = q then (if y < n then some (r y) else none) else rR h x y))
theorem ent_newG_q {cy : Nat → ClassId} {h : IH} {n k q : Nat} {r : Nat → Nat} : ent cy (newG h n k q r) q = .inl (cy 6, n, .inr (.inr (.inr (.inr (fun i => if i < n then some (r i) else none))))) := by
  have hk : kd (newG h n k q r) q = 20 + 6 := by
    show (if q = q then 26 else _) = _
    rw [if_pos rfl]
  rw [ent_R hk (by decide)]
  have h1 : ln (newG h n k q r) q = n := by
    show (if q = q then n else _) = _
    rw [if_pos rfl]
  have h2 : rR (newG h n k q r) q = fun i => if i < n then some (r i) else none := by
    funext y
    show (if q = q then (if y < n then some (r y) else none) else _) = _
    rw [if_pos rfl]
  rw [h1, h2]
theorem ent_newG_ne {cy : Nat → ClassId} {h : IH} {n k q a : Nat} {r : Nat → Nat} (e : a ≠ q) : ent cy (newG h n k q r) a = vr_up (ent cy h) ((List.range n).map r) (.inl (cy 0, k, .inl (fun _ => 0))) a := by
  by_cases hr : a ∈ (List.range n).map r
  · rw [vr_up_in hr]
    have hk : kd (newG h n k q r) a = 20 := by
      show (if a = q then 26 else if a ∈ (List.range n).map r then 20 else kd h a) = _
      rw [if_neg e, if_pos hr]
    rw [ent_I hk]
    have h1 : ln (newG h n k q r) a = k := by
      show (if a = q then n else if a ∈ (List.range n).map r then k else ln h a) = _
      rw [if_neg e, if_pos hr]
    have h2 : rI (newG h n k q r) a = fun _ => 0 := by
      funext y
      show (if a ∈ (List.range n).map r then 0 else rI h a y) = _
      rw [if_pos hr]
    rw [h1, h2]
  · rw [vr_up_ne hr]
    refine ent_congr (h := h) (h' := newG h n k q r) ?_ (fun c' k' t' => rfl) ?_ ?_ rfl ?_
    · show (if a = q then 26 else if a ∈ (List.range n).map r then 20 else kd h a) = _
      rw [if_neg e, if_neg hr]
    · show (if a = q then n else if a ∈ (List.range n).map r then k else ln h a) = _
      rw [if_neg e, if_neg hr]
    · funext y
      show (if a ∈ (List.range n).map r then 0 else rI h a y) = _
      rw [if_neg hr]
    · funext y
      show (if a = q then (if y < n then some (r y) else none) else rR h a y) = _
      rw [if_neg e]
section RW7
variable {p : Program} {l : Launch} {e : Env} {R : Room} {s : State} {m : MethodId} {args : Array Value} {below : List Frame} {meth : Method} {c : Code} {H : Heap} {locs : List Loc} {cells slots : Nat} {Q : State → Prop}
variable {pc : Nat} {ls : Array Slot} {rest st0 : List Value} {D : va_G} {cy : Nat → ClassId} {A : Nat → Prop} {H0 : Heap} {h h' : IH}
variable {y : MethodName} {b : ByteArray} {n : Nat} {r : Option FieldType} {index : Nat}
theorem ro_mna {nn kk0 : Int32} {N' K' : Nat} (F : Fx p s m args meth c D cy A H0 y b n r) (M : Mo D cy A H0 h H locs) (hcl : Cond.classLink y.cls index "[[I" ∈ gw) (hAO : va_AOA .int s) (harr : Cond.arrayClass .int ∈ gw) (hn0 : ¬ nn < 0) (hk0 : ¬ kk0 < 0) (hN : nn.toNatClampNeg = N') (hK0 : kk0.toNatClampNeg = K') (hb1 : N' * 4 ≤ 536870912) (hb2 : K' * 4 ≤ 536870912) (hc1 : cells + (1 + N') ≤ R.cells) (hs1 : slots + (N' + N' * K') ≤ R.slots) (hdg : decode b pc = .ok (.multianewarray index 2, 4))
    (kk : ∀ (q : Nat) (r : Nat → Nat) (H1 : Heap), kd h q = 0 → (∀ i, i < N' → kd h (r i) = 0 ∧ r i ≠ q) → (∀ i j, i < N' → j < N' → r i = r j → i = j) → Mo D cy A H0 (newG h N' K' q r) H1 locs → W p l e R s m args below meth c H1 locs (cells + 1 + N') (slots + N' + N' * K') Q (F0 m (pc + 4) ls (.ref q :: rest))) : W p l e R s m args below meth c H locs cells slots Q (F0 m pc ls (.int kk0 :: .int nn :: rest)) := by
  obtain ⟨hx, hb, -, hml, hown, -, hts, hK, hN1, hA, -⟩ := F
  have tw : ∀ w ∈ gw, w.before args s = true := fun w hw => hts w (List.mem_cons_of_mem _ hw)
  refine va_mna (X := []) (L := ads h) (f := ent cy h) (ty := .int) (cy := cy 0) (z := (K', .inl (fun _ => 0))) hx hb hown (tw _ hcl) hAO (tw _ harr) (hK.2 0 (cy 0, .int) rfl).2 hK M.1 M.2.1 M.2.2.1 hA hn0 hk0 hN hK0 hb1 hb2 (by omega) rfl rfl hc1 hs1 (fun c9 => ?_) hdg (fun q r cA H1 hinj hnl hK' hP hD hS => ?_)
  · show ({ cls := c9, slots := Array.replicate K' (Value.int 0), vm := .none } : Cell) = _
    rw [arrV_new]
    rfl
  have ec : cA = cy 6 := ra_inj (hK'.2 7 (cA, .array .int) rfl).2 (hK.2 6 (cy 6, .array .int) rfl).2
  subst ec
  have hne : ∀ a, a ∈ ads h ++ (List.range N').map r → a ≠ q := by
    intro a ha e9
    subst e9
    obtain ⟨k9, hk9⟩ := va_pl_get (X := []) (f := vr_up (ent cy h) ((List.range N').map r) (.inl (cy 0, K', .inl (fun _ => 0)))) ha
    rw [List.nil_append] at hk9
    have h0 := hD.1 0 (k9 + 1) _ _ rfl ((List.getElem?_cons_succ).trans hk9) rfl
    omega
  have hL : ([] ++ [(q, (.inl (cy 6, N', .inr (.inr (.inr (.inr (fun i => if i < N' then some (r i) else none))))) : va_E))]) ++ va_pl (ads h ++ (List.range N').map r) (vr_up (ent cy h) ((List.range N').map r) (.inl (cy 0, K', .inl (fun _ => 0)))) = va_pl (ads (newG h N' K' q r)) (ent cy (newG h N' K' q r)) := by
    show (q, _) :: va_pl _ _ = (q, ent cy (newG h N' K' q r) q) :: va_pl (ads h ++ (List.range N').map r) (ent cy (newG h N' K' q r))
    rw [ent_newG_q]
    congr 1
    apply List.map_congr_left
    intro a ha
    rw [ent_newG_ne (hne a ha)]
  rw [hL] at hP hD
  have hq0 : kd h q = 0 := Classical.byContradiction fun z => hne q (List.mem_append_left _ (M.2.2.2 q z)) rfl
  have hr0 : ∀ i, i < N' → kd h (r i) = 0 ∧ r i ≠ q := fun i hi => ⟨Classical.byContradiction fun z => hnl i hi (M.2.2.2 (r i) z), hne _ (List.mem_append_right _ (List.mem_map.mpr ⟨i, List.mem_range.mpr hi, rfl⟩))⟩
  refine kk q r H1 hq0 hr0 hinj ⟨hP, hD, hS, fun a ha => ?_⟩
  show a ∈ q :: (ads h ++ (List.range N').map r)
  have ha : (if a = q then 26 else if a ∈ (List.range N').map r then 20 else kd h a) ≠ 0 := ha
  by_cases e1 : a = q
  · rw [e1]
    exact List.mem_cons_self
  · rw [if_neg e1] at ha
    by_cases e2 : a ∈ (List.range N').map r
    · exact List.mem_cons_of_mem _ (List.mem_append_right _ e2)
    · rw [if_neg e2] at ha
      exact List.mem_cons_of_mem _ (List.mem_append_left _ (M.2.2.2 a ha))
end RW7

abbrev rm_X6_init : Room := { frames := 1, cells := 39, slots := 642, locals := 20 }
theorem mi_X6_init : MI yX6_init cX6_init 1 0 := ⟨t_243, t_242, rfl, t_9, ⟨by decide +kernel, by decide +kernel, by decide +kernel⟩⟩
def s_X6_initP (h : IH) (th : Nat) (P : IH → Prop) : Prop := ∀ (q1 : Nat) (r2 : Nat → Nat) (h3 : IH), kd h q1 = 0 → (∀ i, i < 16 → kd h (r2 i) = 0 ∧ r2 i ≠ q1) → (∀ i j, i < 16 → j < 16 → r2 i = r2 j → i = j) → h3 = newG h 16 16 q1 r2 → bP (pR h3 6 0 (some th) (some q1)) fun h4 => ∀ (q5 : Nat) (r6 : Nat → Nat) (h7 : IH), kd h4 q5 = 0 → (∀ i, i < 17 → kd h4 (r6 i) = 0 ∧ r6 i ≠ q5) → (∀ i j, i < 17 → j < 17 → r6 i = r6 j → i = j) → h7 = newG h4 17 17 q5 r6 → bP (pR h7 6 1 (some th) (some q5)) fun h8 => ∀ (q9 : Nat) (h10 : IH), kd h8 q9 = 0 → h10 = newA h8 0 16 q9 → bP (pR h10 6 2 (some th) (some q9)) fun h11 => ∀ (q12 : Nat) (h13 : IH), kd h11 q12 = 0 → h13 = newA h11 0 16 q12 → bP (pR h13 6 3 (some th) (some q12)) fun h14 => ∀ (q15 : Nat) (h16 : IH), kd h14 q15 = 0 → h16 = newA h14 2 16 q15 → bP (pR h16 6 6 (some th) (some q15)) fun h17 => ∀ (q18 : Nat) (h19 : IH), kd h17 q18 = 0 → h19 = newA h17 2 16 q18 → bP (pR h19 6 7 (some th) (some q18)) fun h20 => P h20
set_option maxHeartbeats 4000000 in
set_option maxRecDepth 100000 in
theorem cP_X6_init {l : Launch} {D : va_G} {cy : Nat → ClassId} {sz : Nat} {h : IH} {th : Nat} {P : IH → Prop} (hs : s_X6_initP h th P) : CtP l D cy yX6_init cX6_init 1 none rm_X6_init h sz [.ref th] (fun rv h9 => rv = none ∧ P h9) := by
  refine ct_startP (by decide +kernel) [(0, .ref th)] (Nat.le_of_ble_eq_true rfl) rfl ?_
  intro p e s m args below meth c A H0 ls F hin hAO hsz M hl
  obtain ⟨hx, hb, hr, hml, hown, hlk, hts, hK, hN, hA, hH⟩ := id F
  generalize s.heap = H at M ⊢
  generalize ([] : List Loc) = locs at M ⊢
  unfold s_X6_initP at hs
  refine lv_aload_n hx hb dX6_init_0 rfl (lv_at hl 0 rfl) ?_
  refine W.objInit hx hb hown (hts _ (List.mem_cons_of_mem _ t_244)) (hts _ (List.mem_cons_of_mem _ t_27)) (hts _ (List.mem_cons_of_mem _ t_28)) rfl (by rw [hml]; exact hl.1) rfl dX6_init_1 (Nat.le_of_ble_eq_true rfl) (Nat.le_of_ble_eq_true rfl) ?_
  refine W.eq (g2 := F0 m 4 ls []) rfl ?_
  refine lv_aload_n hx hb dX6_init_4 rfl (lv_at hl 0 rfl) ?_
  refine lv_bipush (v := 16) hx hb dX6_init_5 (by decide) ?_
  refine lv_bipush (v := 16) hx hb dX6_init_7 (by decide) ?_
  refine ro_mna (N' := 16) (K' := 16) F M t_245 hAO.2.2.2 t_59 (by decide) (by decide) (by decide) (by decide) (by decide) (by decide) (by decide) (by decide) dX6_init_9 (fun q1 r2 H k_q1 kr_q1 ki_q1 M => ?_)
  obtain ⟨h3, e_h3⟩ : ∃ z, z = newG h 16 16 q1 r2 := ⟨_, rfl⟩
  rw [← e_h3] at M
  have hs := hs q1 r2 h3 k_q1 kr_q1 ki_q1 e_h3
  obtain ⟨h4, g_h4, hs⟩ := bdP hs
  refine ro_pAF F (hin rfl) M fg_6_0 fp_6_0 rfl rfl t_247 g_h4 dX6_init_13 (fun H locs M => ?_)
  refine lv_aload_n hx hb dX6_init_16 rfl (lv_at hl 0 rfl) ?_
  refine lv_bipush (v := 17) hx hb dX6_init_17 (by decide) ?_
  refine lv_bipush (v := 17) hx hb dX6_init_19 (by decide) ?_
  refine ro_mna (N' := 17) (K' := 17) F M t_245 hAO.2.2.2 t_59 (by decide) (by decide) (by decide) (by decide) (by decide) (by decide) (by decide) (by decide) dX6_init_21 (fun q5 r6 H k_q5 kr_q5 ki_q5 M => ?_)
  obtain ⟨h7, e_h7⟩ : ∃ z, z = newG h4 17 17 q5 r6 := ⟨_, rfl⟩
  rw [← e_h7] at M
  have hs := hs q5 r6 h7 k_q5 kr_q5 ki_q5 e_h7
  obtain ⟨h8, g_h8, hs⟩ := bdP hs
  refine ro_pAF F (hin rfl) M fg_6_1 fp_6_1 rfl rfl t_248 g_h8 dX6_init_25 (fun H locs M => ?_)
  refine lv_aload_n hx hb dX6_init_28 rfl (lv_at hl 0 rfl) ?_
  refine lv_bipush (v := 16) hx hb dX6_init_29 (by decide) ?_
  refine ro_newI (N' := 16) F M t_59 (by decide) (by decide) (by decide) (by decide) (by decide) dX6_init_31 (fun q9 H k_q9 M => ?_)
  obtain ⟨h10, e_h10⟩ : ∃ z, z = newA h8 0 16 q9 := ⟨_, rfl⟩
  rw [← e_h10] at M
  have hs := hs q9 h10 k_q9 e_h10
  obtain ⟨h11, g_h11, hs⟩ := bdP hs
  refine ro_pAF F (hin rfl) M fg_6_2 fp_6_2 rfl rfl t_249 g_h11 dX6_init_33 (fun H locs M => ?_)
  refine lv_aload_n hx hb dX6_init_36 rfl (lv_at hl 0 rfl) ?_
  refine lv_bipush (v := 16) hx hb dX6_init_37 (by decide) ?_
  refine ro_newI (N' := 16) F M t_59 (by decide) (by decide) (by decide) (by decide) (by decide) dX6_init_39 (fun q12 H k_q12 M => ?_)
  obtain ⟨h13, e_h13⟩ : ∃ z, z = newA h11 0 16 q12 := ⟨_, rfl⟩
  rw [← e_h13] at M
  have hs := hs q12 h13 k_q12 e_h13
  obtain ⟨h14, g_h14, hs⟩ := bdP hs
  refine ro_pAF F (hin rfl) M fg_6_3 fp_6_3 rfl rfl t_250 g_h14 dX6_init_41 (fun H locs M => ?_)
  refine lv_aload_n hx hb dX6_init_44 rfl (lv_at hl 0 rfl) ?_
  refine lv_bipush (v := 16) hx hb dX6_init_45 (by decide) ?_
  refine ro_newZ (N' := 16) F M t_272 (by decide) (by decide) (by decide) (by decide) (by decide) dX6_init_47 (fun q15 H k_q15 M => ?_)
  obtain ⟨h16, e_h16⟩ : ∃ z, z = newA h14 2 16 q15 := ⟨_, rfl⟩
  rw [← e_h16] at M
  have hs := hs q15 h16 k_q15 e_h16
  obtain ⟨h17, g_h17, hs⟩ := bdP hs
  refine ro_pAF F (hin rfl) M fg_6_6 fp_6_6 rfl rfl t_253 g_h17 dX6_init_49 (fun H locs M => ?_)
  refine lv_aload_n hx hb dX6_init_52 rfl (lv_at hl 0 rfl) ?_
  refine lv_bipush (v := 16) hx hb dX6_init_53 (by decide) ?_
  refine ro_newZ (N' := 16) F M t_272 (by decide) (by decide) (by decide) (by decide) (by decide) dX6_init_55 (fun q18 H k_q18 M => ?_)
  obtain ⟨h19, e_h19⟩ : ∃ z, z = newA h17 2 16 q18 := ⟨_, rfl⟩
  rw [← e_h19] at M
  have hs := hs q18 h19 k_q18 e_h19
  obtain ⟨h20, g_h20, hs⟩ := bdP hs
  refine ro_pAF F (hin rfl) M fg_6_7 fp_6_7 rfl rfl t_254 g_h20 dX6_init_57 (fun H locs M => ?_)
  refine W.widen (k := 39) (n := 642) (by decide) (by decide) ?_
  exact re_vP F M ⟨rfl, hs⟩ dX6_init_60
abbrev rm_X0_init : Room := { frames := 2, cells := 43, slots := 2191, locals := 41 }
theorem mi_X0_init : MI yX0_init cX0_init 2 1 := ⟨t_237, t_236, rfl, t_8, ⟨by decide +kernel, by decide +kernel, by decide +kernel⟩⟩
def s_X0_initP (h : IH) (th : Nat) (a0 : Option Nat) (P : IH → Prop) : Prop := ∀ (q1 : Nat) (h2 : IH), kd h q1 = 0 → h2 = newO h 6 q1 → s_X6_initP h2 q1  (fun h3 => bP (pR h3 0 2 (some th) (some q1)) fun h4 => bP (pI h4 0 3 (some th) 60) fun h5 => bP (pR h5 0 0 (some th) a0) fun h6 => ∀ (q7 : Nat) (h8 : IH), kd h6 q7 = 0 → h8 = newO h6 1 q7 → s_X1_initP h8 q7 a0 (fun h9 => bP (pR h9 0 1 (some th) (some q7)) fun h10 => P h10))
set_option maxHeartbeats 4000000 in
set_option maxRecDepth 100000 in
theorem cP_X0_init {l : Launch} {D : va_G} {cy : Nat → ClassId} {sz : Nat} {h : IH} {th : Nat} {a0 : Option Nat} {P : IH → Prop} (hs : s_X0_initP h th a0 P) : CtP l D cy yX0_init cX0_init 2 none rm_X0_init h sz [.ref th, va_rf a0] (fun rv h9 => rv = none ∧ P h9) := by
  refine ct_startP (by decide +kernel) [(0, .ref th), (1, va_rf a0)] (by simp [lg_sl, cat_rf, cat_i, cat_j, cat_r]) (by simp [lv_args, cat_rf, cat_i, cat_j, cat_r]) ?_
  intro p e s m args below meth c A H0 ls F hin hAO hsz M hl
  obtain ⟨hx, hb, hr, hml, hown, hlk, hts, hK, hN, hA, hH⟩ := id F
  generalize s.heap = H at M ⊢
  generalize ([] : List Loc) = locs at M ⊢
  unfold s_X0_initP at hs
  refine lv_aload_n hx hb dX0_init_0 rfl (lv_at hl 0 rfl) ?_
  refine W.objInit hx hb hown (hts _ (List.mem_cons_of_mem _ t_238)) (hts _ (List.mem_cons_of_mem _ t_27)) (hts _ (List.mem_cons_of_mem _ t_28)) rfl (by rw [hml]; exact hl.1) rfl dX0_init_1 (Nat.le_of_ble_eq_true rfl) (Nat.le_of_ble_eq_true rfl) ?_
  refine W.eq (g2 := F0 m 4 ls []) rfl ?_
  refine lv_aload_n hx hb dX0_init_4 rfl (lv_at hl 0 rfl) ?_
  refine ro_new F M nf_6 t_239 (by decide) (by decide) dX0_init_5 (fun q1 H k_q1 M => ?_)
  obtain ⟨h2, e_h2⟩ : ∃ z, z = newO h 6 q1 := ⟨_, rfl⟩
  rw [← e_h2] at M
  have hs := hs q1 h2 k_q1 e_h2
  refine lv_dup hx hb dX0_init_8 rfl ?_
  refine ca_INP (bq := q1) (As := []) (rest := [.ref q1, .ref th]) F hAO M (cP_X6_init hs) mi_X6_init tN_241 rfl ⟨by decide, by decide⟩ ⟨(by decide), (by decide)⟩ hl.1 rfl (by simp [cat_rf, cat_i, cat_j, cat_r]) dX0_init_9 (fun rv h3 H locs hq M => ?_)
  obtain ⟨rfl, hs⟩ := hq
  refine W.eq (g2 := F0 m 12 ls [.ref q1, .ref th]) rfl ?_
  obtain ⟨h4, g_h4, hs⟩ := bdP hs
  refine ro_pRF F (hin rfl) M fg_0_2 fp_0_2 rfl rfl t_297 g_h4 dX0_init_12 (fun H locs M => ?_)
  refine lv_aload_n hx hb dX0_init_15 rfl (lv_at hl 0 rfl) ?_
  refine lv_bipush (v := 60) hx hb dX0_init_16 (by decide) ?_
  obtain ⟨h5, g_h5, hs⟩ := bdP hs
  refine ro_pI F M fg_0_3 fp_0_3 rfl t_298 g_h5 dX0_init_18 (fun H locs M => ?_)
  refine lv_aload_n hx hb dX0_init_21 rfl (lv_at hl 0 rfl) ?_
  refine lo_aload_n hx hb dX0_init_22 rfl (lv_at hl 1 rfl) ?_
  obtain ⟨h6, g_h6, hs⟩ := bdP hs
  refine ro_pRF F (hin rfl) M fg_0_0 fp_0_0 rfl rfl t_295 g_h6 dX0_init_23 (fun H locs M => ?_)
  refine lv_aload_n hx hb dX0_init_26 rfl (lv_at hl 0 rfl) ?_
  refine ro_new F M nf_1 t_273 (by decide) (by decide) dX0_init_27 (fun q7 H k_q7 M => ?_)
  obtain ⟨h8, e_h8⟩ : ∃ z, z = newO h6 1 q7 := ⟨_, rfl⟩
  rw [← e_h8] at M
  have hs := hs q7 h8 k_q7 e_h8
  refine lv_dup hx hb dX0_init_30 rfl ?_
  refine lo_aload_n hx hb dX0_init_31 rfl (lv_at hl 1 rfl) ?_
  refine ca_INP (bq := q7) (As := [va_rf a0]) (rest := [.ref q7, .ref th]) F hAO M (cP_X1_init hs) mi_X1_init tN_275 rfl ⟨by decide, by decide⟩ ⟨(by decide), (by decide)⟩ hl.1 rfl (by simp [cat_rf, cat_i, cat_j, cat_r]) dX0_init_32 (fun rv h9 H locs hq M => ?_)
  obtain ⟨rfl, hs⟩ := hq
  refine W.eq (g2 := F0 m 35 ls [.ref q7, .ref th]) rfl ?_
  obtain ⟨h10, g_h10, hs⟩ := bdP hs
  refine ro_pRF F (hin rfl) M fg_0_1 fp_0_1 rfl rfl t_296 g_h10 dX0_init_35 (fun H locs M => ?_)
  refine W.widen (k := 43) (n := 2191) (by decide) (by decide) ?_
  exact re_vP F M ⟨rfl, hs⟩ dX0_init_38
abbrev rm_X11_init : Room := { frames := 4, cells := 97, slots := 4816, locals := 82 }
theorem mi_X11_init : MI yX11_init cX11_init 1 0 := ⟨t_25, t_24, rfl, t_1, ⟨by decide +kernel, by decide +kernel, by decide +kernel⟩⟩
def s_X11_initP (N : Nat) (h : IH) (th : Nat) (P : IH → Prop) : Prop := ∀ (q1 : Nat) (h2 : IH), kd h q1 = 0 → h2 = newO h 10 q1 → s_X10_initP h2 q1  (fun h3 => bP (pR h3 11 0 (some th) (some q1)) fun h4 => ∀ (q5 : Nat) (h6 : IH), kd h4 q5 = 0 → h6 = newO h4 7 q5 → s_X7_initP h6 q5  (fun h7 => bP (pR h7 11 1 (some th) (some q5)) fun h8 => ∀ (q9 : Nat) (h10 : IH), kd h8 q9 = 0 → h10 = newO h8 5 q9 → bP (gR h10 11 0 (some th)) fun v11 => s_X5_initP N h10 q9 v11 (fun h12 => bP (pR h12 11 2 (some th) (some q9)) fun h13 => ∀ (q14 : Nat) (h15 : IH), kd h13 q14 = 0 → h15 = newO h13 3 q14 → s_X3_initP h15 q14  (fun h16 => bP (pR h16 11 3 (some th) (some q14)) fun h17 => ∀ (q18 : Nat) (h19 : IH), kd h17 q18 = 0 → h19 = newO h17 0 q18 → bP (gR h19 11 1 (some th)) fun v20 => s_X0_initP h19 q18 v20 (fun h21 => bP (pR h21 11 4 (some th) (some q18)) fun h22 => ∀ (q23 : Nat) (h24 : IH), kd h22 q23 = 0 → h24 = newO h22 8 q23 → bP (gR h24 11 1 (some th)) fun v25 => bP (gR h24 11 3 (some th)) fun v26 => s_X8_initP h24 q23 v25 v26 (fun h27 => bP (pR h27 11 5 (some th) (some q23)) fun h28 => ∀ (q29 : Nat) (r30 : Nat → Nat) (h31 : IH), kd h28 q29 = 0 → (∀ i, i < 20 → kd h28 (r30 i) = 0 ∧ r30 i ≠ q29) → (∀ i j, i < 20 → j < 20 → r30 i = r30 j → i = j) → h31 = newG h28 20 12 q29 r30 → bP (pR h31 11 6 (some th) (some q29)) fun h32 => ∀ (q33 : Nat) (h34 : IH), kd h32 q33 = 0 → h34 = newA h32 0 20 q33 → bP (pR h34 11 7 (some th) (some q33)) fun h35 => P h35))))))
set_option maxHeartbeats 4000000 in
set_option maxRecDepth 100000 in
theorem cP_X11_init {l : Launch} {D : va_G} {cy : Nat → ClassId} {sz N : Nat} {h : IH} {th : Nat} {P : IH → Prop} (hs : s_X11_initP N h th P) : CtP l D cy yX11_init cX11_init 1 none rm_X11_init h sz [.ref th] (fun rv h9 => rv = none ∧ P h9) := by
  refine ct_startP (by decide +kernel) [(0, .ref th)] (Nat.le_of_ble_eq_true rfl) rfl ?_
  intro p e s m args below meth c A H0 ls F hin hAO hsz M hl
  obtain ⟨hx, hb, hr, hml, hown, hlk, hts, hK, hN, hA, hH⟩ := id F
  generalize s.heap = H at M ⊢
  generalize ([] : List Loc) = locs at M ⊢
  unfold s_X11_initP at hs
  refine lv_aload_n hx hb dX11_init_0 rfl (lv_at hl 0 rfl) ?_
  refine W.objInit hx hb hown (hts _ (List.mem_cons_of_mem _ t_26)) (hts _ (List.mem_cons_of_mem _ t_27)) (hts _ (List.mem_cons_of_mem _ t_28)) rfl (by rw [hml]; exact hl.1) rfl dX11_init_1 (Nat.le_of_ble_eq_true rfl) (Nat.le_of_ble_eq_true rfl) ?_
  refine W.eq (g2 := F0 m 4 ls []) rfl ?_
  refine lv_aload_n hx hb dX11_init_4 rfl (lv_at hl 0 rfl) ?_
  refine ro_new F M nf_10 t_29 (by decide) (by decide) dX11_init_5 (fun q1 H k_q1 M => ?_)
  obtain ⟨h2, e_h2⟩ : ∃ z, z = newO h 10 q1 := ⟨_, rfl⟩
  rw [← e_h2] at M
  have hs := hs q1 h2 k_q1 e_h2
  refine lv_dup hx hb dX11_init_8 rfl ?_
  refine ca_INP (bq := q1) (As := []) (rest := [.ref q1, .ref th]) F hAO M (cP_X10_init hs) mi_X10_init tN_31 rfl ⟨by decide, by decide⟩ ⟨(by decide), (by decide)⟩ hl.1 rfl (by simp [cat_rf, cat_i, cat_j, cat_r]) dX11_init_9 (fun rv h3 H locs hq M => ?_)
  obtain ⟨rfl, hs⟩ := hq
  refine W.eq (g2 := F0 m 12 ls [.ref q1, .ref th]) rfl ?_
  obtain ⟨h4, g_h4, hs⟩ := bdP hs
  refine ro_pRF F (hin rfl) M fg_11_0 fp_11_0 rfl rfl t_330 g_h4 dX11_init_12 (fun H locs M => ?_)
  refine lv_aload_n hx hb dX11_init_15 rfl (lv_at hl 0 rfl) ?_
  refine ro_new F M nf_7 t_60 (by decide) (by decide) dX11_init_16 (fun q5 H k_q5 M => ?_)
  obtain ⟨h6, e_h6⟩ : ∃ z, z = newO h4 7 q5 := ⟨_, rfl⟩
  rw [← e_h6] at M
  have hs := hs q5 h6 k_q5 e_h6
  refine lv_dup hx hb dX11_init_19 rfl ?_
  refine ca_INP (bq := q5) (As := []) (rest := [.ref q5, .ref th]) F hAO M (cP_X7_init hs) mi_X7_init tN_62 rfl ⟨by decide, by decide⟩ ⟨(by decide), (by decide)⟩ hl.1 rfl (by simp [cat_rf, cat_i, cat_j, cat_r]) dX11_init_20 (fun rv h7 H locs hq M => ?_)
  obtain ⟨rfl, hs⟩ := hq
  refine W.eq (g2 := F0 m 23 ls [.ref q5, .ref th]) rfl ?_
  obtain ⟨h8, g_h8, hs⟩ := bdP hs
  refine ro_pRF F (hin rfl) M fg_11_1 fp_11_1 rfl rfl t_331 g_h8 dX11_init_23 (fun H locs M => ?_)
  refine lv_aload_n hx hb dX11_init_26 rfl (lv_at hl 0 rfl) ?_
  refine ro_new F M nf_5 t_78 (by decide) (by decide) dX11_init_27 (fun q9 H k_q9 M => ?_)
  obtain ⟨h10, e_h10⟩ : ∃ z, z = newO h8 5 q9 := ⟨_, rfl⟩
  rw [← e_h10] at M
  have hs := hs q9 h10 k_q9 e_h10
  refine lv_dup hx hb dX11_init_30 rfl ?_
  refine lv_aload_n hx hb dX11_init_31 rfl (lv_at hl 0 rfl) ?_
  obtain ⟨v11, g_v11, hs⟩ := bdP hs
  refine ro_gR F M fg_11_0 t_330 g_v11 dX11_init_32 ?_
  refine ca_INP (bq := q9) (As := [va_rf v11]) (rest := [.ref q9, .ref th]) F hAO M (cP_X5_init hs) mi_X5_init tN_80 rfl ⟨by decide, by decide⟩ ⟨(by decide), (by decide)⟩ hl.1 rfl (by simp [cat_rf, cat_i, cat_j, cat_r]) dX11_init_35 (fun rv h12 H locs hq M => ?_)
  obtain ⟨rfl, hs⟩ := hq
  refine W.eq (g2 := F0 m 38 ls [.ref q9, .ref th]) rfl ?_
  obtain ⟨h13, g_h13, hs⟩ := bdP hs
  refine ro_pRF F (hin rfl) M fg_11_2 fp_11_2 rfl rfl t_332 g_h13 dX11_init_38 (fun H locs M => ?_)
  refine lv_aload_n hx hb dX11_init_41 rfl (lv_at hl 0 rfl) ?_
  refine ro_new F M nf_3 t_204 (by decide) (by decide) dX11_init_42 (fun q14 H k_q14 M => ?_)
  obtain ⟨h15, e_h15⟩ : ∃ z, z = newO h13 3 q14 := ⟨_, rfl⟩
  rw [← e_h15] at M
  have hs := hs q14 h15 k_q14 e_h15
  refine lv_dup hx hb dX11_init_45 rfl ?_
  refine ca_INP (bq := q14) (As := []) (rest := [.ref q14, .ref th]) F hAO M (cP_X3_init hs) mi_X3_init tN_206 rfl ⟨by decide, by decide⟩ ⟨(by decide), (by decide)⟩ hl.1 rfl (by simp [cat_rf, cat_i, cat_j, cat_r]) dX11_init_46 (fun rv h16 H locs hq M => ?_)
  obtain ⟨rfl, hs⟩ := hq
  refine W.eq (g2 := F0 m 49 ls [.ref q14, .ref th]) rfl ?_
  obtain ⟨h17, g_h17, hs⟩ := bdP hs
  refine ro_pRF F (hin rfl) M fg_11_3 fp_11_3 rfl rfl t_333 g_h17 dX11_init_49 (fun H locs M => ?_)
  refine lv_aload_n hx hb dX11_init_52 rfl (lv_at hl 0 rfl) ?_
  refine ro_new F M nf_0 t_233 (by decide) (by decide) dX11_init_53 (fun q18 H k_q18 M => ?_)
  obtain ⟨h19, e_h19⟩ : ∃ z, z = newO h17 0 q18 := ⟨_, rfl⟩
  rw [← e_h19] at M
  have hs := hs q18 h19 k_q18 e_h19
  refine lv_dup hx hb dX11_init_56 rfl ?_
  refine lv_aload_n hx hb dX11_init_57 rfl (lv_at hl 0 rfl) ?_
  obtain ⟨v20, g_v20, hs⟩ := bdP hs
  refine ro_gR F M fg_11_1 t_331 g_v20 dX11_init_58 ?_
  refine ca_INP (bq := q18) (As := [va_rf v20]) (rest := [.ref q18, .ref th]) F hAO M (cP_X0_init hs) mi_X0_init tN_235 rfl ⟨by decide, by decide⟩ ⟨(by decide), (by decide)⟩ hl.1 rfl (by simp [cat_rf, cat_i, cat_j, cat_r]) dX11_init_61 (fun rv h21 H locs hq M => ?_)
  obtain ⟨rfl, hs⟩ := hq
  refine W.eq (g2 := F0 m 64 ls [.ref q18, .ref th]) rfl ?_
  obtain ⟨h22, g_h22, hs⟩ := bdP hs
  refine ro_pRF F (hin rfl) M fg_11_4 fp_11_4 rfl rfl t_334 g_h22 dX11_init_64 (fun H locs M => ?_)
  refine lv_aload_n hx hb dX11_init_67 rfl (lv_at hl 0 rfl) ?_
  refine ro_new F M nf_8 t_312 (by decide) (by decide) dX11_init_68 (fun q23 H k_q23 M => ?_)
  obtain ⟨h24, e_h24⟩ : ∃ z, z = newO h22 8 q23 := ⟨_, rfl⟩
  rw [← e_h24] at M
  have hs := hs q23 h24 k_q23 e_h24
  refine lv_dup hx hb dX11_init_71 rfl ?_
  refine lv_aload_n hx hb dX11_init_72 rfl (lv_at hl 0 rfl) ?_
  obtain ⟨v25, g_v25, hs⟩ := bdP hs
  refine ro_gR F M fg_11_1 t_331 g_v25 dX11_init_73 ?_
  refine lv_aload_n hx hb dX11_init_76 rfl (lv_at hl 0 rfl) ?_
  obtain ⟨v26, g_v26, hs⟩ := bdP hs
  refine ro_gR F M fg_11_3 t_333 g_v26 dX11_init_77 ?_
  refine ca_INP (bq := q23) (As := [va_rf v25, va_rf v26]) (rest := [.ref q23, .ref th]) F hAO M (cP_X8_init hs) mi_X8_init tN_314 rfl ⟨by decide, by decide⟩ ⟨(by decide), (by decide)⟩ hl.1 rfl (by simp [cat_rf, cat_i, cat_j, cat_r]) dX11_init_80 (fun rv h27 H locs hq M => ?_)
  obtain ⟨rfl, hs⟩ := hq
  refine W.eq (g2 := F0 m 83 ls [.ref q23, .ref th]) rfl ?_
  obtain ⟨h28, g_h28, hs⟩ := bdP hs
  refine ro_pRF F (hin rfl) M fg_11_5 fp_11_5 rfl rfl t_335 g_h28 dX11_init_83 (fun H locs M => ?_)
  refine lv_aload_n hx hb dX11_init_86 rfl (lv_at hl 0 rfl) ?_
  refine lv_bipush (v := 20) hx hb dX11_init_87 (by decide) ?_
  refine lv_bipush (v := 12) hx hb dX11_init_89 (by decide) ?_
  refine ro_mna (N' := 20) (K' := 12) F M t_329 hAO.2.2.2 t_59 (by decide) (by decide) (by decide) (by decide) (by decide) (by decide) (by decide) (by decide) dX11_init_91 (fun q29 r30 H k_q29 kr_q29 ki_q29 M => ?_)
  obtain ⟨h31, e_h31⟩ : ∃ z, z = newG h28 20 12 q29 r30 := ⟨_, rfl⟩
  rw [← e_h31] at M
  have hs := hs q29 r30 h31 k_q29 kr_q29 ki_q29 e_h31
  obtain ⟨h32, g_h32, hs⟩ := bdP hs
  refine ro_pAF F (hin rfl) M fg_11_6 fp_11_6 rfl rfl t_336 g_h32 dX11_init_95 (fun H locs M => ?_)
  refine lv_aload_n hx hb dX11_init_98 rfl (lv_at hl 0 rfl) ?_
  refine lv_bipush (v := 20) hx hb dX11_init_99 (by decide) ?_
  refine ro_newI (N' := 20) F M t_59 (by decide) (by decide) (by decide) (by decide) (by decide) dX11_init_101 (fun q33 H k_q33 M => ?_)
  obtain ⟨h34, e_h34⟩ : ∃ z, z = newA h32 0 20 q33 := ⟨_, rfl⟩
  rw [← e_h34] at M
  have hs := hs q33 h34 k_q33 e_h34
  obtain ⟨h35, g_h35, hs⟩ := bdP hs
  refine ro_pAF F (hin rfl) M fg_11_7 fp_11_7 rfl rfl t_337 g_h35 dX11_init_103 (fun H locs M => ?_)
  refine W.widen (k := 97) (n := 4816) (by decide) (by decide) ?_
  exact re_vP F M ⟨rfl, hs⟩ dX11_init_106
