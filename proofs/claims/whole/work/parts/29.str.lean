/-! ===== texts: the constants, and String's own methods on them ===== -/
def slen (k : Nat) : Option Int32 := if k < 13 then some (nI (scLen.getD k 0)) else none
def schar (k : Nat) (j : Int32) : Option Int32 := if k < 13 ∧ ¬ (j < 0 ∨ scLen.getD k 0 ≤ j.toNatClampNeg) then some ((scByt.getD k []).getD j.toNatClampNeg 0) else none
theorem sc_fix : ∀ k, k < 13 → ∀ j, j < scLen.getD k 0 → (((scByt.getD k []).getD j 0 &&& 255).toUInt32 % 65536).toInt32 = (scByt.getD k []).getD j 0 ∧ narrow .char (.int ((scByt.getD k []).getD j 0)) = .int ((scByt.getD k []).getD j 0) := by decide
theorem sc_small : ∀ k, k < 13 → scLen.getD k 0 < 100 := by decide
def MT (y : MethodName) (b : ByteArray) (n : Nat) (r : Option FieldType) (np : Nat) : Prop := Cond.code y b n r ∈ gw ∧ Cond.instanceMethod y ∈ gw ∧ Cond.selects "java/lang/String" y y ∈ gw ∧ Cond.initialized y.cls ∈ gw ∧ MD y np
section RW8
variable {p : Program} {l : Launch} {e : Env} {R : Room} {s : State} {m : MethodId} {args : Array Value} {below : List Frame} {meth : Method} {c : Code} {H : Heap} {locs : List Loc} {cells slots : Nat} {Q : State → Prop}
variable {pc : Nat} {ls : Array Slot} {rest st0 : List Value} {D : va_G} {cy : Nat → ClassId} {A : Nat → Prop} {H0 : Heap} {h h' : IH}
variable {y : MethodName} {b : ByteArray} {n : Nat} {r : Option FieldType} {k index : Nat}
variable {y' : MethodName} {b' : ByteArray} {n' np : Nat} {r' : Option FieldType} {rm : Room} {As : List Value}
theorem st_val (F : Fx p s m args meth c D cy A H0 y b n r) (M : Mo D cy A H0 h H locs) (hk : k < 13) (hlk : Cond.fieldLink y.cls index "java/lang/String" "value" "[B" ∈ gw) (hdg : decode b pc = .ok (.getfield index, 3))
    (kk : W p l e R s m args below meth c H locs cells slots Q (F0 m (pc + 3) ls (.ref (cy (200 + k)) :: rest))) : W p l e R s m args below meth c H locs cells slots Q (F0 m pc ls (.ref (cy (100 + k)) :: rest)) := by
  obtain ⟨hx, hb, -, -, hown, -, hts, -, -, -, hH, hS1, -⟩ := F
  subst hH
  exact vk_getf hx hb (hS1.1 k hk).2.2.1 M.2.2.1 hown (hts _ (List.mem_cons_of_mem _ hlk)) (fun _ h9 => h9) hdg kk
theorem st_cod (F : Fx p s m args meth c D cy A H0 y b n r) (M : Mo D cy A H0 h H locs) (hk : k < 13) (hlk : Cond.fieldLink y.cls index "java/lang/String" "coder" "B" ∈ gw) (hdg : decode b pc = .ok (.getfield index, 3))
    (kk : W p l e R s m args below meth c H locs cells slots Q (F0 m (pc + 3) ls (.int 0 :: rest))) : W p l e R s m args below meth c H locs cells slots Q (F0 m pc ls (.ref (cy (100 + k)) :: rest)) := by
  obtain ⟨hx, hb, -, -, hown, -, hts, -, -, -, hH, hS1, -⟩ := F
  subst hH
  exact vk_getf hx hb (hS1.1 k hk).2.1 M.2.2.1 hown (hts _ (List.mem_cons_of_mem _ hlk)) (fun _ h9 => h9) hdg kk
theorem st_len (F : Fx p s m args meth c D cy A H0 y b n r) (M : Mo D cy A H0 h H locs) (hk : k < 13) (hdg : decode b pc = .ok (.arraylength, 1))
    (kk : W p l e R s m args below meth c H locs cells slots Q (F0 m (pc + 1) ls (.int (nI (scLen.getD k 0)) :: rest))) : W p l e R s m args below meth c H locs cells slots Q (F0 m pc ls (.ref (cy (200 + k)) :: rest)) := by
  obtain ⟨hx, hb, -, -, hown, -, hts, -, -, -, hH, hS1, -⟩ := F
  subst hH
  exact va_tlen hx hb (hS1.1 k hk).2.2.2 M.2.2.1 rfl hdg kk
theorem st_at {j : Int32} (F : Fx p s m args meth c D cy A H0 y b n r) (M : Mo D cy A H0 h H locs) (hk : k < 13) (hin : vp_in j (scLen.getD k 0)) (hdg : decode b pc = .ok (.baload, 1))
    (kk : W p l e R s m args below meth c H locs cells slots Q (F0 m (pc + 1) ls (.int ((scByt.getD k []).getD j.toNatClampNeg 0) :: rest))) : W p l e R s m args below meth c H locs cells slots Q (F0 m pc ls (.int j :: .ref (cy (200 + k)) :: rest)) := by
  obtain ⟨hx, hb, -, -, hown, -, hts, -, -, -, hH, hS1, -⟩ := F
  subst hH
  exact va_tb hx hb (hS1.1 k hk).2.2.2 M.2.2.1 hin rfl hdg kk
theorem st_cs (F : Fx p s m args meth c D cy A H0 y b n r) (M : Mo D cy A H0 h H locs) (hlk : Cond.fieldLink y.cls index "java/lang/String" "COMPACT_STRINGS" "Z" ∈ gw) (hdg : decode b pc = .ok (.getstatic index, 3))
    (kk : W p l e R s m args below meth c H locs cells slots Q (F0 m (pc + 3) ls (.int 1 :: rest))) : W p l e R s m args below meth c H locs cells slots Q (F0 m pc ls rest) := by
  obtain ⟨hx, hb, -, -, hown, -, hts, -, -, -, hH, hS1, hS2, hS3, x0, hS4⟩ := F
  subst hH
  exact va_gets hx hb hS3 M.2.2.1 hown (hts _ (List.mem_cons_of_mem _ hlk)) (fun _ h9 => h9) hdg kk
theorem st_si (F : Fx p s m args meth c D cy A H0 y b n r) (M : Mo D cy A H0 h H locs) (hlk : Cond.fieldLink y.cls index "jdk/internal/util/Preconditions" "SIOOBE_FORMATTER" "Ljava/util/function/BiFunction;" ∈ gw) (hdg : decode b pc = .ok (.getstatic index, 3))
    (kk : ∀ x : Option Nat, W p l e R s m args below meth c H locs cells slots Q (F0 m (pc + 3) ls (va_rf x :: rest))) : W p l e R s m args below meth c H locs cells slots Q (F0 m pc ls rest) := by
  obtain ⟨hx, hb, -, -, hown, -, hts, -, -, -, hH, hS1, hS2, hS3, x0, hS4⟩ := F
  subst hH
  exact va_gets hx hb hS4 M.2.2.1 hown (hts _ (List.mem_cons_of_mem _ hlk)) (fun _ h9 => h9) hdg (kk x0)
theorem st_ldc (F : Fx p s m args meth c D cy A H0 y b n r) (M : Mo D cy A H0 h H locs) (hk : k < 13) (how : scOwn k = y.cls) (hix : scIx k = index) (hdg : decode b pc = .ok (.ldc index, 2))
    (kk : W p l e R s m args below meth c H locs cells slots Q (F0 m (pc + 2) ls (.ref (cy (100 + k)) :: rest))) : W p l e R s m args below meth c H locs cells slots Q (F0 m pc ls rest) := by
  obtain ⟨hx, hb, -, -, hown, -, hts, -, -, -, hH, hS1, hS2, -⟩ := F
  have hR := hS2 k hk
  rw [how, hix] at hR
  exact va_ldcS hx hb hown hR hdg kk
theorem ca_Ti {v : Int32} (F : Fx p s m args meth c D cy A H0 y b n r) (M : Mo D cy A H0 h H locs) (hk : k < 13) (hM : Ct l D cy y' b' n' r' rm h H.size (.ref (cy (100 + k)) :: As) h' (some (.int v))) (G : MT y' b' n' r' np) (hlk : Cond.methodLink y.cls index y' ∈ gw) (hn : As.length = np) (hR : rm.frames + 1 ≤ R.frames ∧ 8 + (n' + 11) + rm.locals ≤ R.locals) (hrm : rm.cells = 0 ∧ rm.slots = 0) (hf : cells ≤ R.cells ∧ slots ≤ R.slots) (hl : ls.size = n) (hst0 : st0 = As.reverse ++ .ref (cy (100 + k)) :: rest) (hst : (rest.map fun v => v.category).sum ≤ 8) (hdg : decode b pc = .ok (.invokevirtual index, 3))
    (kk : ∀ (H1 : Heap) (locs1 : List Loc), Mo D cy A H0 h' H1 locs1 → W p l e R s m args below meth c H1 locs1 cells slots Q (F0 m (pc + 3) ls (.int v :: rest))) : W p l e R s m args below meth c H locs cells slots Q (F0 m pc ls st0) := by
  have F0_ := F
  obtain ⟨hx, hb, -, hml, hown, -, hts, hK, hN, hA, hH, hS1, -⟩ := F
  obtain ⟨hc, hi, hsel, hini, hd⟩ := G
  have tw : ∀ w ∈ gw, w.before args s = true := fun w hw => hts w (List.mem_cons_of_mem _ hw)
  have hrec : ∃ cellB : Cell, H[cy (100 + k)]? = some cellB ∧ cellB.vm.isStatics = false ∧ s.vm.findClass "java/lang/String" = some cellB.cls := by
    have hS := M.2.2.1
    rw [hH] at hS
    exact vk_recv (adK := fun i => cy (100 + i)) hS1 hk hS
  refine ca_go (va_runV (As := As) (rest := rest) ⟨hx, hb, hml, hown, hts⟩ hM ⟨callB_of np hts (goodB hc) rfl rfl rfl (tw _ hini) (tw _ hlk) hd hR, tw _ hi, tw _ hsel⟩ ⟨Pr_blind, hrec, M.pre F0_⟩ rfl hn hl hst0 (lv_room hst) hdg (by rw [hrm.1, hrm.2]; exact hf)) M.2.2.1 (M.free hA) (fun H1 locs1 _ M1 => ?_)
  rw [hrm.1, hrm.2]
  exact kk H1 locs1 M1
theorem re_n {v : Int32} {ty : FieldType} (F : Fx p s m args meth c D cy A H0 y b n (some ty)) (M : Mo D cy A H0 h H locs) (hv : narrow ty (.int v) = .int v) (hdg : decode b pc = .ok (.ireturn, 1)) : W p l e R s m args below meth c H locs cells slots (MQ below (QR D cy h A (some (.int v))) args s cells slots A) (F0 m pc ls [.int v]) :=
  W.zret F.1 F.2.1 F.2.2.1 hv (fun t ht hW => M.end F ht hW) M.2.2.1.2.2 hdg F.2.2.2.2.2.1
end RW8
theorem mt_length : MT yJ0_length_8abf5 cJ0_length_8abf5 1 (some .int) 0 := ⟨t_503, t_501, t_502, t_14, ⟨by decide +kernel, by decide +kernel, by decide +kernel⟩⟩
theorem mt_coder : MT yJ0_coder_7d493 cJ0_coder_7d493 1 (some .byte) 0 := ⟨t_507, t_505, t_506, t_14, ⟨by decide +kernel, by decide +kernel, by decide +kernel⟩⟩
theorem mt_charAt : MT yJ0_charAt_5068e cJ0_charAt_5068e 2 (some .char) 1 := ⟨t_513, t_511, t_512, t_14, ⟨by decide +kernel, by decide +kernel, by decide +kernel⟩⟩
theorem mt_isLatin1 : MT yJ0_isLatin1_aae02 cJ0_isLatin1_aae02 1 (some .boolean) 0 := ⟨t_517, t_515, t_516, t_14, ⟨by decide +kernel, by decide +kernel, by decide +kernel⟩⟩
theorem ms_J1_charAt : MS yJ1_charAt_3b067 cJ1_charAt_3b067 2 (some .char) 2 := ⟨t_520, t_519, t_15, ⟨by decide +kernel, by decide +kernel, by decide +kernel⟩⟩
theorem ms_J0_checkIndex : MS yJ0_checkIndex_df160 cJ0_checkIndex_df160 2 none 2 := ⟨t_523, t_522, t_14, ⟨by decide +kernel, by decide +kernel, by decide +kernel⟩⟩
theorem ms_J3_checkIndex : MS yJ3_checkIndex_8e157 cJ3_checkIndex_8e157 3 (some .int) 3 := ⟨t_528, t_527, t_16, ⟨by decide +kernel, by decide +kernel, by decide +kernel⟩⟩
abbrev rm_ci3 : Room := { frames := 0, cells := 0, slots := 0, locals := 0 }
abbrev rm_ci0 : Room := { frames := 1, cells := 0, slots := 0, locals := 22 }
abbrev rm_lch : Room := { frames := 2, cells := 0, slots := 0, locals := 43 }
abbrev rm_sch : Room := { frames := 3, cells := 0, slots := 0, locals := 64 }
abbrev rm_sle : Room := { frames := 1, cells := 0, slots := 0, locals := 20 }
set_option maxHeartbeats 4000000 in
theorem c_ci3 {l : Launch} {D : va_G} {cy : Nat → ClassId} {sz : Nat} {h : IH} {i n : Int32} {x : Option Nat} (h0 : ¬ i < 0) (h1 : i < n) : Ct l D cy yJ3_checkIndex_8e157 cJ3_checkIndex_8e157 3 (some .int) rm_ci3 h sz [.int i, .int n, va_rf x] h (some (.int i)) := by
  refine ct_startF (by decide +kernel) [(0, .int i), (1, .int n), (2, va_rf x)] (by simp [lg_sl, cat_rf, cat_i, cat_j, cat_r]) (by simp [lv_args, cat_rf, cat_i, cat_j, cat_r]) ?_
  intro p e s m args below meth c A H0 ls F hin hsz M hl
  obtain ⟨hx, hb, hr, hml, hown, hlk, hts, hK, hN, hA, hH⟩ := id F
  refine lv_iload_n hx hb dJ3_checkIndex_8e157_0 rfl (lv_at hl 0 rfl) ?_
  refine lv_if_lt (tgt := 9) hx hb dJ3_checkIndex_8e157_1 (by decide) (fun c9 => absurd c9 h0) (fun c9 => ?_)
  refine lv_iload_n hx hb dJ3_checkIndex_8e157_4 rfl (lv_at hl 0 rfl) ?_
  refine lv_iload_n hx hb dJ3_checkIndex_8e157_5 rfl (lv_at hl 1 rfl) ?_
  refine lv_icmp_lt (tgt := 16) hx hb dJ3_checkIndex_8e157_6 (by decide) (fun c9 => ?_) (fun c9 => absurd h1 c9)
  refine lv_iload_n hx hb dJ3_checkIndex_8e157_16 rfl (lv_at hl 0 rfl) ?_
  exact re_i F M dJ3_checkIndex_8e157_17
set_option maxHeartbeats 4000000 in
theorem c_ci0 {l : Launch} {D : va_G} {cy : Nat → ClassId} {sz : Nat} {h : IH} {i n : Int32} (h0 : ¬ i < 0) (h1 : i < n) : Ct l D cy yJ0_checkIndex_df160 cJ0_checkIndex_df160 2 none rm_ci0 h sz [.int i, .int n] h none := by
  refine ct_startF (by decide +kernel) [(0, .int i), (1, .int n)] (Nat.le_of_ble_eq_true rfl) rfl ?_
  intro p e s m args below meth c A H0 ls F hin hsz M hl
  obtain ⟨hx, hb, hr, hml, hown, hlk, hts, hK, hN, hA, hH⟩ := id F
  generalize s.heap = H at M ⊢
  generalize ([] : List Loc) = locs at M ⊢
  refine lv_iload_n hx hb dJ0_checkIndex_df160_0 rfl (lv_at hl 0 rfl) ?_
  refine lv_iload_n hx hb dJ0_checkIndex_df160_1 rfl (lv_at hl 1 rfl) ?_
  refine st_si F M t_524 dJ0_checkIndex_df160_2 (fun x => ?_)
  refine ca_Si (As := [.int i, .int n, va_rf x]) (rest := []) F M (c_ci3 h0 h1) ms_J3_checkIndex t_526 rfl ⟨by decide, by decide⟩ ⟨rfl, rfl⟩ ⟨by decide, by decide⟩ hl.1 rfl (by decide) dJ0_checkIndex_df160_5 (fun H locs M => ?_)
  refine lv_pop hx hb dJ0_checkIndex_df160_8 rfl ?_
  exact re_v F M dJ0_checkIndex_df160_9
set_option maxHeartbeats 4000000 in
theorem c_lch {l : Launch} {D : va_G} {cy : Nat → ClassId} {sz k : Nat} {h : IH} {j : Int32} (hk : k < 13) (hin0 : ¬ (j < 0 ∨ scLen.getD k 0 ≤ j.toNatClampNeg)) : Ct l D cy yJ1_charAt_3b067 cJ1_charAt_3b067 2 (some .char) rm_lch h sz [.ref (cy (200 + k)), .int j] h (some (.int ((scByt.getD k []).getD j.toNatClampNeg 0))) := by
  refine ct_startF (by decide +kernel) [(0, .ref (cy (200 + k))), (1, .int j)] (Nat.le_of_ble_eq_true rfl) rfl ?_
  intro p e s m args below meth c A H0 ls F hin hsz M hl
  obtain ⟨hx, hb, hr, hml, hown, hlk, hts, hK, hN, hA, hH⟩ := id F
  generalize s.heap = H at M ⊢
  generalize ([] : List Loc) = locs at M ⊢
  have hsm := sc_small k hk
  have h0 : ¬ j < 0 := fun z => hin0 (Or.inl z)
  obtain ⟨i, hi, rfl⟩ := vp_in_of (x := j) hin0 (by omega)
  have h1 : nI i < nI (scLen.getD k 0) := nI_lt hi (by omega)
  obtain ⟨hf1, hf2⟩ := sc_fix k hk i hi
  have hcl : (nI i).toNatClampNeg = i := nI_clamp (by omega)
  refine lv_iload_n hx hb dJ1_charAt_3b067_0 rfl (lv_at hl 1 rfl) ?_
  refine lv_aload_n hx hb dJ1_charAt_3b067_1 rfl (lv_at hl 0 rfl) ?_
  refine st_len F M hk dJ1_charAt_3b067_2 ?_
  refine ca_Sv (As := [.int (nI i), .int (nI (scLen.getD k 0))]) (rest := []) F M (c_ci0 h0 h1) ms_J0_checkIndex t_521 rfl ⟨by decide, by decide⟩ ⟨rfl, rfl⟩ ⟨by decide, by decide⟩ hl.1 rfl (by decide) dJ1_charAt_3b067_3 (fun H locs M => ?_)
  refine lv_aload_n hx hb dJ1_charAt_3b067_6 rfl (lv_at hl 0 rfl) ?_
  refine lv_iload_n hx hb dJ1_charAt_3b067_7 rfl (lv_at hl 1 rfl) ?_
  refine st_at F M hk hin0 dJ1_charAt_3b067_8 ?_
  rw [hcl]
  refine lv_sipush (v := 255) hx hb dJ1_charAt_3b067_9 (by decide) ?_
  refine lv_iand hx hb dJ1_charAt_3b067_12 ?_
  refine lv_i2c hx hb dJ1_charAt_3b067_13 hf1 ?_
  exact re_n F M hf2 dJ1_charAt_3b067_14
set_option maxHeartbeats 4000000 in
theorem c_isl {l : Launch} {D : va_G} {cy : Nat → ClassId} {sz k : Nat} {h : IH} (hk : k < 13) : Ct l D cy yJ0_isLatin1_aae02 cJ0_isLatin1_aae02 1 (some .boolean) rm_ci3 h sz [.ref (cy (100 + k))] h (some (.int 1)) := by
  refine ct_startF (by decide +kernel) [(0, .ref (cy (100 + k)))] (Nat.le_of_ble_eq_true rfl) rfl ?_
  intro p e s m args below meth c A H0 ls F hin hsz M hl
  obtain ⟨hx, hb, hr, hml, hown, hlk, hts, hK, hN, hA, hH⟩ := id F
  generalize s.heap = H at M ⊢
  generalize ([] : List Loc) = locs at M ⊢
  refine st_cs F M t_508 dJ0_isLatin1_aae02_0 ?_
  refine lv_if_eq (tgt := 17) hx hb dJ0_isLatin1_aae02_3 (by decide) (fun c9 => absurd c9 (by decide)) (fun c9 => ?_)
  refine lv_aload_n hx hb dJ0_isLatin1_aae02_6 rfl (lv_at hl 0 rfl) ?_
  refine st_cod F M hk t_1544 dJ0_isLatin1_aae02_7 ?_
  refine lv_if_ne (tgt := 17) hx hb dJ0_isLatin1_aae02_10 (by decide) (fun c9 => absurd rfl c9) (fun c9 => ?_)
  refine lv_iconst (v := 1) hx hb dJ0_isLatin1_aae02_13 (by decide) ?_
  refine lv_goto (tgt := 18) hx hb dJ0_isLatin1_aae02_14 (by decide) ?_
  exact re_z F M (Or.inr rfl) dJ0_isLatin1_aae02_18
set_option maxHeartbeats 4000000 in
theorem c_cod {l : Launch} {D : va_G} {cy : Nat → ClassId} {sz k : Nat} {h : IH} (hk : k < 13) : Ct l D cy yJ0_coder_7d493 cJ0_coder_7d493 1 (some .byte) rm_ci3 h sz [.ref (cy (100 + k))] h (some (.int 0)) := by
  refine ct_startF (by decide +kernel) [(0, .ref (cy (100 + k)))] (Nat.le_of_ble_eq_true rfl) rfl ?_
  intro p e s m args below meth c A H0 ls F hin hsz M hl
  obtain ⟨hx, hb, hr, hml, hown, hlk, hts, hK, hN, hA, hH⟩ := id F
  generalize s.heap = H at M ⊢
  generalize ([] : List Loc) = locs at M ⊢
  refine st_cs F M t_508 dJ0_coder_7d493_0 ?_
  refine lv_if_eq (tgt := 13) hx hb dJ0_coder_7d493_3 (by decide) (fun c9 => absurd c9 (by decide)) (fun c9 => ?_)
  refine lv_aload_n hx hb dJ0_coder_7d493_6 rfl (lv_at hl 0 rfl) ?_
  refine st_cod F M hk t_1544 dJ0_coder_7d493_7 ?_
  refine lv_goto (tgt := 14) hx hb dJ0_coder_7d493_10 (by decide) ?_
  exact re_n F M rfl dJ0_coder_7d493_14
set_option maxHeartbeats 4000000 in
theorem c_sle {l : Launch} {D : va_G} {cy : Nat → ClassId} {sz k : Nat} {h : IH} (hk : k < 13) : Ct l D cy yJ0_length_8abf5 cJ0_length_8abf5 1 (some .int) rm_sle h sz [.ref (cy (100 + k))] h (some (.int (nI (scLen.getD k 0)))) := by
  refine ct_startF (by decide +kernel) [(0, .ref (cy (100 + k)))] (Nat.le_of_ble_eq_true rfl) rfl ?_
  intro p e s m args below meth c A H0 ls F hin hsz M hl
  obtain ⟨hx, hb, hr, hml, hown, hlk, hts, hK, hN, hA, hH⟩ := id F
  generalize s.heap = H at M ⊢
  generalize ([] : List Loc) = locs at M ⊢
  have hsm := sc_small k hk
  refine lv_aload_n hx hb dJ0_length_8abf5_0 rfl (lv_at hl 0 rfl) ?_
  refine st_val F M hk t_1543 dJ0_length_8abf5_1 ?_
  refine st_len F M hk dJ0_length_8abf5_4 ?_
  refine lv_aload_n hx hb dJ0_length_8abf5_5 rfl (lv_at hl 0 rfl) ?_
  refine ca_Ti (As := []) (rest := [.int (nI (scLen.getD k 0))]) F M hk (c_cod hk) mt_coder t_504 rfl ⟨by decide, by decide⟩ ⟨rfl, rfl⟩ ⟨by decide, by decide⟩ hl.1 rfl (by simp [cat_rf, cat_i, cat_j, cat_r]) dJ0_length_8abf5_6 (fun H locs M => ?_)
  refine lv_ishr hx hb dJ0_length_8abf5_9 ?_
  rw [sc_shr0 (show scLen.getD k 0 < 2 ^ 31 by omega)]
  exact re_i F M dJ0_length_8abf5_10
set_option maxHeartbeats 4000000 in
theorem c_sch {l : Launch} {D : va_G} {cy : Nat → ClassId} {sz k : Nat} {h : IH} {j : Int32} (hk : k < 13) (hin0 : ¬ (j < 0 ∨ scLen.getD k 0 ≤ j.toNatClampNeg)) : Ct l D cy yJ0_charAt_5068e cJ0_charAt_5068e 2 (some .char) rm_sch h sz [.ref (cy (100 + k)), .int j] h (some (.int ((scByt.getD k []).getD j.toNatClampNeg 0))) := by
  refine ct_startF (by decide +kernel) [(0, .ref (cy (100 + k))), (1, .int j)] (Nat.le_of_ble_eq_true rfl) rfl ?_
  intro p e s m args below meth c A H0 ls F hin hsz M hl
  obtain ⟨hx, hb, hr, hml, hown, hlk, hts, hK, hN, hA, hH⟩ := id F
  generalize s.heap = H at M ⊢
  generalize ([] : List Loc) = locs at M ⊢
  have hsm := sc_small k hk
  have hcl : j.toNatClampNeg < scLen.getD k 0 := Nat.lt_of_not_le fun z => hin0 (Or.inr z)
  obtain ⟨hf1, hf2⟩ := sc_fix k hk _ hcl
  refine lv_aload_n hx hb dJ0_charAt_5068e_0 rfl (lv_at hl 0 rfl) ?_
  refine ca_Ti (As := []) (rest := []) F M hk (c_isl hk) mt_isLatin1 t_514 rfl ⟨by decide, by decide⟩ ⟨rfl, rfl⟩ ⟨by decide, by decide⟩ hl.1 rfl (by decide) dJ0_charAt_5068e_1 (fun H locs M => ?_)
  refine lv_if_eq (tgt := 16) hx hb dJ0_charAt_5068e_4 (by decide) (fun c9 => absurd c9 (by decide)) (fun c9 => ?_)
  refine lv_aload_n hx hb dJ0_charAt_5068e_7 rfl (lv_at hl 0 rfl) ?_
  refine st_val F M hk t_1543 dJ0_charAt_5068e_8 ?_
  refine lv_iload_n hx hb dJ0_charAt_5068e_11 rfl (lv_at hl 1 rfl) ?_
  refine ca_Si (As := [.ref (cy (200 + k)), .int j]) (rest := []) F M (c_lch hk hin0) ms_J1_charAt t_518 rfl ⟨by decide, by decide⟩ ⟨rfl, rfl⟩ ⟨by decide, by decide⟩ hl.1 rfl (by decide) dJ0_charAt_5068e_12 (fun H locs M => ?_)
  exact re_n F M hf2 dJ0_charAt_5068e_15
section RW9
variable {p : Program} {l : Launch} {e : Env} {R : Room} {s : State} {m : MethodId} {args : Array Value} {below : List Frame} {meth : Method} {c : Code} {H : Heap} {locs : List Loc} {cells slots : Nat} {Q : State → Prop}
variable {pc : Nat} {ls : Array Slot} {rest : List Value} {D : va_G} {cy : Nat → ClassId} {A : Nat → Prop} {H0 : Heap} {h : IH}
variable {y : MethodName} {b : ByteArray} {n : Nat} {r : Option FieldType} {k index : Nat}
theorem ro_slen {v : Int32} (F : Fx p s m args meth c D cy A H0 y b n r) (M : Mo D cy A H0 h H locs) (hg : slen k = some v) (hlk : Cond.methodLink y.cls index yJ0_length_8abf5 ∈ gw) (hR : 2 ≤ R.frames ∧ 40 ≤ R.locals) (hf : cells ≤ R.cells ∧ slots ≤ R.slots) (hl : ls.size = n) (hst : (rest.map fun v => v.category).sum ≤ 8) (hdg : decode b pc = .ok (.invokevirtual index, 3))
    (kk : ∀ (H1 : Heap) (locs1 : List Loc), Mo D cy A H0 h H1 locs1 → W p l e R s m args below meth c H1 locs1 cells slots Q (F0 m (pc + 3) ls (.int v :: rest))) : W p l e R s m args below meth c H locs cells slots Q (F0 m pc ls (.ref (cy (100 + k)) :: rest)) := by
  unfold slen at hg
  by_cases hk : k < 13
  · rw [if_pos hk] at hg
    obtain rfl := Option.some.inj hg
    exact ca_Ti (As := []) (rest := rest) F M hk (c_sle hk) mt_length hlk rfl hR ⟨rfl, rfl⟩ hf hl rfl hst hdg kk
  · rw [if_neg hk] at hg
    cases hg
theorem ro_schar {v j : Int32} (F : Fx p s m args meth c D cy A H0 y b n r) (M : Mo D cy A H0 h H locs) (hg : schar k j = some v) (hlk : Cond.methodLink y.cls index yJ0_charAt_5068e ∈ gw) (hR : 4 ≤ R.frames ∧ 85 ≤ R.locals) (hf : cells ≤ R.cells ∧ slots ≤ R.slots) (hl : ls.size = n) (hst : (rest.map fun v => v.category).sum ≤ 8) (hdg : decode b pc = .ok (.invokevirtual index, 3))
    (kk : ∀ (H1 : Heap) (locs1 : List Loc), Mo D cy A H0 h H1 locs1 → W p l e R s m args below meth c H1 locs1 cells slots Q (F0 m (pc + 3) ls (.int v :: rest))) : W p l e R s m args below meth c H locs cells slots Q (F0 m pc ls (.int j :: .ref (cy (100 + k)) :: rest)) := by
  unfold schar at hg
  by_cases hk : k < 13 ∧ ¬ (j < 0 ∨ scLen.getD k 0 ≤ j.toNatClampNeg)
  · rw [if_pos hk] at hg
    obtain rfl := Option.some.inj hg
    exact ca_Ti (As := [.int j]) (rest := rest) F M hk.1 (c_sch hk.1 hk.2) mt_charAt hlk rfl hR ⟨rfl, rfl⟩ hf hl rfl hst hdg kk
  · rw [if_neg hk] at hg
    cases hg
end RW9
