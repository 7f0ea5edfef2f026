theorem nf_0 : NF 0 RX0 TX0 5 := ⟨rfl, inX0, by decide, t_234, t_8, tyX0, tyX0_ok, by decide⟩
theorem nf_1 : NF 1 RX1 TX1 5 := ⟨rfl, inX1, by decide, t_274, t_10, tyX1, tyX1_ok, by decide⟩
theorem nf_2 : NF 2 RX2 TX2 11 := ⟨rfl, inX2, by decide, t_85, t_5, tyX2, tyX2_ok, by decide⟩
theorem nf_3 : NF 3 RX3 TX3 7 := ⟨rfl, inX3, by decide, t_205, t_7, tyX3, tyX3_ok, by decide⟩
theorem nf_4 : NF 4 RX4 TX4 3 := ⟨rfl, inX4, by decide, t_157, t_6, tyX4, tyX4_ok, by decide⟩
theorem nf_5 : NF 5 RX5 TX5 5 := ⟨rfl, inX5, by decide, t_79, t_4, tyX5, tyX5_ok, by decide⟩
theorem nf_6 : NF 6 RX6 TX6 8 := ⟨rfl, inX6, by decide, t_240, t_9, tyX6, tyX6_ok, by decide⟩
theorem nf_7 : NF 7 RX7 TX7 2 := ⟨rfl, inX7, by decide, t_61, t_3, tyX7, tyX7_ok, by decide⟩
theorem nf_8 : NF 8 RX8 TX8 3 := ⟨rfl, inX8, by decide, t_313, t_11, tyX8, tyX8_ok, by decide⟩
theorem nf_9 : NF 9 RX9 TX9 9 := ⟨rfl, inX9, by decide, t_412, t_13, tyX9, tyX9_ok, by decide⟩
theorem nf_10 : NF 10 RX10 TX10 6 := ⟨rfl, inX10, by decide, t_30, t_2, tyX10, tyX10_ok, by decide⟩
theorem nf_11 : NF 11 RX11 TX11 14 := ⟨rfl, inX11, by decide, t_22, t_1, tyX11, tyX11_ok, by decide⟩
theorem nf_12 : NF 12 RX12 TX12 70 := ⟨rfl, inX12, by decide, t_1001, t_12, tyX12, tyX12_ok, by decide⟩
abbrev rm_X10_init : Room := { frames := 1, cells := 1, slots := 1000, locals := 20 }
theorem mi_X10_init : MI yX10_init cX10_init 1 0 := ⟨t_33, t_32, rfl, t_2, ⟨by decide +kernel, by decide +kernel, by decide +kernel⟩⟩
def s_X10_initP (h : IH) (th : Nat) (P : IH → Prop) : Prop := ∀ (q1 : Nat) (h2 : IH), kd h q1 = 0 → h2 = newA h 0 1000 q1 → bP (pR h2 10 0 (some th) (some q1)) fun h3 => P h3
set_option maxHeartbeats 4000000 in
set_option maxRecDepth 100000 in
theorem cP_X10_init {l : Launch} {D : va_G} {cy : Nat → ClassId} {sz : Nat} {h : IH} {th : Nat} {P : IH → Prop} (hs : s_X10_initP h th P) : CtP l D cy yX10_init cX10_init 1 none rm_X10_init h sz [.ref th] (fun rv h9 => rv = none ∧ P h9) := by
  refine ct_startP (by decide +kernel) [(0, .ref th)] (Nat.le_of_ble_eq_true rfl) rfl ?_
  intro p e s m args below meth c A H0 ls F hin hAO hsz M hl
  obtain ⟨hx, hb, hr, hml, hown, hlk, hts, hK, hN, hA, hH⟩ := id F
  generalize s.heap = H at M ⊢
  generalize ([] : List Loc) = locs at M ⊢
  unfold s_X10_initP at hs
  refine lv_aload_n hx hb dX10_init_0 rfl (lv_at hl 0 rfl) ?_
  refine W.objInit hx hb hown (hts _ (List.mem_cons_of_mem _ t_34)) (hts _ (List.mem_cons_of_mem _ t_27)) (hts _ (List.mem_cons_of_mem _ t_28)) rfl (by rw [hml]; exact hl.1) rfl dX10_init_1 (Nat.le_of_ble_eq_true rfl) (Nat.le_of_ble_eq_true rfl) ?_
  refine W.eq (g2 := F0 m 4 ls []) rfl ?_
  refine lv_aload_n hx hb dX10_init_4 rfl (lv_at hl 0 rfl) ?_
  refine lv_sipush (v := 1000) hx hb dX10_init_5 (by decide) ?_
  refine ro_newI (N' := 1000) F M t_59 (by decide) (by decide) (by decide) (by decide) (by decide) dX10_init_8 (fun q1 H k_q1 M => ?_)
  obtain ⟨h2, e_h2⟩ : ∃ z, z = newA h 0 1000 q1 := ⟨_, rfl⟩
  rw [← e_h2] at M
  have hs := hs q1 h2 k_q1 e_h2
  obtain ⟨h3, g_h3, hs⟩ := bdP hs
  refine ro_pAF F (hin rfl) M fg_10_0 fp_10_0 rfl rfl t_35 g_h3 dX10_init_10 (fun H locs M => ?_)
  refine W.widen (k := 1) (n := 1000) (by decide) (by decide) ?_
  exact re_vP F M ⟨rfl, hs⟩ dX10_init_13
abbrev rm_X7_init : Room := { frames := 1, cells := 1, slots := 12, locals := 20 }
theorem mi_X7_init : MI yX7_init cX7_init 1 0 := ⟨t_64, t_63, rfl, t_3, ⟨by decide +kernel, by decide +kernel, by decide +kernel⟩⟩
def s_X7_initP (h : IH) (th : Nat) (P : IH → Prop) : Prop := ∀ (q1 : Nat) (h2 : IH), kd h q1 = 0 → h2 = newA h 5 12 q1 → bP (pR h2 7 0 (some th) (some q1)) fun h3 => P h3
set_option maxHeartbeats 4000000 in
set_option maxRecDepth 100000 in
theorem cP_X7_init {l : Launch} {D : va_G} {cy : Nat → ClassId} {sz : Nat} {h : IH} {th : Nat} {P : IH → Prop} (hs : s_X7_initP h th P) : CtP l D cy yX7_init cX7_init 1 none rm_X7_init h sz [.ref th] (fun rv h9 => rv = none ∧ P h9) := by
  refine ct_startP (by decide +kernel) [(0, .ref th)] (Nat.le_of_ble_eq_true rfl) rfl ?_
  intro p e s m args below meth c A H0 ls F hin hAO hsz M hl
  obtain ⟨hx, hb, hr, hml, hown, hlk, hts, hK, hN, hA, hH⟩ := id F
  generalize s.heap = H at M ⊢
  generalize ([] : List Loc) = locs at M ⊢
  unfold s_X7_initP at hs
  refine lv_aload_n hx hb dX7_init_0 rfl (lv_at hl 0 rfl) ?_
  refine W.objInit hx hb hown (hts _ (List.mem_cons_of_mem _ t_65)) (hts _ (List.mem_cons_of_mem _ t_27)) (hts _ (List.mem_cons_of_mem _ t_28)) rfl (by rw [hml]; exact hl.1) rfl dX7_init_1 (Nat.le_of_ble_eq_true rfl) (Nat.le_of_ble_eq_true rfl) ?_
  refine W.eq (g2 := F0 m 4 ls []) rfl ?_
  refine lv_aload_n hx hb dX7_init_4 rfl (lv_at hl 0 rfl) ?_
  refine lv_bipush (v := 12) hx hb dX7_init_5 (by decide) ?_
  refine ro_newR (k := 5) (N' := 12) (by decide) rfl F M t_66 hAO.2.2.1 (by decide) (by decide) (by decide) (by decide) (by decide) dX7_init_7 (fun q1 H k_q1 M => ?_)
  obtain ⟨h2, e_h2⟩ : ∃ z, z = newA h 5 12 q1 := ⟨_, rfl⟩
  rw [← e_h2] at M
  have hs := hs q1 h2 k_q1 e_h2
  obtain ⟨h3, g_h3, hs⟩ := bdP hs
  refine ro_pAF F (hin rfl) M fg_7_0 fp_7_0 rfl rfl t_68 g_h3 dX7_init_10 (fun H locs M => ?_)
  refine W.widen (k := 1) (n := 12) (by decide) (by decide) ?_
  exact re_vP F M ⟨rfl, hs⟩ dX7_init_13
abbrev rm_X2_init : Room := { frames := 1, cells := 0, slots := 0, locals := 20 }
theorem mi_X2_init : MI yX2_init cX2_init 1 0 := ⟨t_88, t_87, rfl, t_5, ⟨by decide +kernel, by decide +kernel, by decide +kernel⟩⟩
def s_X2_initP (h : IH) (th : Nat) (P : IH → Prop) : Prop := P h
set_option maxHeartbeats 4000000 in
set_option maxRecDepth 100000 in
theorem cP_X2_init {l : Launch} {D : va_G} {cy : Nat → ClassId} {sz : Nat} {h : IH} {th : Nat} {P : IH → Prop} (hs : s_X2_initP h th P) : CtP l D cy yX2_init cX2_init 1 none rm_X2_init h sz [.ref th] (fun rv h9 => rv = none ∧ P h9) := by
  refine ct_startP (by decide +kernel) [(0, .ref th)] (Nat.le_of_ble_eq_true rfl) rfl ?_
  intro p e s m args below meth c A H0 ls F hin hAO hsz M hl
  obtain ⟨hx, hb, hr, hml, hown, hlk, hts, hK, hN, hA, hH⟩ := id F
  generalize s.heap = H at M ⊢
  generalize ([] : List Loc) = locs at M ⊢
  unfold s_X2_initP at hs
  refine lv_aload_n hx hb dX2_init_0 rfl (lv_at hl 0 rfl) ?_
  refine W.objInit hx hb hown (hts _ (List.mem_cons_of_mem _ t_89)) (hts _ (List.mem_cons_of_mem _ t_27)) (hts _ (List.mem_cons_of_mem _ t_28)) rfl (by rw [hml]; exact hl.1) rfl dX2_init_1 (Nat.le_of_ble_eq_true rfl) (Nat.le_of_ble_eq_true rfl) ?_
  refine W.eq (g2 := F0 m 4 ls []) rfl ?_
  refine W.widen (k := 0) (n := 0) (by decide) (by decide) ?_
  exact re_vP F M ⟨rfl, hs⟩ dX2_init_4
abbrev rm_X4_init : Room := { frames := 2, cells := 17, slots := 192, locals := 40 }
theorem mi_X4_init : MI yX4_init cX4_init 2 0 := ⟨t_160, t_159, rfl, t_6, ⟨by decide +kernel, by decide +kernel, by decide +kernel⟩⟩
def s_X4_init_L20 (N : Nat) : Nat → Nat → Int32 → IH → (IH → Prop) → Prop
  | 0, _, _, _, _ => False
  | n + 1, th, x9, h, P => if 16 ≤ x9 then P h else bP (gR h 4 0 (some th)) fun v5 => ∀ (q6 : Nat) (h7 : IH), kd h q6 = 0 → h7 = newO h 2 q6 → s_X2_initP h7 q6  (fun h8 => bP (sR h8 3 2 v5 x9 (some q6)) fun h9 => s_X4_init_L20 N n th (x9 + 1) h9 P)
def s_X4_initP (N : Nat) (h : IH) (th : Nat) (P : IH → Prop) : Prop := ∀ (q1 : Nat) (h2 : IH), kd h q1 = 0 → h2 = newA h 3 16 q1 → bP (pR h2 4 0 (some th) (some q1)) fun h3 => bP (pZ h3 4 2 (some th) 1) fun h4 => s_X4_init_L20 N N th 0 h4 (fun h10 => P h10)
set_option maxHeartbeats 4000000 in
set_option maxRecDepth 100000 in
theorem w_X4_init_L20 {p : Program} {l : Launch} {e : Env} {s : State} {m : MethodId} {args : Array Value} {below : List Frame} {meth : Method} {c : Code} {D : va_G} {cy : Nat → ClassId} {A : Nat → Prop} {H0 : Heap} {N th : Nat} {P : IH → Prop} {Q : State → Prop} {c0 s0 : Nat} (hc0 : c0 + 16 * 1 ≤ rm_X4_init.cells) (hs0 : s0 + 16 * 11 ≤ rm_X4_init.slots) (F : Fx p s m args meth c D cy A H0 yX4_init cX4_init 2 none) (hAO : AOs s) : ∀ (n i : Nat) (x9 : Int32) (h : IH) (ls : Array Slot) (H : Heap) (locs : List Loc), x9 = nI i → i ≤ 16 → s_X4_init_L20 N n th x9 h P → lv_has ls 2 [(0, .ref th), (1, .int x9)] → Mo D cy A H0 h H locs → (∀ (h : IH) (ls : Array Slot) (H : Heap) (locs : List Loc), P h → lv_has ls 2 [(0, .ref th)] → Mo D cy A H0 h H locs → W p l e rm_X4_init s m args below meth c H locs (c0 + 16 * 1) (s0 + 16 * 11) Q (F0 m 45 ls [])) → W p l e rm_X4_init s m args below meth c H locs (c0 + i * 1) (s0 + i * 11) Q (F0 m 20 ls []) := by
  intro n
  induction n with
  | zero => intro i x9 h ls H locs _ _ hs; exact hs.elim
  | succ n ih =>
    intro i x9 h ls H locs hx9 hiK hs hl M kx
    obtain ⟨hx, hb, hr, hml, hown, hlk, hts, hK, hN, hA, hH⟩ := id F
    dsimp only [rm_X4_init] at hc0 hs0
    rw [s_X4_init_L20.eq_2] at hs
    refine lv_iload_n hx hb dX4_init_20 rfl (lv_at hl 1 rfl) ?_
    refine lv_bipush (v := 16) hx hb dX4_init_21 (by decide) ?_
    refine lv_icmp_ge (tgt := 45) hx hb dX4_init_23 (by decide) (fun c9 => ?_) (fun c9 => ?_)
    · rw [if_pos c9] at hs
      have hK9 : 16 ≤ i := (nI_leI (a := 16) (b := i) (by omega) (by omega)).mp (by rw [← hx9]; exact c9)
      have hi9 : i = 16 := by omega
      subst hi9
      exact kx h _ _ _ hs (lv_sub hl [0] rfl) M
    · rw [if_neg c9] at hs
      have hi : i < 16 := Nat.lt_of_not_le fun z => c9 (by rw [hx9]; exact nI_le (a := 16) z (by omega))
      refine lv_aload_n hx hb dX4_init_26 rfl (lv_at hl 0 rfl) ?_
      obtain ⟨v5, g_v5, hs⟩ := bdP hs
      refine ro_gR F M fg_4_0 t_165 g_v5 dX4_init_27 ?_
      refine lv_iload_n hx hb dX4_init_30 rfl (lv_at hl 1 rfl) ?_
      refine ro_new F M nf_2 t_162 (by dsimp only [rm_X2_init, rm_X4_init]; omega) (by dsimp only [rm_X2_init, rm_X4_init]; omega) dX4_init_31 (fun q6 H k_q6 M => ?_)
      obtain ⟨h7, e_h7⟩ : ∃ z, z = newO h 2 q6 := ⟨_, rfl⟩
      rw [← e_h7] at M
      have hs := hs q6 h7 k_q6 e_h7
      refine lv_dup hx hb dX4_init_34 rfl ?_
      refine ca_INP (bq := q6) (As := []) (rest := [.ref q6, .int x9, va_rf v5]) F hAO M (cP_X2_init hs) mi_X2_init tN_164 rfl ⟨by decide, by decide⟩ ⟨(by dsimp only [rm_X2_init, rm_X4_init]; omega), (by dsimp only [rm_X2_init, rm_X4_init]; omega)⟩ hl.1 rfl (by simp [cat_rf, cat_i, cat_j, cat_r]) dX4_init_35 (fun rv h8 H locs hq M => ?_)
      obtain ⟨rfl, hs⟩ := hq
      refine W.eq (g2 := F0 m 38 ls [.ref q6, .int x9, va_rf v5]) rfl ?_
      obtain ⟨h9, g_h9, hs⟩ := bdP hs
      refine ro_sR (k := 3) (by decide) rfl (ci := 2) rfl (by decide) F M g_h9 dX4_init_38 (fun H locs M => ?_)
      refine lv_iinc (v := x9 + 1) (lv' := [(1, .int (x9 + 1)), (0, .ref th)]) hx hb dX4_init_39 hl (k := 1) rfl rfl (by decide) rfl (fun ls hl => ?_)
      refine lv_goto (tgt := 20) hx hb dX4_init_42 (by decide) ?_
      refine W.cs (cells' := c0 + (i + 1) * 1) (slots' := s0 + (i + 1) * 11) (by dsimp only [rm_X2_init, rm_X4_init]; omega) (by dsimp only [rm_X2_init, rm_X4_init]; omega) ?_
      exact ih (i + 1) _ _ _ _ _ (by rw [hx9]; exact nI_1 i) hi hs (lv_sub hl [1, 0] rfl) M kx
set_option maxHeartbeats 4000000 in
set_option maxRecDepth 100000 in
theorem cP_X4_init {l : Launch} {D : va_G} {cy : Nat → ClassId} {sz N : Nat} {h : IH} {th : Nat} {P : IH → Prop} (hs : s_X4_initP N h th P) : CtP l D cy yX4_init cX4_init 2 none rm_X4_init h sz [.ref th] (fun rv h9 => rv = none ∧ P h9) := by
  refine ct_startP (by decide +kernel) [(0, .ref th)] (Nat.le_of_ble_eq_true rfl) rfl ?_
  intro p e s m args below meth c A H0 ls F hin hAO hsz M hl
  obtain ⟨hx, hb, hr, hml, hown, hlk, hts, hK, hN, hA, hH⟩ := id F
  generalize s.heap = H at M ⊢
  generalize ([] : List Loc) = locs at M ⊢
  unfold s_X4_initP at hs
  refine lv_aload_n hx hb dX4_init_0 rfl (lv_at hl 0 rfl) ?_
  refine W.objInit hx hb hown (hts _ (List.mem_cons_of_mem _ t_161)) (hts _ (List.mem_cons_of_mem _ t_27)) (hts _ (List.mem_cons_of_mem _ t_28)) rfl (by rw [hml]; exact hl.1) rfl dX4_init_1 (Nat.le_of_ble_eq_true rfl) (Nat.le_of_ble_eq_true rfl) ?_
  refine W.eq (g2 := F0 m 4 ls []) rfl ?_
  refine lv_aload_n hx hb dX4_init_4 rfl (lv_at hl 0 rfl) ?_
  refine lv_bipush (v := 16) hx hb dX4_init_5 (by decide) ?_
  refine ro_newR (k := 3) (N' := 16) (by decide) rfl F M t_162 hAO.1 (by decide) (by decide) (by decide) (by decide) (by decide) dX4_init_7 (fun q1 H k_q1 M => ?_)
  obtain ⟨h2, e_h2⟩ : ∃ z, z = newA h 3 16 q1 := ⟨_, rfl⟩
  rw [← e_h2] at M
  have hs := hs q1 h2 k_q1 e_h2
  obtain ⟨h3, g_h3, hs⟩ := bdP hs
  refine ro_pAF F (hin rfl) M fg_4_0 fp_4_0 rfl rfl t_165 g_h3 dX4_init_10 (fun H locs M => ?_)
  refine lv_aload_n hx hb dX4_init_13 rfl (lv_at hl 0 rfl) ?_
  refine lv_iconst (v := 1) hx hb dX4_init_14 (by decide) ?_
  obtain ⟨h4, g_h4, hs⟩ := bdP hs
  refine ro_pZ F M fg_4_2 fp_4_2 rfl t_174 g_h4 dX4_init_15 (fun H locs M => ?_)
  refine lv_iconst (v := 0) hx hb dX4_init_18 (by decide) ?_
  refine lv_istore_n (i := 1) (lv' := [(1, .int 0), (0, .ref th)]) hx hb dX4_init_19 rfl hl (by decide) rfl (fun ls hl => ?_)
  refine W.cs (cells' := 1 + 0 * 1) (slots' := 16 + 0 * 11) rfl rfl ?_
  refine w_X4_init_L20 (c0 := 1) (s0 := 16) (by decide) (by decide) F hAO N 0 0 _ _ _ _ rfl (by decide) hs (lv_sub hl [1, 0] rfl) M (fun h10 ls H locs hs hl M => ?_)
  refine W.widen (k := 17) (n := 192) (by decide) (by decide) ?_
  exact re_vP F M ⟨rfl, hs⟩ dX4_init_45
abbrev rm_X5_init : Room := { frames := 3, cells := 20, slots := 1206, locals := 61 }
theorem mi_X5_init : MI yX5_init cX5_init 2 1 := ⟨t_82, t_81, rfl, t_4, ⟨by decide +kernel, by decide +kernel, by decide +kernel⟩⟩
def s_X5_initP (N : Nat) (h : IH) (th : Nat) (a0 : Option Nat) (P : IH → Prop) : Prop := ∀ (q1 : Nat) (h2 : IH), kd h q1 = 0 → h2 = newO h 2 q1 → s_X2_initP h2 q1  (fun h3 => bP (pR h3 5 1 (some th) (some q1)) fun h4 => ∀ (q5 : Nat) (h6 : IH), kd h4 q5 = 0 → h6 = newA h4 0 1000 q5 → bP (pR h6 5 2 (some th) (some q5)) fun h7 => ∀ (q8 : Nat) (h9 : IH), kd h7 q8 = 0 → h9 = newO h7 4 q8 → s_X4_initP N h9 q8  (fun h10 => bP (pR h10 5 4 (some th) (some q8)) fun h11 => bP (pR h11 5 0 (some th) a0) fun h12 => P h12))
set_option maxHeartbeats 4000000 in
set_option maxRecDepth 100000 in
theorem cP_X5_init {l : Launch} {D : va_G} {cy : Nat → ClassId} {sz N : Nat} {h : IH} {th : Nat} {a0 : Option Nat} {P : IH → Prop} (hs : s_X5_initP N h th a0 P) : CtP l D cy yX5_init cX5_init 2 none rm_X5_init h sz [.ref th, va_rf a0] (fun rv h9 => rv = none ∧ P h9) := by
  refine ct_startP (by decide +kernel) [(0, .ref th), (1, va_rf a0)] (by simp [lg_sl, cat_rf, cat_i, cat_j, cat_r]) (by simp [lv_args, cat_rf, cat_i, cat_j, cat_r]) ?_
  intro p e s m args below meth c A H0 ls F hin hAO hsz M hl
  obtain ⟨hx, hb, hr, hml, hown, hlk, hts, hK, hN, hA, hH⟩ := id F
  generalize s.heap = H at M ⊢
  generalize ([] : List Loc) = locs at M ⊢
  unfold s_X5_initP at hs
  refine lv_aload_n hx hb dX5_init_0 rfl (lv_at hl 0 rfl) ?_
  refine W.objInit hx hb hown (hts _ (List.mem_cons_of_mem _ t_83)) (hts _ (List.mem_cons_of_mem _ t_27)) (hts _ (List.mem_cons_of_mem _ t_28)) rfl (by rw [hml]; exact hl.1) rfl dX5_init_1 (Nat.le_of_ble_eq_true rfl) (Nat.le_of_ble_eq_true rfl) ?_
  refine W.eq (g2 := F0 m 4 ls []) rfl ?_
  refine lv_aload_n hx hb dX5_init_4 rfl (lv_at hl 0 rfl) ?_
  refine ro_new F M nf_2 t_84 (by decide) (by decide) dX5_init_5 (fun q1 H k_q1 M => ?_)
  obtain ⟨h2, e_h2⟩ : ∃ z, z = newO h 2 q1 := ⟨_, rfl⟩
  rw [← e_h2] at M
  have hs := hs q1 h2 k_q1 e_h2
  refine lv_dup hx hb dX5_init_8 rfl ?_
  refine ca_INP (bq := q1) (As := []) (rest := [.ref q1, .ref th]) F hAO M (cP_X2_init hs) mi_X2_init tN_86 rfl ⟨by decide, by decide⟩ ⟨(by decide), (by decide)⟩ hl.1 rfl (by simp [cat_rf, cat_i, cat_j, cat_r]) dX5_init_9 (fun rv h3 H locs hq M => ?_)
  obtain ⟨rfl, hs⟩ := hq
  refine W.eq (g2 := F0 m 12 ls [.ref q1, .ref th]) rfl ?_
  obtain ⟨h4, g_h4, hs⟩ := bdP hs
  refine ro_pRF F (hin rfl) M fg_5_1 fp_5_1 rfl rfl t_186 g_h4 dX5_init_12 (fun H locs M => ?_)
  refine lv_aload_n hx hb dX5_init_15 rfl (lv_at hl 0 rfl) ?_
  refine lv_sipush (v := 1000) hx hb dX5_init_16 (by decide) ?_
  refine ro_newI (N' := 1000) F M t_59 (by decide) (by decide) (by decide) (by decide) (by decide) dX5_init_19 (fun q5 H k_q5 M => ?_)
  obtain ⟨h6, e_h6⟩ : ∃ z, z = newA h4 0 1000 q5 := ⟨_, rfl⟩
  rw [← e_h6] at M
  have hs := hs q5 h6 k_q5 e_h6
  obtain ⟨h7, g_h7, hs⟩ := bdP hs
  refine ro_pAF F (hin rfl) M fg_5_2 fp_5_2 rfl rfl t_187 g_h7 dX5_init_21 (fun H locs M => ?_)
  refine lv_aload_n hx hb dX5_init_24 rfl (lv_at hl 0 rfl) ?_
  refine ro_new F M nf_4 t_156 (by decide) (by decide) dX5_init_25 (fun q8 H k_q8 M => ?_)
  obtain ⟨h9, e_h9⟩ : ∃ z, z = newO h7 4 q8 := ⟨_, rfl⟩
  rw [← e_h9] at M
  have hs := hs q8 h9 k_q8 e_h9
  refine lv_dup hx hb dX5_init_28 rfl ?_
  refine ca_INP (bq := q8) (As := []) (rest := [.ref q8, .ref th]) F hAO M (cP_X4_init hs) mi_X4_init tN_158 rfl ⟨by decide, by decide⟩ ⟨(by decide), (by decide)⟩ hl.1 rfl (by simp [cat_rf, cat_i, cat_j, cat_r]) dX5_init_29 (fun rv h10 H locs hq M => ?_)
  obtain ⟨rfl, hs⟩ := hq
  refine W.eq (g2 := F0 m 32 ls [.ref q8, .ref th]) rfl ?_
  obtain ⟨h11, g_h11, hs⟩ := bdP hs
  refine ro_pR F M fg_5_4 fp_5_4 rfl t_191 g_h11 dX5_init_32 (fun H locs M => ?_)
  refine lv_aload_n hx hb dX5_init_35 rfl (lv_at hl 0 rfl) ?_
  refine lo_aload_n hx hb dX5_init_36 rfl (lv_at hl 1 rfl) ?_
  obtain ⟨h12, g_h12, hs⟩ := bdP hs
  refine ro_pRF F (hin rfl) M fg_5_0 fp_5_0 rfl rfl t_185 g_h12 dX5_init_37 (fun H locs M => ?_)
  refine W.widen (k := 20) (n := 1206) (by decide) (by decide) ?_
  exact re_vP F M ⟨rfl, hs⟩ dX5_init_40
abbrev rm_X3_init : Room := { frames := 1, cells := 4, slots := 99, locals := 20 }
theorem mi_X3_init : MI yX3_init cX3_init 1 0 := ⟨t_208, t_207, rfl, t_7, ⟨by decide +kernel, by decide +kernel, by decide +kernel⟩⟩
def s_X3_initP (h : IH) (th : Nat) (P : IH → Prop) : Prop := ∀ (q1 : Nat) (h2 : IH), kd h q1 = 0 → h2 = newA h 0 30 q1 → bP (pR h2 3 0 (some th) (some q1)) fun h3 => ∀ (q4 : Nat) (h5 : IH), kd h3 q4 = 0 → h5 = newA h3 0 30 q4 → bP (pR h5 3 2 (some th) (some q4)) fun h6 => ∀ (q7 : Nat) (h8 : IH), kd h6 q7 = 0 → h8 = newA h6 0 9 q7 → bP (pR h8 3 3 (some th) (some q7)) fun h9 => ∀ (q10 : Nat) (h11 : IH), kd h9 q10 = 0 → h11 = newA h9 1 30 q10 → bP (pR h11 3 5 (some th) (some q10)) fun h12 => bP (gR h12 3 0 (some th)) fun v13 => bP (sI h12 v13 0 1) fun h14 => bP (pI h14 3 1 (some th) 1) fun h15 => P h15
set_option maxHeartbeats 4000000 in
set_option maxRecDepth 100000 in
theorem cP_X3_init {l : Launch} {D : va_G} {cy : Nat → ClassId} {sz : Nat} {h : IH} {th : Nat} {P : IH → Prop} (hs : s_X3_initP h th P) : CtP l D cy yX3_init cX3_init 1 none rm_X3_init h sz [.ref th] (fun rv h9 => rv = none ∧ P h9) := by
  refine ct_startP (by decide +kernel) [(0, .ref th)] (Nat.le_of_ble_eq_true rfl) rfl ?_
  intro p e s m args below meth c A H0 ls F hin hAO hsz M hl
  obtain ⟨hx, hb, hr, hml, hown, hlk, hts, hK, hN, hA, hH⟩ := id F
  generalize s.heap = H at M ⊢
  generalize ([] : List Loc) = locs at M ⊢
  unfold s_X3_initP at hs
  refine lv_aload_n hx hb dX3_init_0 rfl (lv_at hl 0 rfl) ?_
  refine W.objInit hx hb hown (hts _ (List.mem_cons_of_mem _ t_209)) (hts _ (List.mem_cons_of_mem _ t_27)) (hts _ (List.mem_cons_of_mem _ t_28)) rfl (by rw [hml]; exact hl.1) rfl dX3_init_1 (Nat.le_of_ble_eq_true rfl) (Nat.le_of_ble_eq_true rfl) ?_
  refine W.eq (g2 := F0 m 4 ls []) rfl ?_
  refine lv_aload_n hx hb dX3_init_4 rfl (lv_at hl 0 rfl) ?_
  refine lv_bipush (v := 30) hx hb dX3_init_5 (by decide) ?_
  refine ro_newI (N' := 30) F M t_59 (by decide) (by decide) (by decide) (by decide) (by decide) dX3_init_7 (fun q1 H k_q1 M => ?_)
  obtain ⟨h2, e_h2⟩ : ∃ z, z = newA h 0 30 q1 := ⟨_, rfl⟩
  rw [← e_h2] at M
  have hs := hs q1 h2 k_q1 e_h2
  obtain ⟨h3, g_h3, hs⟩ := bdP hs
  refine ro_pA F M fg_3_0 fp_3_0 rfl t_210 g_h3 dX3_init_9 (fun H locs M => ?_)
  refine lv_aload_n hx hb dX3_init_12 rfl (lv_at hl 0 rfl) ?_
  refine lv_bipush (v := 30) hx hb dX3_init_13 (by decide) ?_
  refine ro_newI (N' := 30) F M t_59 (by decide) (by decide) (by decide) (by decide) (by decide) dX3_init_15 (fun q4 H k_q4 M => ?_)
  obtain ⟨h5, e_h5⟩ : ∃ z, z = newA h3 0 30 q4 := ⟨_, rfl⟩
  rw [← e_h5] at M
  have hs := hs q4 h5 k_q4 e_h5
  obtain ⟨h6, g_h6, hs⟩ := bdP hs
  refine ro_pA F M fg_3_2 fp_3_2 rfl t_212 g_h6 dX3_init_17 (fun H locs M => ?_)
  refine lv_aload_n hx hb dX3_init_20 rfl (lv_at hl 0 rfl) ?_
  refine lv_bipush (v := 9) hx hb dX3_init_21 (by decide) ?_
  refine ro_newI (N' := 9) F M t_59 (by decide) (by decide) (by decide) (by decide) (by decide) dX3_init_23 (fun q7 H k_q7 M => ?_)
  obtain ⟨h8, e_h8⟩ : ∃ z, z = newA h6 0 9 q7 := ⟨_, rfl⟩
  rw [← e_h8] at M
  have hs := hs q7 h8 k_q7 e_h8
  obtain ⟨h9, g_h9, hs⟩ := bdP hs
  refine ro_pAF F (hin rfl) M fg_3_3 fp_3_3 rfl rfl t_213 g_h9 dX3_init_25 (fun H locs M => ?_)
  refine lv_aload_n hx hb dX3_init_28 rfl (lv_at hl 0 rfl) ?_
  refine lv_bipush (v := 30) hx hb dX3_init_29 (by decide) ?_
  refine ro_newJ (N' := 30) F M t_232 (by decide) (by decide) (by decide) (by decide) (by decide) dX3_init_31 (fun q10 H k_q10 M => ?_)
  obtain ⟨h11, e_h11⟩ : ∃ z, z = newA h9 1 30 q10 := ⟨_, rfl⟩
  rw [← e_h11] at M
  have hs := hs q10 h11 k_q10 e_h11
  obtain ⟨h12, g_h12, hs⟩ := bdP hs
  refine ro_pAF F (hin rfl) M fg_3_5 fp_3_5 rfl rfl t_215 g_h12 dX3_init_33 (fun H locs M => ?_)
  refine lv_aload_n hx hb dX3_init_36 rfl (lv_at hl 0 rfl) ?_
  obtain ⟨v13, g_v13, hs⟩ := bdP hs
  refine ro_gR F M fg_3_0 t_210 g_v13 dX3_init_37 ?_
  refine lv_iconst (v := 0) hx hb dX3_init_40 (by decide) ?_
  refine lv_iconst (v := 1) hx hb dX3_init_41 (by decide) ?_
  obtain ⟨h14, g_h14, hs⟩ := bdP hs
  refine ro_sI F M g_h14 dX3_init_42 (fun H locs M => ?_)
  refine lv_aload_n hx hb dX3_init_43 rfl (lv_at hl 0 rfl) ?_
  refine lv_iconst (v := 1) hx hb dX3_init_44 (by decide) ?_
  obtain ⟨h15, g_h15, hs⟩ := bdP hs
  refine ro_pI F M fg_3_1 fp_3_1 rfl t_211 g_h15 dX3_init_45 (fun H locs M => ?_)
  refine W.widen (k := 4) (n := 99) (by decide) (by decide) ?_
  exact re_vP F M ⟨rfl, hs⟩ dX3_init_48
abbrev rm_X1_init : Room := { frames := 1, cells := 2, slots := 1536, locals := 20 }
theorem mi_X1_init : MI yX1_init cX1_init 2 1 := ⟨t_277, t_276, rfl, t_10, ⟨by decide +kernel, by decide +kernel, by decide +kernel⟩⟩
def s_X1_initP (h : IH) (th : Nat) (a0 : Option Nat) (P : IH → Prop) : Prop := ∀ (q1 : Nat) (h2 : IH), kd h q1 = 0 → h2 = newA h 1 768 q1 → bP (pR h2 1 1 (some th) (some q1)) fun h3 => ∀ (q4 : Nat) (h5 : IH), kd h3 q4 = 0 → h5 = newA h3 0 768 q4 → bP (pR h5 1 2 (some th) (some q4)) fun h6 => bP (pR h6 1 0 (some th) a0) fun h7 => P h7
set_option maxHeartbeats 4000000 in
set_option maxRecDepth 100000 in
theorem cP_X1_init {l : Launch} {D : va_G} {cy : Nat → ClassId} {sz : Nat} {h : IH} {th : Nat} {a0 : Option Nat} {P : IH → Prop} (hs : s_X1_initP h th a0 P) : CtP l D cy yX1_init cX1_init 2 none rm_X1_init h sz [.ref th, va_rf a0] (fun rv h9 => rv = none ∧ P h9) := by
  refine ct_startP (by decide +kernel) [(0, .ref th), (1, va_rf a0)] (by simp [lg_sl, cat_rf, cat_i, cat_j, cat_r]) (by simp [lv_args, cat_rf, cat_i, cat_j, cat_r]) ?_
  intro p e s m args below meth c A H0 ls F hin hAO hsz M hl
  obtain ⟨hx, hb, hr, hml, hown, hlk, hts, hK, hN, hA, hH⟩ := id F
  generalize s.heap = H at M ⊢
  generalize ([] : List Loc) = locs at M ⊢
  unfold s_X1_initP at hs
  refine lv_aload_n hx hb dX1_init_0 rfl (lv_at hl 0 rfl) ?_
  refine W.objInit hx hb hown (hts _ (List.mem_cons_of_mem _ t_278)) (hts _ (List.mem_cons_of_mem _ t_27)) (hts _ (List.mem_cons_of_mem _ t_28)) rfl (by rw [hml]; exact hl.1) rfl dX1_init_1 (Nat.le_of_ble_eq_true rfl) (Nat.le_of_ble_eq_true rfl) ?_
  refine W.eq (g2 := F0 m 4 ls []) rfl ?_
  refine lv_aload_n hx hb dX1_init_4 rfl (lv_at hl 0 rfl) ?_
  refine lv_sipush (v := 768) hx hb dX1_init_5 (by decide) ?_
  refine ro_newJ (N' := 768) F M t_232 (by decide) (by decide) (by decide) (by decide) (by decide) dX1_init_8 (fun q1 H k_q1 M => ?_)
  obtain ⟨h2, e_h2⟩ : ∃ z, z = newA h 1 768 q1 := ⟨_, rfl⟩
  rw [← e_h2] at M
  have hs := hs q1 h2 k_q1 e_h2
  obtain ⟨h3, g_h3, hs⟩ := bdP hs
  refine ro_pAF F (hin rfl) M fg_1_1 fp_1_1 rfl rfl t_280 g_h3 dX1_init_10 (fun H locs M => ?_)
  refine lv_aload_n hx hb dX1_init_13 rfl (lv_at hl 0 rfl) ?_
  refine lv_sipush (v := 768) hx hb dX1_init_14 (by decide) ?_
  refine ro_newI (N' := 768) F M t_59 (by decide) (by decide) (by decide) (by decide) (by decide) dX1_init_17 (fun q4 H k_q4 M => ?_)
  obtain ⟨h5, e_h5⟩ : ∃ z, z = newA h3 0 768 q4 := ⟨_, rfl⟩
  rw [← e_h5] at M
  have hs := hs q4 h5 k_q4 e_h5
  obtain ⟨h6, g_h6, hs⟩ := bdP hs
  refine ro_pAF F (hin rfl) M fg_1_2 fp_1_2 rfl rfl t_281 g_h6 dX1_init_19 (fun H locs M => ?_)
  refine lv_aload_n hx hb dX1_init_22 rfl (lv_at hl 0 rfl) ?_
  refine lo_aload_n hx hb dX1_init_23 rfl (lv_at hl 1 rfl) ?_
  obtain ⟨h7, g_h7, hs⟩ := bdP hs
  refine ro_pRF F (hin rfl) M fg_1_0 fp_1_0 rfl rfl t_279 g_h7 dX1_init_24 (fun H locs M => ?_)
  refine W.widen (k := 2) (n := 1536) (by decide) (by decide) ?_
  exact re_vP F M ⟨rfl, hs⟩ dX1_init_27
abbrev rm_X8_init : Room := { frames := 1, cells := 0, slots := 0, locals := 20 }
theorem mi_X8_init : MI yX8_init cX8_init 3 2 := ⟨t_316, t_315, rfl, t_11, ⟨by decide +kernel, by decide +kernel, by decide +kernel⟩⟩
def s_X8_initP (h : IH) (th : Nat) (a0 : Option Nat) (a1 : Option Nat) (P : IH → Prop) : Prop := bP (pR h 8 0 (some th) a0) fun h1 => bP (pR h1 8 1 (some th) a1) fun h2 => P h2
set_option maxHeartbeats 4000000 in
set_option maxRecDepth 100000 in
theorem cP_X8_init {l : Launch} {D : va_G} {cy : Nat → ClassId} {sz : Nat} {h : IH} {th : Nat} {a0 : Option Nat} {a1 : Option Nat} {P : IH → Prop} (hs : s_X8_initP h th a0 a1 P) : CtP l D cy yX8_init cX8_init 3 none rm_X8_init h sz [.ref th, va_rf a0, va_rf a1] (fun rv h9 => rv = none ∧ P h9) := by
  refine ct_startP (by decide +kernel) [(0, .ref th), (1, va_rf a0), (2, va_rf a1)] (by simp [lg_sl, cat_rf, cat_i, cat_j, cat_r]) (by simp [lv_args, cat_rf, cat_i, cat_j, cat_r]) ?_
  intro p e s m args below meth c A H0 ls F hin hAO hsz M hl
  obtain ⟨hx, hb, hr, hml, hown, hlk, hts, hK, hN, hA, hH⟩ := id F
  generalize s.heap = H at M ⊢
  generalize ([] : List Loc) = locs at M ⊢
  unfold s_X8_initP at hs
  refine lv_aload_n hx hb dX8_init_0 rfl (lv_at hl 0 rfl) ?_
  refine W.objInit hx hb hown (hts _ (List.mem_cons_of_mem _ t_317)) (hts _ (List.mem_cons_of_mem _ t_27)) (hts _ (List.mem_cons_of_mem _ t_28)) rfl (by rw [hml]; exact hl.1) rfl dX8_init_1 (Nat.le_of_ble_eq_true rfl) (Nat.le_of_ble_eq_true rfl) ?_
  refine W.eq (g2 := F0 m 4 ls []) rfl ?_
  refine lv_aload_n hx hb dX8_init_4 rfl (lv_at hl 0 rfl) ?_
  refine lo_aload_n hx hb dX8_init_5 rfl (lv_at hl 1 rfl) ?_
  obtain ⟨h1, g_h1, hs⟩ := bdP hs
  refine ro_pRF F (hin rfl) M fg_8_0 fp_8_0 rfl rfl t_318 g_h1 dX8_init_6 (fun H locs M => ?_)
  refine lv_aload_n hx hb dX8_init_9 rfl (lv_at hl 0 rfl) ?_
  refine lo_aload_n hx hb dX8_init_10 rfl (lv_at hl 2 rfl) ?_
  obtain ⟨h2, g_h2, hs⟩ := bdP hs
  refine ro_pRF F (hin rfl) M fg_8_1 fp_8_1 rfl rfl t_319 g_h2 dX8_init_11 (fun H locs M => ?_)
  refine W.widen (k := 0) (n := 0) (by decide) (by decide) ?_
  exact re_vP F M ⟨rfl, hs⟩ dX8_init_14
abbrev rm_X9_init : Room := { frames := 3, cells := 55, slots := 588, locals := 61 }
theorem mi_X9_init : MI yX9_init cX9_init 8 5 := ⟨t_415, t_414, rfl, t_13, ⟨by decide +kernel, by decide +kernel, by decide +kernel⟩⟩
def s_X9_init_L47 (N : Nat) : Nat → Nat → Int32 → IH → (IH → Prop) → Prop
  | 0, _, _, _, _ => False
  | n + 1, th, x9, h, P => if 3 ≤ x9 then P h else bP (gR h 9 5 (some th)) fun v10 => ∀ (q11 : Nat) (h12 : IH), kd h q11 = 0 → h12 = newO h 4 q11 → s_X4_initP N h12 q11  (fun h13 => bP (sR h13 4 4 v10 x9 (some q11)) fun h14 => s_X9_init_L47 N n th (x9 + 1) h14 P)
def s_X9_initP (N : Nat) (h : IH) (th : Nat) (a0 : Int32) (a1 : Int32) (a2 : Int32) (a3 : Int32) (a4 : Int64) (P : IH → Prop) : Prop := ∀ (q1 : Nat) (h2 : IH), kd h q1 = 0 → h2 = newA h 4 3 q1 → bP (pR h2 9 5 (some th) (some q1)) fun h3 => bP (pI h3 9 6 (some th) (-1)) fun h4 => bP (pI h4 9 0 (some th) a0) fun h5 => bP (pI h5 9 1 (some th) a1) fun h6 => bP (pI h6 9 2 (some th) a2) fun h7 => bP (pI h7 9 3 (some th) a3) fun h8 => bP (pL h8 9 4 (some th) a4) fun h9 => s_X9_init_L47 N N th 0 h9 (fun h15 => P h15)
set_option maxHeartbeats 4000000 in
set_option maxRecDepth 100000 in
theorem w_X9_init_L47 {p : Program} {l : Launch} {e : Env} {s : State} {m : MethodId} {args : Array Value} {below : List Frame} {meth : Method} {c : Code} {D : va_G} {cy : Nat → ClassId} {A : Nat → Prop} {H0 : Heap} {N th : Nat} {P : IH → Prop} {Q : State → Prop} {c0 s0 : Nat} (hc0 : c0 + 3 * 18 ≤ rm_X9_init.cells) (hs0 : s0 + 3 * 195 ≤ rm_X9_init.slots) (F : Fx p s m args meth c D cy A H0 yX9_init cX9_init 8 none) (hAO : AOs s) : ∀ (n i : Nat) (x9 : Int32) (h : IH) (ls : Array Slot) (H : Heap) (locs : List Loc), x9 = nI i → i ≤ 3 → s_X9_init_L47 N n th x9 h P → lv_has ls 8 [(0, .ref th), (7, .int x9)] → Mo D cy A H0 h H locs → (∀ (h : IH) (ls : Array Slot) (H : Heap) (locs : List Loc), P h → lv_has ls 8 [(0, .ref th)] → Mo D cy A H0 h H locs → W p l e rm_X9_init s m args below meth c H locs (c0 + 3 * 18) (s0 + 3 * 195) Q (F0 m 73 ls [])) → W p l e rm_X9_init s m args below meth c H locs (c0 + i * 18) (s0 + i * 195) Q (F0 m 47 ls []) := by
  intro n
  induction n with
  | zero => intro i x9 h ls H locs _ _ hs; exact hs.elim
  | succ n ih =>
    intro i x9 h ls H locs hx9 hiK hs hl M kx
    obtain ⟨hx, hb, hr, hml, hown, hlk, hts, hK, hN, hA, hH⟩ := id F
    dsimp only [rm_X9_init] at hc0 hs0
    rw [s_X9_init_L47.eq_2] at hs
    refine lv_iload hx hb dX9_init_47 (lv_at hl 1 rfl) ?_
    refine lv_iconst (v := 3) hx hb dX9_init_49 (by decide) ?_
    refine lv_icmp_ge (tgt := 73) hx hb dX9_init_50 (by decide) (fun c9 => ?_) (fun c9 => ?_)
    · rw [if_pos c9] at hs
      have hK9 : 3 ≤ i := (nI_leI (a := 3) (b := i) (by omega) (by omega)).mp (by rw [← hx9]; exact c9)
      have hi9 : i = 3 := by omega
      subst hi9
      exact kx h _ _ _ hs (lv_sub hl [0] rfl) M
    · rw [if_neg c9] at hs
      have hi : i < 3 := Nat.lt_of_not_le fun z => c9 (by rw [hx9]; exact nI_le (a := 3) z (by omega))
      refine lv_aload_n hx hb dX9_init_53 rfl (lv_at hl 0 rfl) ?_
      obtain ⟨v10, g_v10, hs⟩ := bdP hs
      refine ro_gR F M fg_9_5 t_432 g_v10 dX9_init_54 ?_
      refine lv_iload hx hb dX9_init_57 (lv_at hl 1 rfl) ?_
      refine ro_new F M nf_4 t_417 (by dsimp only [rm_X4_init, rm_X9_init]; omega) (by dsimp only [rm_X4_init, rm_X9_init]; omega) dX9_init_59 (fun q11 H k_q11 M => ?_)
      obtain ⟨h12, e_h12⟩ : ∃ z, z = newO h 4 q11 := ⟨_, rfl⟩
      rw [← e_h12] at M
      have hs := hs q11 h12 k_q11 e_h12
      refine lv_dup hx hb dX9_init_62 rfl ?_
      refine ca_INP (bq := q11) (As := []) (rest := [.ref q11, .int x9, va_rf v10]) F hAO M (cP_X4_init hs) mi_X4_init tN_419 rfl ⟨by decide, by decide⟩ ⟨(by dsimp only [rm_X4_init, rm_X9_init]; omega), (by dsimp only [rm_X4_init, rm_X9_init]; omega)⟩ hl.1 rfl (by simp [cat_rf, cat_i, cat_j, cat_r]) dX9_init_63 (fun rv h13 H locs hq M => ?_)
      obtain ⟨rfl, hs⟩ := hq
      refine W.eq (g2 := F0 m 66 ls [.ref q11, .int x9, va_rf v10]) rfl ?_
      obtain ⟨h14, g_h14, hs⟩ := bdP hs
      refine ro_sR (k := 4) (by decide) rfl (ci := 4) rfl (by decide) F M g_h14 dX9_init_66 (fun H locs M => ?_)
      refine lv_iinc (v := x9 + 1) (lv' := [(7, .int (x9 + 1)), (0, .ref th)]) hx hb dX9_init_67 hl (k := 1) rfl rfl (by decide) rfl (fun ls hl => ?_)
      refine lv_goto (tgt := 47) hx hb dX9_init_70 (by decide) ?_
      refine W.cs (cells' := c0 + (i + 1) * 18) (slots' := s0 + (i + 1) * 195) (by dsimp only [rm_X4_init, rm_X9_init]; omega) (by dsimp only [rm_X4_init, rm_X9_init]; omega) ?_
      exact ih (i + 1) _ _ _ _ _ (by rw [hx9]; exact nI_1 i) hi hs (lv_sub hl [1, 0] rfl) M kx
set_option maxHeartbeats 4000000 in
set_option maxRecDepth 100000 in
theorem cP_X9_init {l : Launch} {D : va_G} {cy : Nat → ClassId} {sz N : Nat} {h : IH} {th : Nat} {a0 : Int32} {a1 : Int32} {a2 : Int32} {a3 : Int32} {a4 : Int64} {P : IH → Prop} (hs : s_X9_initP N h th a0 a1 a2 a3 a4 P) : CtP l D cy yX9_init cX9_init 8 none rm_X9_init h sz [.ref th, .int a0, .int a1, .int a2, .int a3, .long a4] (fun rv h9 => rv = none ∧ P h9) := by
  refine ct_startP (by decide +kernel) [(0, .ref th), (1, .int a0), (2, .int a1), (3, .int a2), (4, .int a3), (5, .long a4)] (Nat.le_of_ble_eq_true rfl) rfl ?_
  intro p e s m args below meth c A H0 ls F hin hAO hsz M hl
  obtain ⟨hx, hb, hr, hml, hown, hlk, hts, hK, hN, hA, hH⟩ := id F
  generalize s.heap = H at M ⊢
  generalize ([] : List Loc) = locs at M ⊢
  unfold s_X9_initP at hs
  refine lv_aload_n hx hb dX9_init_0 rfl (lv_at hl 0 rfl) ?_
  refine W.objInit hx hb hown (hts _ (List.mem_cons_of_mem _ t_416)) (hts _ (List.mem_cons_of_mem _ t_27)) (hts _ (List.mem_cons_of_mem _ t_28)) rfl (by rw [hml]; exact hl.1) rfl dX9_init_1 (Nat.le_of_ble_eq_true rfl) (Nat.le_of_ble_eq_true rfl) ?_
  refine W.eq (g2 := F0 m 4 ls []) rfl ?_
  refine lv_aload_n hx hb dX9_init_4 rfl (lv_at hl 0 rfl) ?_
  refine lv_iconst (v := 3) hx hb dX9_init_5 (by decide) ?_
  refine ro_newR (k := 4) (N' := 3) (by decide) rfl F M t_417 hAO.2.1 (by decide) (by decide) (by decide) (by decide) (by decide) dX9_init_6 (fun q1 H k_q1 M => ?_)
  obtain ⟨h2, e_h2⟩ : ∃ z, z = newA h 4 3 q1 := ⟨_, rfl⟩
  rw [← e_h2] at M
  have hs := hs q1 h2 k_q1 e_h2
  obtain ⟨h3, g_h3, hs⟩ := bdP hs
  refine ro_pAF F (hin rfl) M fg_9_5 fp_9_5 rfl rfl t_432 g_h3 dX9_init_9 (fun H locs M => ?_)
  refine lv_aload_n hx hb dX9_init_12 rfl (lv_at hl 0 rfl) ?_
  refine lv_iconst (v := (-1)) hx hb dX9_init_13 (by decide) ?_
  obtain ⟨h4, g_h4, hs⟩ := bdP hs
  refine ro_pI F M fg_9_6 fp_9_6 rfl t_433 g_h4 dX9_init_14 (fun H locs M => ?_)
  refine lv_aload_n hx hb dX9_init_17 rfl (lv_at hl 0 rfl) ?_
  refine lv_iload_n hx hb dX9_init_18 rfl (lv_at hl 1 rfl) ?_
  obtain ⟨h5, g_h5, hs⟩ := bdP hs
  refine ro_pIF F (hin rfl) M fg_9_0 fp_9_0 rfl rfl t_420 g_h5 dX9_init_19 (fun H locs M => ?_)
  refine lv_aload_n hx hb dX9_init_22 rfl (lv_at hl 0 rfl) ?_
  refine lv_iload_n hx hb dX9_init_23 rfl (lv_at hl 2 rfl) ?_
  obtain ⟨h6, g_h6, hs⟩ := bdP hs
  refine ro_pIF F (hin rfl) M fg_9_1 fp_9_1 rfl rfl t_424 g_h6 dX9_init_24 (fun H locs M => ?_)
  refine lv_aload_n hx hb dX9_init_27 rfl (lv_at hl 0 rfl) ?_
  refine lv_iload_n hx hb dX9_init_28 rfl (lv_at hl 3 rfl) ?_
  obtain ⟨h7, g_h7, hs⟩ := bdP hs
  refine ro_pIF F (hin rfl) M fg_9_2 fp_9_2 rfl rfl t_427 g_h7 dX9_init_29 (fun H locs M => ?_)
  refine lv_aload_n hx hb dX9_init_32 rfl (lv_at hl 0 rfl) ?_
  refine lv_iload hx hb dX9_init_33 (lv_at hl 4 rfl) ?_
  obtain ⟨h8, g_h8, hs⟩ := bdP hs
  refine ro_pIF F (hin rfl) M fg_9_3 fp_9_3 rfl rfl t_428 g_h8 dX9_init_35 (fun H locs M => ?_)
  refine lv_aload_n hx hb dX9_init_38 rfl (lv_at hl 0 rfl) ?_
  refine lv_lload hx hb dX9_init_39 (lv_at hl 5 rfl) ?_
  obtain ⟨h9, g_h9, hs⟩ := bdP hs
  refine ro_pLF F (hin rfl) M fg_9_4 fp_9_4 rfl rfl t_429 g_h9 dX9_init_41 (fun H locs M => ?_)
  refine lv_iconst (v := 0) hx hb dX9_init_44 (by decide) ?_
  refine lv_istore (i := 7) (lv' := [(7, .int 0), (0, .ref th), (1, .int a0), (2, .int a1), (3, .int a2), (4, .int a3), (5, .long a4)]) hx hb dX9_init_45 hl (by decide) rfl (fun ls hl => ?_)
  refine W.cs (cells' := 1 + 0 * 18) (slots' := 3 + 0 * 195) rfl rfl ?_
  refine w_X9_init_L47 (c0 := 1) (s0 := 3) (by decide) (by decide) F hAO N 0 0 _ _ _ _ rfl (by decide) hs (lv_sub hl [1, 0] rfl) M (fun h15 ls H locs hs hl M => ?_)
  refine W.widen (k := 55) (n := 588) (by decide) (by decide) ?_
  exact re_vP F M ⟨rfl, hs⟩ dX9_init_73
abbrev rm_X11_station : Room := { frames := 4, cells := 56, slots := 597, locals := 88 }
theorem mf_X11_station : MV 11 yX11_station cX11_station 7 (some .int) 4 RX11 := ⟨t_392, t_390, t_391, t_1, ⟨by decide +kernel, by decide +kernel, by decide +kernel⟩, rfl, by decide⟩
def s_X11_stationP (N : Nat) (h : IH) (th : Nat) (a0 : Int32) (a1 : Int32) (a2 : Int32) (a3 : Int32) (P : Int32 → IH → Prop) : Prop := bP (gR h 11 0 (some th)) fun v1 => bP (gR h 11 0 (some th)) fun v2 => bP (gI h 10 1 v2) fun v3 => bP (cV h 10 v1 fun a31 => s_X10_callBetween N h a31 0 v3) fun v4 => bP (gR h 11 0 (some th)) fun v5 => bP (pI h 10 1 v5 0) fun h6 => bP (s_X11_isBelow h6 a0 5) fun v7 => if v7 = 0 then P (-1) h6 else bP (s_X11_isBelow h6 a1 40) fun v9 => if v9 = 0 then P (-1) h6 else bP (s_X11_isBelow h6 a2 100) fun v11 => if v11 = 0 then P (-1) h6 else bP (s_X11_isBelow h6 a3 100) fun v13 => if v13 = 0 then P (-1) h6 else if (lg_cmp v4 0) = 0 then P (-2) h6 else bP (gR h6 11 1 (some th)) fun v16 => bP (cV h6 7 v16 fun a30 => s_X7_numberOf N h6 a30 v4) fun v17 => if v17 = (-1) then bP (gR h6 11 1 (some th)) fun v19 => bP (gI h6 7 1 v19) fun v20 => if v20 < 12 then bP (gR h6 11 4 (some th)) fun v22 => bP (pZ h6 0 4 v22 0) fun h23 => bP (gR h23 11 1 (some th)) fun v24 => ∀ (q25 : Nat) (h26 : IH), kd h23 q25 = 0 → h26 = newO h23 9 q25 → s_X9_initP N h26 q25 a0 a1 a2 a3 v4 (fun h27 => bP (cV h27 7 v24 fun a29 => s_X7_add h27 a29 (some q25)) fun v28 => P v28.1 v28.2) else P (-4) h6 else P (-3) h6
set_option maxHeartbeats 4000000 in
set_option maxRecDepth 100000 in
theorem cP_X11_station {l : Launch} {D : va_G} {cy : Nat → ClassId} {sz N : Nat} {h : IH} {th : Nat} {a0 : Int32} {a1 : Int32} {a2 : Int32} {a3 : Int32} {P : Int32 → IH → Prop} (hs : s_X11_stationP N h th a0 a1 a2 a3 P) : CtP l D cy yX11_station cX11_station 7 (some .int) rm_X11_station h sz [.ref th, .int a0, .int a1, .int a2, .int a3] (fun rv h9 => ∃ r9 : Int32, rv = some (.int r9) ∧ P r9 h9) := by
  refine ct_startP (by decide +kernel) [(0, .ref th), (1, .int a0), (2, .int a1), (3, .int a2), (4, .int a3)] (Nat.le_of_ble_eq_true rfl) rfl ?_
  intro p e s m args below meth c A H0 ls F hin hAO hsz M hl
  obtain ⟨hx, hb, hr, hml, hown, hlk, hts, hK, hN, hA, hH⟩ := id F
  generalize s.heap = H at M ⊢
  generalize ([] : List Loc) = locs at M ⊢
  unfold s_X11_stationP at hs
  refine lv_aload_n hx hb dX11_station_0 rfl (lv_at hl 0 rfl) ?_
  obtain ⟨v1, g_v1, hs⟩ := bdP hs
  refine ro_gR F M fg_11_0 t_330 g_v1 dX11_station_1 ?_
  refine lv_iconst (v := 0) hx hb dX11_station_4 (by decide) ?_
  refine lv_aload_n hx hb dX11_station_5 rfl (lv_at hl 0 rfl) ?_
  obtain ⟨v2, g_v2, hs⟩ := bdP hs
  refine ro_gR F M fg_11_0 t_330 g_v2 dX11_station_6 ?_
  obtain ⟨v3, g_v3, hs⟩ := bdP hs
  refine ro_gIN F M fg_10_1 tN_39 g_v3 dX11_station_9 ?_
  obtain ⟨v4, g_v4, hs⟩ := bdP hs
  obtain ⟨a31, e_a31, k_a31, g_v4⟩ := cV_some g_v4
  refine ca_VNl (bq := a31) (As := [.int 0, .int v3]) (rest := []) F M (c_X10_callBetween g_v4) mf_X10_callBetween tN_393 k_a31 rfl ⟨by decide, by decide⟩ ⟨rfl, rfl⟩ ⟨by decide, by decide⟩ hl.1 (by rw [e_a31]; rfl) (by decide) dX11_station_12 (fun H locs M => ?_)
  refine lv_lstore (i := 5) (lv' := [(5, .long v4), (0, .ref th), (1, .int a0), (2, .int a1), (3, .int a2), (4, .int a3)]) hx hb dX11_station_15 hl (by decide) rfl (fun ls hl => ?_)
  refine lv_aload_n hx hb dX11_station_17 rfl (lv_at hl 1 rfl) ?_
  obtain ⟨v5, g_v5, hs⟩ := bdP hs
  refine ro_gR F M fg_11_0 t_330 g_v5 dX11_station_18 ?_
  refine lv_iconst (v := 0) hx hb dX11_station_21 (by decide) ?_
  obtain ⟨h6, g_h6, hs⟩ := bdP hs
  refine ro_pIN F M fg_10_1 fp_10_1 rfl tN_39 g_h6 dX11_station_22 (fun H locs M => ?_)
  refine lv_iload_n hx hb dX11_station_25 rfl (lv_at hl 2 rfl) ?_
  refine lv_iconst (v := 5) hx hb dX11_station_26 (by decide) ?_
  obtain ⟨v7, g_v7, hs⟩ := bdP hs
  refine ca_Si (As := [.int a0, .int 5]) (rest := []) F M (c_X11_isBelow g_v7) mf_X11_isBelow t_404 rfl ⟨by decide, by decide⟩ ⟨rfl, rfl⟩ ⟨by decide, by decide⟩ hl.1 rfl (by decide) dX11_station_27 (fun H locs M => ?_)
  refine lv_if_eq (tgt := 61) hx hb dX11_station_30 (by decide) (fun c8 => ?_) (fun c8 => ?_)
  · rw [if_pos c8] at hs
    refine lv_iconst (v := (-1)) hx hb dX11_station_61 (by decide) ?_
    refine W.widen (k := 56) (n := 597) (by decide) (by decide) ?_
    exact re_iP F M ⟨_, rfl, hs⟩ dX11_station_62
  · rw [if_neg c8] at hs
    refine lv_iload_n hx hb dX11_station_33 rfl (lv_at hl 3 rfl) ?_
    refine lv_bipush (v := 40) hx hb dX11_station_34 (by decide) ?_
    obtain ⟨v9, g_v9, hs⟩ := bdP hs
    refine ca_Si (As := [.int a1, .int 40]) (rest := []) F M (c_X11_isBelow g_v9) mf_X11_isBelow t_404 rfl ⟨by decide, by decide⟩ ⟨rfl, rfl⟩ ⟨by decide, by decide⟩ hl.1 rfl (by decide) dX11_station_36 (fun H locs M => ?_)
    refine lv_if_eq (tgt := 61) hx hb dX11_station_39 (by decide) (fun c10 => ?_) (fun c10 => ?_)
    · rw [if_pos c10] at hs
      refine lv_iconst (v := (-1)) hx hb dX11_station_61 (by decide) ?_
      refine W.widen (k := 56) (n := 597) (by decide) (by decide) ?_
      exact re_iP F M ⟨_, rfl, hs⟩ dX11_station_62
    · rw [if_neg c10] at hs
      refine lv_iload_n hx hb dX11_station_42 rfl (lv_at hl 4 rfl) ?_
      refine lv_bipush (v := 100) hx hb dX11_station_43 (by decide) ?_
      obtain ⟨v11, g_v11, hs⟩ := bdP hs
      refine ca_Si (As := [.int a2, .int 100]) (rest := []) F M (c_X11_isBelow g_v11) mf_X11_isBelow t_404 rfl ⟨by decide, by decide⟩ ⟨rfl, rfl⟩ ⟨by decide, by decide⟩ hl.1 rfl (by decide) dX11_station_45 (fun H locs M => ?_)
      refine lv_if_eq (tgt := 61) hx hb dX11_station_48 (by decide) (fun c12 => ?_) (fun c12 => ?_)
      · rw [if_pos c12] at hs
        refine lv_iconst (v := (-1)) hx hb dX11_station_61 (by decide) ?_
        refine W.widen (k := 56) (n := 597) (by decide) (by decide) ?_
        exact re_iP F M ⟨_, rfl, hs⟩ dX11_station_62
      · rw [if_neg c12] at hs
        refine lv_iload hx hb dX11_station_51 (lv_at hl 5 rfl) ?_
        refine lv_bipush (v := 100) hx hb dX11_station_53 (by decide) ?_
        obtain ⟨v13, g_v13, hs⟩ := bdP hs
        refine ca_Si (As := [.int a3, .int 100]) (rest := []) F M (c_X11_isBelow g_v13) mf_X11_isBelow t_404 rfl ⟨by decide, by decide⟩ ⟨rfl, rfl⟩ ⟨by decide, by decide⟩ hl.1 rfl (by decide) dX11_station_55 (fun H locs M => ?_)
        refine lv_if_ne (tgt := 63) hx hb dX11_station_58 (by decide) (fun c14 => ?_) (fun c14 => ?_)
        · rw [if_neg c14] at hs
          refine lv_lload hx hb dX11_station_63 (lv_at hl 0 rfl) ?_
          refine lv_lconst (v := 0) hx hb dX11_station_65 (by decide) ?_
          refine W.lcmp hx hb dX11_station_66 ?_
          refine lv_if_ne (tgt := 73) hx hb dX11_station_67 (by decide) (fun c15 => ?_) (fun c15 => ?_)
          · rw [if_neg c15] at hs
            refine lv_aload_n hx hb dX11_station_73 rfl (lv_at hl 1 rfl) ?_
            obtain ⟨v16, g_v16, hs⟩ := bdP hs
            refine ro_gR F M fg_11_1 t_331 g_v16 dX11_station_74 ?_
            refine lv_lload hx hb dX11_station_77 (lv_at hl 0 rfl) ?_
            obtain ⟨v17, g_v17, hs⟩ := bdP hs
            obtain ⟨a30, e_a30, k_a30, g_v17⟩ := cV_some g_v17
            refine ca_VNi (bq := a30) (As := [.long v4]) (rest := []) F M (c_X7_numberOf g_v17) mf_X7_numberOf tN_407 k_a30 rfl ⟨by decide, by decide⟩ ⟨rfl, rfl⟩ ⟨by decide, by decide⟩ hl.1 (by rw [e_a30]; rfl) (by decide) dX11_station_79 (fun H locs M => ?_)
            refine lv_iconst (v := (-1)) hx hb dX11_station_82 (by decide) ?_
            refine lv_icmp_eq (tgt := 89) hx hb dX11_station_83 (by decide) (fun c18 => ?_) (fun c18 => ?_)
            · rw [if_pos c18] at hs
              refine lv_aload_n hx hb dX11_station_89 rfl (lv_at hl 1 rfl) ?_
              obtain ⟨v19, g_v19, hs⟩ := bdP hs
              refine ro_gR F M fg_11_1 t_331 g_v19 dX11_station_90 ?_
              obtain ⟨v20, g_v20, hs⟩ := bdP hs
              refine ro_gIN F M fg_7_1 tN_72 g_v20 dX11_station_93 ?_
              refine lv_bipush (v := 12) hx hb dX11_station_96 (by decide) ?_
              refine lv_icmp_lt (tgt := 104) hx hb dX11_station_98 (by decide) (fun c21 => ?_) (fun c21 => ?_)
              · rw [if_pos c21] at hs
                refine lv_aload_n hx hb dX11_station_104 rfl (lv_at hl 1 rfl) ?_
                obtain ⟨v22, g_v22, hs⟩ := bdP hs
                refine ro_gR F M fg_11_4 t_334 g_v22 dX11_station_105 ?_
                refine lv_iconst (v := 0) hx hb dX11_station_108 (by decide) ?_
                obtain ⟨h23, g_h23, hs⟩ := bdP hs
                refine ro_pZN F M fg_0_4 fp_0_4 rfl tN_300 g_h23 dX11_station_109 (fun H locs M => ?_)
                refine lv_aload_n hx hb dX11_station_112 rfl (lv_at hl 1 rfl) ?_
                obtain ⟨v24, g_v24, hs⟩ := bdP hs
                refine ro_gR F M fg_11_1 t_331 g_v24 dX11_station_113 ?_
                refine ro_new F M nf_9 t_411 (by decide) (by decide) dX11_station_116 (fun q25 H k_q25 M => ?_)
                obtain ⟨h26, e_h26⟩ : ∃ z, z = newO h23 9 q25 := ⟨_, rfl⟩
                rw [← e_h26] at M
                have hs := hs q25 h26 k_q25 e_h26
                refine lv_dup hx hb dX11_station_119 rfl ?_
                refine lv_iload_n hx hb dX11_station_120 rfl (lv_at hl 2 rfl) ?_
                refine lv_iload_n hx hb dX11_station_121 rfl (lv_at hl 3 rfl) ?_
                refine lv_iload_n hx hb dX11_station_122 rfl (lv_at hl 4 rfl) ?_
                refine lv_iload hx hb dX11_station_123 (lv_at hl 5 rfl) ?_
                refine lv_lload hx hb dX11_station_125 (lv_at hl 0 rfl) ?_
                refine ca_INP (bq := q25) (As := [.int a0, .int a1, .int a2, .int a3, .long v4]) (rest := [.ref q25, va_rf v24]) F hAO M (cP_X9_init hs) mi_X9_init tN_413 rfl ⟨by decide, by decide⟩ ⟨(by decide), (by decide)⟩ hl.1 rfl (by simp [cat_rf, cat_i, cat_j, cat_r]) dX11_station_127 (fun rv h27 H locs hq M => ?_)
                obtain ⟨rfl, hs⟩ := hq
                refine W.eq (g2 := F0 m 130 ls [.ref q25, va_rf v24]) rfl ?_
                obtain ⟨v28, g_v28, hs⟩ := bdP hs
                obtain ⟨a29, e_a29, k_a29, g_v28⟩ := cV_some g_v28
                refine ca_VNi (bq := a29) (As := [.ref q25]) (rest := []) F M (c_X7_add g_v28) mf_X7_add tN_459 k_a29 rfl ⟨by decide, by decide⟩ ⟨rfl, rfl⟩ ⟨by decide, by decide⟩ hl.1 (by rw [e_a29]; rfl) (by decide) dX11_station_130 (fun H locs M => ?_)
                refine W.widen (k := 56) (n := 597) (by decide) (by decide) ?_
                exact re_iP F M ⟨_, rfl, hs⟩ dX11_station_133
              · rw [if_neg c21] at hs
                refine lv_bipush (v := (-4)) hx hb dX11_station_101 (by decide) ?_
                refine W.widen (k := 56) (n := 597) (by decide) (by decide) ?_
                exact re_iP F M ⟨_, rfl, hs⟩ dX11_station_103
            · rw [if_neg c18] at hs
              refine lv_bipush (v := (-3)) hx hb dX11_station_86 (by decide) ?_
              refine W.widen (k := 56) (n := 597) (by decide) (by decide) ?_
              exact re_iP F M ⟨_, rfl, hs⟩ dX11_station_88
          · rw [if_pos c15] at hs
            refine lv_bipush (v := (-2)) hx hb dX11_station_70 (by decide) ?_
            refine W.widen (k := 56) (n := 597) (by decide) (by decide) ?_
            exact re_iP F M ⟨_, rfl, hs⟩ dX11_station_72
        · rw [if_pos c14] at hs
          refine lv_iconst (v := (-1)) hx hb dX11_station_61 (by decide) ?_
          refine W.widen (k := 56) (n := 597) (by decide) (by decide) ?_
          exact re_iP F M ⟨_, rfl, hs⟩ dX11_station_62
abbrev rm_X12_init : Room := { frames := 1, cells := 37, slots := 11153, locals := 20 }
theorem mi_X12_init : MI yX12_init cX12_init 2 0 := ⟨t_1004, t_1003, rfl, t_12, ⟨by decide +kernel, by decide +kernel, by decide +kernel⟩⟩
def s_X12_init_L326 (N : Nat) : Nat → Nat → Int32 → IH → Option (IH)
  | 0, _, _, _ => none
  | n + 1, th, x1, h => if 36 ≤ x1 then some h else (gR h 12 9 (some th)).bind fun v115 => (sI h v115 x1 (-1)).bind fun h116 => s_X12_init_L326 N n th (x1 + 1) h116
def s_X12_initP (N : Nat) (h : IH) (th : Nat) (P : IH → Prop) : Prop := ∀ (q1 : Nat) (h2 : IH), kd h q1 = 0 → h2 = newA h 0 12 q1 → bP (pR h2 12 2 (some th) (some q1)) fun h3 => ∀ (q4 : Nat) (h5 : IH), kd h3 q4 = 0 → h5 = newA h3 0 12 q4 → bP (pR h5 12 3 (some th) (some q4)) fun h6 => ∀ (q7 : Nat) (h8 : IH), kd h6 q7 = 0 → h8 = newA h6 0 12 q7 → bP (pR h8 12 4 (some th) (some q7)) fun h9 => ∀ (q10 : Nat) (h11 : IH), kd h9 q10 = 0 → h11 = newA h9 0 12 q10 → bP (pR h11 12 5 (some th) (some q10)) fun h12 => ∀ (q13 : Nat) (h14 : IH), kd h12 q13 = 0 → h14 = newA h12 0 12 q13 → bP (pR h14 12 6 (some th) (some q13)) fun h15 => ∀ (q16 : Nat) (h17 : IH), kd h15 q16 = 0 → h17 = newA h15 0 72 q16 → bP (pR h17 12 7 (some th) (some q16)) fun h18 => ∀ (q19 : Nat) (h20 : IH), kd h18 q19 = 0 → h20 = newA h18 0 12 q19 → bP (pR h20 12 8 (some th) (some q19)) fun h21 => ∀ (q22 : Nat) (h23 : IH), kd h21 q22 = 0 → h23 = newA h21 0 36 q22 → bP (pR h23 12 9 (some th) (some q22)) fun h24 => ∀ (q25 : Nat) (h26 : IH), kd h24 q25 = 0 → h26 = newA h24 0 576 q25 → bP (pR h26 12 10 (some th) (some q25)) fun h27 => ∀ (q28 : Nat) (h29 : IH), kd h27 q28 = 0 → h29 = newA h27 1 576 q28 → bP (pR h29 12 11 (some th) (some q28)) fun h30 => ∀ (q31 : Nat) (h32 : IH), kd h30 q31 = 0 → h32 = newA h30 1 576 q31 → bP (pR h32 12 12 (some th) (some q31)) fun h33 => ∀ (q34 : Nat) (h35 : IH), kd h33 q34 = 0 → h35 = newA h33 0 576 q34 → bP (pR h35 12 13 (some th) (some q34)) fun h36 => ∀ (q37 : Nat) (h38 : IH), kd h36 q37 = 0 → h38 = newA h36 0 3456 q37 → bP (pR h38 12 14 (some th) (some q37)) fun h39 => ∀ (q40 : Nat) (h41 : IH), kd h39 q40 = 0 → h41 = newA h39 0 576 q40 → bP (pR h41 12 15 (some th) (some q40)) fun h42 => ∀ (q43 : Nat) (h44 : IH), kd h42 q43 = 0 → h44 = newA h42 0 576 q43 → bP (pR h44 12 16 (some th) (some q43)) fun h45 => ∀ (q46 : Nat) (h47 : IH), kd h45 q46 = 0 → h47 = newA h45 0 576 q46 → bP (pR h47 12 18 (some th) (some q46)) fun h48 => ∀ (q49 : Nat) (h50 : IH), kd h48 q49 = 0 → h50 = newA h48 0 576 q49 → bP (pR h50 12 19 (some th) (some q49)) fun h51 => ∀ (q52 : Nat) (h53 : IH), kd h51 q52 = 0 → h53 = newA h51 1 12 q52 → bP (pR h53 12 20 (some th) (some q52)) fun h54 => bP (pI h54 12 21 (some th) 60) fun h55 => bP (pI h55 12 23 (some th) 1) fun h56 => ∀ (q57 : Nat) (h58 : IH), kd h56 q57 = 0 → h58 = newA h56 0 30 q57 → bP (pR h58 12 24 (some th) (some q57)) fun h59 => ∀ (q60 : Nat) (h61 : IH), kd h59 q60 = 0 → h61 = newA h59 0 30 q60 → bP (pR h61 12 25 (some th) (some q60)) fun h62 => ∀ (q63 : Nat) (h64 : IH), kd h62 q63 = 0 → h64 = newA h62 0 30 q63 → bP (pR h64 12 26 (some th) (some q63)) fun h65 => ∀ (q66 : Nat) (h67 : IH), kd h65 q66 = 0 → h67 = newA h65 0 30 q66 → bP (pR h67 12 27 (some th) (some q66)) fun h68 => ∀ (q69 : Nat) (h70 : IH), kd h68 q69 = 0 → h70 = newA h68 0 1000 q69 → bP (pR h70 12 28 (some th) (some q69)) fun h71 => ∀ (q72 : Nat) (h73 : IH), kd h71 q72 = 0 → h73 = newA h71 0 1000 q72 → bP (pR h73 12 31 (some th) (some q72)) fun h74 => ∀ (q75 : Nat) (h76 : IH), kd h74 q75 = 0 → h76 = newA h74 0 20 q75 → bP (pR h76 12 33 (some th) (some q75)) fun h77 => ∀ (q78 : Nat) (h79 : IH), kd h77 q78 = 0 → h79 = newA h77 0 20 q78 → bP (pR h79 12 34 (some th) (some q78)) fun h80 => ∀ (q81 : Nat) (h82 : IH), kd h80 q81 = 0 → h82 = newA h80 0 240 q81 → bP (pR h82 12 35 (some th) (some q81)) fun h83 => ∀ (q84 : Nat) (h85 : IH), kd h83 q84 = 0 → h85 = newA h83 0 9 q84 → bP (pR h85 12 51 (some th) (some q84)) fun h86 => ∀ (q87 : Nat) (h88 : IH), kd h86 q87 = 0 → h88 = newA h86 0 16 q87 → bP (pR h88 12 59 (some th) (some q87)) fun h89 => ∀ (q90 : Nat) (h91 : IH), kd h89 q90 = 0 → h91 = newA h89 0 16 q90 → bP (pR h91 12 60 (some th) (some q90)) fun h92 => ∀ (q93 : Nat) (h94 : IH), kd h92 q93 = 0 → h94 = newA h92 1 256 q93 → bP (pR h94 12 61 (some th) (some q93)) fun h95 => ∀ (q96 : Nat) (h97 : IH), kd h95 q96 = 0 → h97 = newA h95 2 16 q96 → bP (pR h97 12 62 (some th) (some q96)) fun h98 => ∀ (q99 : Nat) (h100 : IH), kd h98 q99 = 0 → h100 = newA h98 0 16 q99 → bP (pR h100 12 63 (some th) (some q99)) fun h101 => ∀ (q102 : Nat) (h103 : IH), kd h101 q102 = 0 → h103 = newA h101 0 16 q102 → bP (pR h103 12 64 (some th) (some q102)) fun h104 => ∀ (q105 : Nat) (h106 : IH), kd h104 q105 = 0 → h106 = newA h104 1 16 q105 → bP (pR h106 12 65 (some th) (some q105)) fun h107 => ∀ (q108 : Nat) (h109 : IH), kd h107 q108 = 0 → h109 = newA h107 0 16 q108 → bP (pR h109 12 66 (some th) (some q108)) fun h110 => ∀ (q111 : Nat) (h112 : IH), kd h110 q111 = 0 → h112 = newA h110 2 120 q111 → bP (pR h112 12 69 (some th) (some q111)) fun h113 => bP (s_X12_init_L326 N N th 0 h113) fun q117 => bP (gR q117 12 24 (some th)) fun v118 => bP (sI q117 v118 0 10) fun h119 => bP (gR h119 12 25 (some th)) fun v120 => bP (sI h119 v120 0 1) fun h121 => P h121
set_option maxHeartbeats 4000000 in
set_option maxRecDepth 100000 in
theorem w_X12_init_L326 {p : Program} {l : Launch} {e : Env} {s : State} {m : MethodId} {args : Array Value} {below : List Frame} {meth : Method} {c : Code} {D : va_G} {cy : Nat → ClassId} {A : Nat → Prop} {H0 : Heap} {N th : Nat} {Q : State → Prop} {cells slots : Nat} (F : Fx p s m args meth c D cy A H0 yX12_init cX12_init 2 none) : ∀ (n : Nat) (x1 : Int32) (h : IH) (ls : Array Slot) (H : Heap) (locs : List Loc) (q : IH), s_X12_init_L326 N n th x1 h = some q → lv_has ls 2 [(0, .ref th), (1, .int x1)] → Mo D cy A H0 h H locs → (∀ (t : IH) (ls : Array Slot) (H : Heap) (locs : List Loc), q = t → lv_has ls 2 [(0, .ref th)] → Mo D cy A H0 t H locs → W p l e rm_X12_init s m args below meth c H locs cells slots Q (F0 m 345 ls [])) → W p l e rm_X12_init s m args below meth c H locs cells slots Q (F0 m 326 ls []) := by
  intro n
  induction n with
  | zero => intro x1 h ls H locs q hs; rw [s_X12_init_L326.eq_1] at hs; cases hs
  | succ n ih =>
    intro x1 h ls H locs q hs hl M kx
    obtain ⟨hx, hb, hr, hml, hown, hlk, hts, hK, hN, hA, hH⟩ := id F
    rw [s_X12_init_L326.eq_2] at hs
    refine lv_iload_n hx hb dX12_init_326 rfl (lv_at hl 1 rfl) ?_
    refine lv_bipush (v := 36) hx hb dX12_init_327 (by decide) ?_
    refine lv_icmp_ge (tgt := 345) hx hb dX12_init_329 (by decide) (fun c114 => ?_) (fun c114 => ?_)
    · rw [if_pos c114] at hs
      exact kx h _ _ _ (Option.some.inj hs).symm (lv_sub hl [0] rfl) M
    · rw [if_neg c114] at hs
      refine lv_aload_n hx hb dX12_init_332 rfl (lv_at hl 0 rfl) ?_
      obtain ⟨v115, g_v115, hs⟩ := bd hs
      refine ro_gR F M fg_12_9 t_1015 g_v115 dX12_init_333 ?_
      refine lv_iload_n hx hb dX12_init_336 rfl (lv_at hl 1 rfl) ?_
      refine lv_iconst (v := (-1)) hx hb dX12_init_337 (by decide) ?_
      obtain ⟨h116, g_h116, hs⟩ := bd hs
      refine ro_sI F M g_h116 dX12_init_338 (fun H locs M => ?_)
      refine lv_iinc (v := x1 + 1) (lv' := [(1, .int (x1 + 1)), (0, .ref th)]) hx hb dX12_init_339 hl (k := 1) rfl rfl (by decide) rfl (fun ls hl => ?_)
      refine lv_goto (tgt := 326) hx hb dX12_init_342 (by decide) ?_
      exact ih (x1 + 1) h116 _ _ _ _ hs (lv_sub hl [1, 0] rfl) M kx
set_option maxHeartbeats 4000000 in
set_option maxRecDepth 100000 in
theorem cP_X12_init {l : Launch} {D : va_G} {cy : Nat → ClassId} {sz N : Nat} {h : IH} {th : Nat} {P : IH → Prop} (hs : s_X12_initP N h th P) : CtP l D cy yX12_init cX12_init 2 none rm_X12_init h sz [.ref th] (fun rv h9 => rv = none ∧ P h9) := by
  refine ct_startP (by decide +kernel) [(0, .ref th)] (Nat.le_of_ble_eq_true rfl) rfl ?_
  intro p e s m args below meth c A H0 ls F hin hAO hsz M hl
  obtain ⟨hx, hb, hr, hml, hown, hlk, hts, hK, hN, hA, hH⟩ := id F
  generalize s.heap = H at M ⊢
  generalize ([] : List Loc) = locs at M ⊢
  unfold s_X12_initP at hs
  refine lv_aload_n hx hb dX12_init_0 rfl (lv_at hl 0 rfl) ?_
  refine W.objInit hx hb hown (hts _ (List.mem_cons_of_mem _ t_1005)) (hts _ (List.mem_cons_of_mem _ t_27)) (hts _ (List.mem_cons_of_mem _ t_28)) rfl (by rw [hml]; exact hl.1) rfl dX12_init_1 (Nat.le_of_ble_eq_true rfl) (Nat.le_of_ble_eq_true rfl) ?_
  refine W.eq (g2 := F0 m 4 ls []) rfl ?_
  refine lv_aload_n hx hb dX12_init_4 rfl (lv_at hl 0 rfl) ?_
  refine lv_bipush (v := 12) hx hb dX12_init_5 (by decide) ?_
  refine ro_newI (N' := 12) F M t_59 (by decide) (by decide) (by decide) (by decide) (by decide) dX12_init_7 (fun q1 H k_q1 M => ?_)
  obtain ⟨h2, e_h2⟩ : ∃ z, z = newA h 0 12 q1 := ⟨_, rfl⟩
  rw [← e_h2] at M
  have hs := hs q1 h2 k_q1 e_h2
  obtain ⟨h3, g_h3, hs⟩ := bdP hs
  refine ro_pAF F (hin rfl) M fg_12_2 fp_12_2 rfl rfl t_1008 g_h3 dX12_init_9 (fun H locs M => ?_)
  refine lv_aload_n hx hb dX12_init_12 rfl (lv_at hl 0 rfl) ?_
  refine lv_bipush (v := 12) hx hb dX12_init_13 (by decide) ?_
  refine ro_newI (N' := 12) F M t_59 (by decide) (by decide) (by decide) (by decide) (by decide) dX12_init_15 (fun q4 H k_q4 M => ?_)
  obtain ⟨h5, e_h5⟩ : ∃ z, z = newA h3 0 12 q4 := ⟨_, rfl⟩
  rw [← e_h5] at M
  have hs := hs q4 h5 k_q4 e_h5
  obtain ⟨h6, g_h6, hs⟩ := bdP hs
  refine ro_pAF F (hin rfl) M fg_12_3 fp_12_3 rfl rfl t_1009 g_h6 dX12_init_17 (fun H locs M => ?_)
  refine lv_aload_n hx hb dX12_init_20 rfl (lv_at hl 0 rfl) ?_
  refine lv_bipush (v := 12) hx hb dX12_init_21 (by decide) ?_
  refine ro_newI (N' := 12) F M t_59 (by decide) (by decide) (by decide) (by decide) (by decide) dX12_init_23 (fun q7 H k_q7 M => ?_)
  obtain ⟨h8, e_h8⟩ : ∃ z, z = newA h6 0 12 q7 := ⟨_, rfl⟩
  rw [← e_h8] at M
  have hs := hs q7 h8 k_q7 e_h8
  obtain ⟨h9, g_h9, hs⟩ := bdP hs
  refine ro_pAF F (hin rfl) M fg_12_4 fp_12_4 rfl rfl t_1010 g_h9 dX12_init_25 (fun H locs M => ?_)
  refine lv_aload_n hx hb dX12_init_28 rfl (lv_at hl 0 rfl) ?_
  refine lv_bipush (v := 12) hx hb dX12_init_29 (by decide) ?_
  refine ro_newI (N' := 12) F M t_59 (by decide) (by decide) (by decide) (by decide) (by decide) dX12_init_31 (fun q10 H k_q10 M => ?_)
  obtain ⟨h11, e_h11⟩ : ∃ z, z = newA h9 0 12 q10 := ⟨_, rfl⟩
  rw [← e_h11] at M
  have hs := hs q10 h11 k_q10 e_h11
  obtain ⟨h12, g_h12, hs⟩ := bdP hs
  refine ro_pAF F (hin rfl) M fg_12_5 fp_12_5 rfl rfl t_1011 g_h12 dX12_init_33 (fun H locs M => ?_)
  refine lv_aload_n hx hb dX12_init_36 rfl (lv_at hl 0 rfl) ?_
  refine lv_bipush (v := 12) hx hb dX12_init_37 (by decide) ?_
  refine ro_newI (N' := 12) F M t_59 (by decide) (by decide) (by decide) (by decide) (by decide) dX12_init_39 (fun q13 H k_q13 M => ?_)
  obtain ⟨h14, e_h14⟩ : ∃ z, z = newA h12 0 12 q13 := ⟨_, rfl⟩
  rw [← e_h14] at M
  have hs := hs q13 h14 k_q13 e_h14
  obtain ⟨h15, g_h15, hs⟩ := bdP hs
  refine ro_pAF F (hin rfl) M fg_12_6 fp_12_6 rfl rfl t_1012 g_h15 dX12_init_41 (fun H locs M => ?_)
  refine lv_aload_n hx hb dX12_init_44 rfl (lv_at hl 0 rfl) ?_
  refine lv_bipush (v := 72) hx hb dX12_init_45 (by decide) ?_
  refine ro_newI (N' := 72) F M t_59 (by decide) (by decide) (by decide) (by decide) (by decide) dX12_init_47 (fun q16 H k_q16 M => ?_)
  obtain ⟨h17, e_h17⟩ : ∃ z, z = newA h15 0 72 q16 := ⟨_, rfl⟩
  rw [← e_h17] at M
  have hs := hs q16 h17 k_q16 e_h17
  obtain ⟨h18, g_h18, hs⟩ := bdP hs
  refine ro_pAF F (hin rfl) M fg_12_7 fp_12_7 rfl rfl t_1013 g_h18 dX12_init_49 (fun H locs M => ?_)
  refine lv_aload_n hx hb dX12_init_52 rfl (lv_at hl 0 rfl) ?_
  refine lv_bipush (v := 12) hx hb dX12_init_53 (by decide) ?_
  refine ro_newI (N' := 12) F M t_59 (by decide) (by decide) (by decide) (by decide) (by decide) dX12_init_55 (fun q19 H k_q19 M => ?_)
  obtain ⟨h20, e_h20⟩ : ∃ z, z = newA h18 0 12 q19 := ⟨_, rfl⟩
  rw [← e_h20] at M
  have hs := hs q19 h20 k_q19 e_h20
  obtain ⟨h21, g_h21, hs⟩ := bdP hs
  refine ro_pAF F (hin rfl) M fg_12_8 fp_12_8 rfl rfl t_1014 g_h21 dX12_init_57 (fun H locs M => ?_)
  refine lv_aload_n hx hb dX12_init_60 rfl (lv_at hl 0 rfl) ?_
  refine lv_bipush (v := 36) hx hb dX12_init_61 (by decide) ?_
  refine ro_newI (N' := 36) F M t_59 (by decide) (by decide) (by decide) (by decide) (by decide) dX12_init_63 (fun q22 H k_q22 M => ?_)
  obtain ⟨h23, e_h23⟩ : ∃ z, z = newA h21 0 36 q22 := ⟨_, rfl⟩
  rw [← e_h23] at M
  have hs := hs q22 h23 k_q22 e_h23
  obtain ⟨h24, g_h24, hs⟩ := bdP hs
  refine ro_pAF F (hin rfl) M fg_12_9 fp_12_9 rfl rfl t_1015 g_h24 dX12_init_65 (fun H locs M => ?_)
  refine lv_aload_n hx hb dX12_init_68 rfl (lv_at hl 0 rfl) ?_
  refine lv_sipush (v := 576) hx hb dX12_init_69 (by decide) ?_
  refine ro_newI (N' := 576) F M t_59 (by decide) (by decide) (by decide) (by decide) (by decide) dX12_init_72 (fun q25 H k_q25 M => ?_)
  obtain ⟨h26, e_h26⟩ : ∃ z, z = newA h24 0 576 q25 := ⟨_, rfl⟩
  rw [← e_h26] at M
  have hs := hs q25 h26 k_q25 e_h26
  obtain ⟨h27, g_h27, hs⟩ := bdP hs
  refine ro_pAF F (hin rfl) M fg_12_10 fp_12_10 rfl rfl t_1016 g_h27 dX12_init_74 (fun H locs M => ?_)
  refine lv_aload_n hx hb dX12_init_77 rfl (lv_at hl 0 rfl) ?_
  refine lv_sipush (v := 576) hx hb dX12_init_78 (by decide) ?_
  refine ro_newJ (N' := 576) F M t_232 (by decide) (by decide) (by decide) (by decide) (by decide) dX12_init_81 (fun q28 H k_q28 M => ?_)
  obtain ⟨h29, e_h29⟩ : ∃ z, z = newA h27 1 576 q28 := ⟨_, rfl⟩
  rw [← e_h29] at M
  have hs := hs q28 h29 k_q28 e_h29
  obtain ⟨h30, g_h30, hs⟩ := bdP hs
  refine ro_pAF F (hin rfl) M fg_12_11 fp_12_11 rfl rfl t_1017 g_h30 dX12_init_83 (fun H locs M => ?_)
  refine lv_aload_n hx hb dX12_init_86 rfl (lv_at hl 0 rfl) ?_
  refine lv_sipush (v := 576) hx hb dX12_init_87 (by decide) ?_
  refine ro_newJ (N' := 576) F M t_232 (by decide) (by decide) (by decide) (by decide) (by decide) dX12_init_90 (fun q31 H k_q31 M => ?_)
  obtain ⟨h32, e_h32⟩ : ∃ z, z = newA h30 1 576 q31 := ⟨_, rfl⟩
  rw [← e_h32] at M
  have hs := hs q31 h32 k_q31 e_h32
  obtain ⟨h33, g_h33, hs⟩ := bdP hs
  refine ro_pAF F (hin rfl) M fg_12_12 fp_12_12 rfl rfl t_1018 g_h33 dX12_init_92 (fun H locs M => ?_)
  refine lv_aload_n hx hb dX12_init_95 rfl (lv_at hl 0 rfl) ?_
  refine lv_sipush (v := 576) hx hb dX12_init_96 (by decide) ?_
  refine ro_newI (N' := 576) F M t_59 (by decide) (by decide) (by decide) (by decide) (by decide) dX12_init_99 (fun q34 H k_q34 M => ?_)
  obtain ⟨h35, e_h35⟩ : ∃ z, z = newA h33 0 576 q34 := ⟨_, rfl⟩
  rw [← e_h35] at M
  have hs := hs q34 h35 k_q34 e_h35
  obtain ⟨h36, g_h36, hs⟩ := bdP hs
  refine ro_pAF F (hin rfl) M fg_12_13 fp_12_13 rfl rfl t_1019 g_h36 dX12_init_101 (fun H locs M => ?_)
  refine lv_aload_n hx hb dX12_init_104 rfl (lv_at hl 0 rfl) ?_
  refine lv_sipush (v := 3456) hx hb dX12_init_105 (by decide) ?_
  refine ro_newI (N' := 3456) F M t_59 (by decide) (by decide) (by decide) (by decide) (by decide) dX12_init_108 (fun q37 H k_q37 M => ?_)
  obtain ⟨h38, e_h38⟩ : ∃ z, z = newA h36 0 3456 q37 := ⟨_, rfl⟩
  rw [← e_h38] at M
  have hs := hs q37 h38 k_q37 e_h38
  obtain ⟨h39, g_h39, hs⟩ := bdP hs
  refine ro_pAF F (hin rfl) M fg_12_14 fp_12_14 rfl rfl t_1020 g_h39 dX12_init_110 (fun H locs M => ?_)
  refine lv_aload_n hx hb dX12_init_113 rfl (lv_at hl 0 rfl) ?_
  refine lv_sipush (v := 576) hx hb dX12_init_114 (by decide) ?_
  refine ro_newI (N' := 576) F M t_59 (by decide) (by decide) (by decide) (by decide) (by decide) dX12_init_117 (fun q40 H k_q40 M => ?_)
  obtain ⟨h41, e_h41⟩ : ∃ z, z = newA h39 0 576 q40 := ⟨_, rfl⟩
  rw [← e_h41] at M
  have hs := hs q40 h41 k_q40 e_h41
  obtain ⟨h42, g_h42, hs⟩ := bdP hs
  refine ro_pAF F (hin rfl) M fg_12_15 fp_12_15 rfl rfl t_1021 g_h42 dX12_init_119 (fun H locs M => ?_)
  refine lv_aload_n hx hb dX12_init_122 rfl (lv_at hl 0 rfl) ?_
  refine lv_sipush (v := 576) hx hb dX12_init_123 (by decide) ?_
  refine ro_newI (N' := 576) F M t_59 (by decide) (by decide) (by decide) (by decide) (by decide) dX12_init_126 (fun q43 H k_q43 M => ?_)
  obtain ⟨h44, e_h44⟩ : ∃ z, z = newA h42 0 576 q43 := ⟨_, rfl⟩
  rw [← e_h44] at M
  have hs := hs q43 h44 k_q43 e_h44
  obtain ⟨h45, g_h45, hs⟩ := bdP hs
  refine ro_pAF F (hin rfl) M fg_12_16 fp_12_16 rfl rfl t_1022 g_h45 dX12_init_128 (fun H locs M => ?_)
  refine lv_aload_n hx hb dX12_init_131 rfl (lv_at hl 0 rfl) ?_
  refine lv_sipush (v := 576) hx hb dX12_init_132 (by decide) ?_
  refine ro_newI (N' := 576) F M t_59 (by decide) (by decide) (by decide) (by decide) (by decide) dX12_init_135 (fun q46 H k_q46 M => ?_)
  obtain ⟨h47, e_h47⟩ : ∃ z, z = newA h45 0 576 q46 := ⟨_, rfl⟩
  rw [← e_h47] at M
  have hs := hs q46 h47 k_q46 e_h47
  obtain ⟨h48, g_h48, hs⟩ := bdP hs
  refine ro_pAF F (hin rfl) M fg_12_18 fp_12_18 rfl rfl t_1024 g_h48 dX12_init_137 (fun H locs M => ?_)
  refine lv_aload_n hx hb dX12_init_140 rfl (lv_at hl 0 rfl) ?_
  refine lv_sipush (v := 576) hx hb dX12_init_141 (by decide) ?_
  refine ro_newI (N' := 576) F M t_59 (by decide) (by decide) (by decide) (by decide) (by decide) dX12_init_144 (fun q49 H k_q49 M => ?_)
  obtain ⟨h50, e_h50⟩ : ∃ z, z = newA h48 0 576 q49 := ⟨_, rfl⟩
  rw [← e_h50] at M
  have hs := hs q49 h50 k_q49 e_h50
  obtain ⟨h51, g_h51, hs⟩ := bdP hs
  refine ro_pAF F (hin rfl) M fg_12_19 fp_12_19 rfl rfl t_1025 g_h51 dX12_init_146 (fun H locs M => ?_)
  refine lv_aload_n hx hb dX12_init_149 rfl (lv_at hl 0 rfl) ?_
  refine lv_bipush (v := 12) hx hb dX12_init_150 (by decide) ?_
  refine ro_newJ (N' := 12) F M t_232 (by decide) (by decide) (by decide) (by decide) (by decide) dX12_init_152 (fun q52 H k_q52 M => ?_)
  obtain ⟨h53, e_h53⟩ : ∃ z, z = newA h51 1 12 q52 := ⟨_, rfl⟩
  rw [← e_h53] at M
  have hs := hs q52 h53 k_q52 e_h53
  obtain ⟨h54, g_h54, hs⟩ := bdP hs
  refine ro_pAF F (hin rfl) M fg_12_20 fp_12_20 rfl rfl t_1026 g_h54 dX12_init_154 (fun H locs M => ?_)
  refine lv_aload_n hx hb dX12_init_157 rfl (lv_at hl 0 rfl) ?_
  refine lv_bipush (v := 60) hx hb dX12_init_158 (by decide) ?_
  obtain ⟨h55, g_h55, hs⟩ := bdP hs
  refine ro_pI F M fg_12_21 fp_12_21 rfl t_1027 g_h55 dX12_init_160 (fun H locs M => ?_)
  refine lv_aload_n hx hb dX12_init_163 rfl (lv_at hl 0 rfl) ?_
  refine lv_iconst (v := 1) hx hb dX12_init_164 (by decide) ?_
  obtain ⟨h56, g_h56, hs⟩ := bdP hs
  refine ro_pI F M fg_12_23 fp_12_23 rfl t_1029 g_h56 dX12_init_165 (fun H locs M => ?_)
  refine lv_aload_n hx hb dX12_init_168 rfl (lv_at hl 0 rfl) ?_
  refine lv_bipush (v := 30) hx hb dX12_init_169 (by decide) ?_
  refine ro_newI (N' := 30) F M t_59 (by decide) (by decide) (by decide) (by decide) (by decide) dX12_init_171 (fun q57 H k_q57 M => ?_)
  obtain ⟨h58, e_h58⟩ : ∃ z, z = newA h56 0 30 q57 := ⟨_, rfl⟩
  rw [← e_h58] at M
  have hs := hs q57 h58 k_q57 e_h58
  obtain ⟨h59, g_h59, hs⟩ := bdP hs
  refine ro_pAF F (hin rfl) M fg_12_24 fp_12_24 rfl rfl t_1030 g_h59 dX12_init_173 (fun H locs M => ?_)
  refine lv_aload_n hx hb dX12_init_176 rfl (lv_at hl 0 rfl) ?_
  refine lv_bipush (v := 30) hx hb dX12_init_177 (by decide) ?_
  refine ro_newI (N' := 30) F M t_59 (by decide) (by decide) (by decide) (by decide) (by decide) dX12_init_179 (fun q60 H k_q60 M => ?_)
  obtain ⟨h61, e_h61⟩ : ∃ z, z = newA h59 0 30 q60 := ⟨_, rfl⟩
  rw [← e_h61] at M
  have hs := hs q60 h61 k_q60 e_h61
  obtain ⟨h62, g_h62, hs⟩ := bdP hs
  refine ro_pAF F (hin rfl) M fg_12_25 fp_12_25 rfl rfl t_1031 g_h62 dX12_init_181 (fun H locs M => ?_)
  refine lv_aload_n hx hb dX12_init_184 rfl (lv_at hl 0 rfl) ?_
  refine lv_bipush (v := 30) hx hb dX12_init_185 (by decide) ?_
  refine ro_newI (N' := 30) F M t_59 (by decide) (by decide) (by decide) (by decide) (by decide) dX12_init_187 (fun q63 H k_q63 M => ?_)
  obtain ⟨h64, e_h64⟩ : ∃ z, z = newA h62 0 30 q63 := ⟨_, rfl⟩
  rw [← e_h64] at M
  have hs := hs q63 h64 k_q63 e_h64
  obtain ⟨h65, g_h65, hs⟩ := bdP hs
  refine ro_pAF F (hin rfl) M fg_12_26 fp_12_26 rfl rfl t_1032 g_h65 dX12_init_189 (fun H locs M => ?_)
  refine lv_aload_n hx hb dX12_init_192 rfl (lv_at hl 0 rfl) ?_
  refine lv_bipush (v := 30) hx hb dX12_init_193 (by decide) ?_
  refine ro_newI (N' := 30) F M t_59 (by decide) (by decide) (by decide) (by decide) (by decide) dX12_init_195 (fun q66 H k_q66 M => ?_)
  obtain ⟨h67, e_h67⟩ : ∃ z, z = newA h65 0 30 q66 := ⟨_, rfl⟩
  rw [← e_h67] at M
  have hs := hs q66 h67 k_q66 e_h67
  obtain ⟨h68, g_h68, hs⟩ := bdP hs
  refine ro_pAF F (hin rfl) M fg_12_27 fp_12_27 rfl rfl t_1033 g_h68 dX12_init_197 (fun H locs M => ?_)
  refine lv_aload_n hx hb dX12_init_200 rfl (lv_at hl 0 rfl) ?_
  refine lv_sipush (v := 1000) hx hb dX12_init_201 (by decide) ?_
  refine ro_newI (N' := 1000) F M t_59 (by decide) (by decide) (by decide) (by decide) (by decide) dX12_init_204 (fun q69 H k_q69 M => ?_)
  obtain ⟨h70, e_h70⟩ : ∃ z, z = newA h68 0 1000 q69 := ⟨_, rfl⟩
  rw [← e_h70] at M
  have hs := hs q69 h70 k_q69 e_h70
  obtain ⟨h71, g_h71, hs⟩ := bdP hs
  refine ro_pAF F (hin rfl) M fg_12_28 fp_12_28 rfl rfl t_1034 g_h71 dX12_init_206 (fun H locs M => ?_)
  refine lv_aload_n hx hb dX12_init_209 rfl (lv_at hl 0 rfl) ?_
  refine lv_sipush (v := 1000) hx hb dX12_init_210 (by decide) ?_
  refine ro_newI (N' := 1000) F M t_59 (by decide) (by decide) (by decide) (by decide) (by decide) dX12_init_213 (fun q72 H k_q72 M => ?_)
  obtain ⟨h73, e_h73⟩ : ∃ z, z = newA h71 0 1000 q72 := ⟨_, rfl⟩
  rw [← e_h73] at M
  have hs := hs q72 h73 k_q72 e_h73
  obtain ⟨h74, g_h74, hs⟩ := bdP hs
  refine ro_pAF F (hin rfl) M fg_12_31 fp_12_31 rfl rfl t_1037 g_h74 dX12_init_215 (fun H locs M => ?_)
  refine lv_aload_n hx hb dX12_init_218 rfl (lv_at hl 0 rfl) ?_
  refine lv_bipush (v := 20) hx hb dX12_init_219 (by decide) ?_
  refine ro_newI (N' := 20) F M t_59 (by decide) (by decide) (by decide) (by decide) (by decide) dX12_init_221 (fun q75 H k_q75 M => ?_)
  obtain ⟨h76, e_h76⟩ : ∃ z, z = newA h74 0 20 q75 := ⟨_, rfl⟩
  rw [← e_h76] at M
  have hs := hs q75 h76 k_q75 e_h76
  obtain ⟨h77, g_h77, hs⟩ := bdP hs
  refine ro_pAF F (hin rfl) M fg_12_33 fp_12_33 rfl rfl t_1039 g_h77 dX12_init_223 (fun H locs M => ?_)
  refine lv_aload_n hx hb dX12_init_226 rfl (lv_at hl 0 rfl) ?_
  refine lv_bipush (v := 20) hx hb dX12_init_227 (by decide) ?_
  refine ro_newI (N' := 20) F M t_59 (by decide) (by decide) (by decide) (by decide) (by decide) dX12_init_229 (fun q78 H k_q78 M => ?_)
  obtain ⟨h79, e_h79⟩ : ∃ z, z = newA h77 0 20 q78 := ⟨_, rfl⟩
  rw [← e_h79] at M
  have hs := hs q78 h79 k_q78 e_h79
  obtain ⟨h80, g_h80, hs⟩ := bdP hs
  refine ro_pAF F (hin rfl) M fg_12_34 fp_12_34 rfl rfl t_1040 g_h80 dX12_init_231 (fun H locs M => ?_)
  refine lv_aload_n hx hb dX12_init_234 rfl (lv_at hl 0 rfl) ?_
  refine lv_sipush (v := 240) hx hb dX12_init_235 (by decide) ?_
  refine ro_newI (N' := 240) F M t_59 (by decide) (by decide) (by decide) (by decide) (by decide) dX12_init_238 (fun q81 H k_q81 M => ?_)
  obtain ⟨h82, e_h82⟩ : ∃ z, z = newA h80 0 240 q81 := ⟨_, rfl⟩
  rw [← e_h82] at M
  have hs := hs q81 h82 k_q81 e_h82
  obtain ⟨h83, g_h83, hs⟩ := bdP hs
  refine ro_pAF F (hin rfl) M fg_12_35 fp_12_35 rfl rfl t_1041 g_h83 dX12_init_240 (fun H locs M => ?_)
  refine lv_aload_n hx hb dX12_init_243 rfl (lv_at hl 0 rfl) ?_
  refine lv_bipush (v := 9) hx hb dX12_init_244 (by decide) ?_
  refine ro_newI (N' := 9) F M t_59 (by decide) (by decide) (by decide) (by decide) (by decide) dX12_init_246 (fun q84 H k_q84 M => ?_)
  obtain ⟨h85, e_h85⟩ : ∃ z, z = newA h83 0 9 q84 := ⟨_, rfl⟩
  rw [← e_h85] at M
  have hs := hs q84 h85 k_q84 e_h85
  obtain ⟨h86, g_h86, hs⟩ := bdP hs
  refine ro_pAF F (hin rfl) M fg_12_51 fp_12_51 rfl rfl t_1057 g_h86 dX12_init_248 (fun H locs M => ?_)
  refine lv_aload_n hx hb dX12_init_251 rfl (lv_at hl 0 rfl) ?_
  refine lv_bipush (v := 16) hx hb dX12_init_252 (by decide) ?_
  refine ro_newI (N' := 16) F M t_59 (by decide) (by decide) (by decide) (by decide) (by decide) dX12_init_254 (fun q87 H k_q87 M => ?_)
  obtain ⟨h88, e_h88⟩ : ∃ z, z = newA h86 0 16 q87 := ⟨_, rfl⟩
  rw [← e_h88] at M
  have hs := hs q87 h88 k_q87 e_h88
  obtain ⟨h89, g_h89, hs⟩ := bdP hs
  refine ro_pAF F (hin rfl) M fg_12_59 fp_12_59 rfl rfl t_1065 g_h89 dX12_init_256 (fun H locs M => ?_)
  refine lv_aload_n hx hb dX12_init_259 rfl (lv_at hl 0 rfl) ?_
  refine lv_bipush (v := 16) hx hb dX12_init_260 (by decide) ?_
  refine ro_newI (N' := 16) F M t_59 (by decide) (by decide) (by decide) (by decide) (by decide) dX12_init_262 (fun q90 H k_q90 M => ?_)
  obtain ⟨h91, e_h91⟩ : ∃ z, z = newA h89 0 16 q90 := ⟨_, rfl⟩
  rw [← e_h91] at M
  have hs := hs q90 h91 k_q90 e_h91
  obtain ⟨h92, g_h92, hs⟩ := bdP hs
  refine ro_pAF F (hin rfl) M fg_12_60 fp_12_60 rfl rfl t_1066 g_h92 dX12_init_264 (fun H locs M => ?_)
  refine lv_aload_n hx hb dX12_init_267 rfl (lv_at hl 0 rfl) ?_
  refine lv_sipush (v := 256) hx hb dX12_init_268 (by decide) ?_
  refine ro_newJ (N' := 256) F M t_232 (by decide) (by decide) (by decide) (by decide) (by decide) dX12_init_271 (fun q93 H k_q93 M => ?_)
  obtain ⟨h94, e_h94⟩ : ∃ z, z = newA h92 1 256 q93 := ⟨_, rfl⟩
  rw [← e_h94] at M
  have hs := hs q93 h94 k_q93 e_h94
  obtain ⟨h95, g_h95, hs⟩ := bdP hs
  refine ro_pAF F (hin rfl) M fg_12_61 fp_12_61 rfl rfl t_1067 g_h95 dX12_init_273 (fun H locs M => ?_)
  refine lv_aload_n hx hb dX12_init_276 rfl (lv_at hl 0 rfl) ?_
  refine lv_bipush (v := 16) hx hb dX12_init_277 (by decide) ?_
  refine ro_newZ (N' := 16) F M t_272 (by decide) (by decide) (by decide) (by decide) (by decide) dX12_init_279 (fun q96 H k_q96 M => ?_)
  obtain ⟨h97, e_h97⟩ : ∃ z, z = newA h95 2 16 q96 := ⟨_, rfl⟩
  rw [← e_h97] at M
  have hs := hs q96 h97 k_q96 e_h97
  obtain ⟨h98, g_h98, hs⟩ := bdP hs
  refine ro_pAF F (hin rfl) M fg_12_62 fp_12_62 rfl rfl t_1068 g_h98 dX12_init_281 (fun H locs M => ?_)
  refine lv_aload_n hx hb dX12_init_284 rfl (lv_at hl 0 rfl) ?_
  refine lv_bipush (v := 16) hx hb dX12_init_285 (by decide) ?_
  refine ro_newI (N' := 16) F M t_59 (by decide) (by decide) (by decide) (by decide) (by decide) dX12_init_287 (fun q99 H k_q99 M => ?_)
  obtain ⟨h100, e_h100⟩ : ∃ z, z = newA h98 0 16 q99 := ⟨_, rfl⟩
  rw [← e_h100] at M
  have hs := hs q99 h100 k_q99 e_h100
  obtain ⟨h101, g_h101, hs⟩ := bdP hs
  refine ro_pAF F (hin rfl) M fg_12_63 fp_12_63 rfl rfl t_1069 g_h101 dX12_init_289 (fun H locs M => ?_)
  refine lv_aload_n hx hb dX12_init_292 rfl (lv_at hl 0 rfl) ?_
  refine lv_bipush (v := 16) hx hb dX12_init_293 (by decide) ?_
  refine ro_newI (N' := 16) F M t_59 (by decide) (by decide) (by decide) (by decide) (by decide) dX12_init_295 (fun q102 H k_q102 M => ?_)
  obtain ⟨h103, e_h103⟩ : ∃ z, z = newA h101 0 16 q102 := ⟨_, rfl⟩
  rw [← e_h103] at M
  have hs := hs q102 h103 k_q102 e_h103
  obtain ⟨h104, g_h104, hs⟩ := bdP hs
  refine ro_pAF F (hin rfl) M fg_12_64 fp_12_64 rfl rfl t_1070 g_h104 dX12_init_297 (fun H locs M => ?_)
  refine lv_aload_n hx hb dX12_init_300 rfl (lv_at hl 0 rfl) ?_
  refine lv_bipush (v := 16) hx hb dX12_init_301 (by decide) ?_
  refine ro_newJ (N' := 16) F M t_232 (by decide) (by decide) (by decide) (by decide) (by decide) dX12_init_303 (fun q105 H k_q105 M => ?_)
  obtain ⟨h106, e_h106⟩ : ∃ z, z = newA h104 1 16 q105 := ⟨_, rfl⟩
  rw [← e_h106] at M
  have hs := hs q105 h106 k_q105 e_h106
  obtain ⟨h107, g_h107, hs⟩ := bdP hs
  refine ro_pAF F (hin rfl) M fg_12_65 fp_12_65 rfl rfl t_1071 g_h107 dX12_init_305 (fun H locs M => ?_)
  refine lv_aload_n hx hb dX12_init_308 rfl (lv_at hl 0 rfl) ?_
  refine lv_bipush (v := 16) hx hb dX12_init_309 (by decide) ?_
  refine ro_newI (N' := 16) F M t_59 (by decide) (by decide) (by decide) (by decide) (by decide) dX12_init_311 (fun q108 H k_q108 M => ?_)
  obtain ⟨h109, e_h109⟩ : ∃ z, z = newA h107 0 16 q108 := ⟨_, rfl⟩
  rw [← e_h109] at M
  have hs := hs q108 h109 k_q108 e_h109
  obtain ⟨h110, g_h110, hs⟩ := bdP hs
  refine ro_pAF F (hin rfl) M fg_12_66 fp_12_66 rfl rfl t_1072 g_h110 dX12_init_313 (fun H locs M => ?_)
  refine lv_aload_n hx hb dX12_init_316 rfl (lv_at hl 0 rfl) ?_
  refine lv_bipush (v := 120) hx hb dX12_init_317 (by decide) ?_
  refine ro_newZ (N' := 120) F M t_272 (by decide) (by decide) (by decide) (by decide) (by decide) dX12_init_319 (fun q111 H k_q111 M => ?_)
  obtain ⟨h112, e_h112⟩ : ∃ z, z = newA h110 2 120 q111 := ⟨_, rfl⟩
  rw [← e_h112] at M
  have hs := hs q111 h112 k_q111 e_h112
  obtain ⟨h113, g_h113, hs⟩ := bdP hs
  refine ro_pAF F (hin rfl) M fg_12_69 fp_12_69 rfl rfl t_1075 g_h113 dX12_init_321 (fun H locs M => ?_)
  refine lv_iconst (v := 0) hx hb dX12_init_324 (by decide) ?_
  refine lv_istore_n (i := 1) (lv' := [(1, .int 0), (0, .ref th)]) hx hb dX12_init_325 rfl hl (by decide) rfl (fun ls hl => ?_)
  obtain ⟨q117, g_q117, hs⟩ := bdP hs
  refine w_X12_init_L326 F N 0 h113 _ _ _ q117 g_q117 (lv_sub hl [1, 0] rfl) M (fun t_ ls H locs eq_ hl M => ?_)
  subst eq_
  refine lv_aload_n hx hb dX12_init_345 rfl (lv_at hl 0 rfl) ?_
  obtain ⟨v118, g_v118, hs⟩ := bdP hs
  refine ro_gR F M fg_12_24 t_1030 g_v118 dX12_init_346 ?_
  refine lv_iconst (v := 0) hx hb dX12_init_349 (by decide) ?_
  refine lv_bipush (v := 10) hx hb dX12_init_350 (by decide) ?_
  obtain ⟨h119, g_h119, hs⟩ := bdP hs
  refine ro_sI F M g_h119 dX12_init_352 (fun H locs M => ?_)
  refine lv_aload_n hx hb dX12_init_353 rfl (lv_at hl 0 rfl) ?_
  obtain ⟨v120, g_v120, hs⟩ := bdP hs
  refine ro_gR F M fg_12_25 t_1031 g_v120 dX12_init_354 ?_
  refine lv_iconst (v := 0) hx hb dX12_init_357 (by decide) ?_
  refine lv_iconst (v := 1) hx hb dX12_init_358 (by decide) ?_
  obtain ⟨h121, g_h121, hs⟩ := bdP hs
  refine ro_sI F M g_h121 dX12_init_359 (fun H locs M => ?_)
  refine W.widen (k := 37) (n := 11153) (by decide) (by decide) ?_
  exact re_vP F M ⟨rfl, hs⟩ dX12_init_360
