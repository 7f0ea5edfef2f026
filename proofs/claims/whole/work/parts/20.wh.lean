abbrev rm_X12_numberHere : Room := { frames := 0, cells := 0, slots := 0, locals := 0 }
theorem mf_X12_numberHere : MV 12 yX12_numberHere cX12_numberHere 4 (some .long) 0 RX12 := ⟨t_1295, t_1294, tS_86, t_12, ⟨by decide +kernel, by decide +kernel, by decide +kernel⟩, rfl, by decide⟩
def s_X12_numberHere_L4 (N : Nat) : Nat → Nat → Int64 → Int32 → IH → Option (Int64)
  | 0, _, _, _, _ => none
  | n + 1, th, x1, x3, h => (gI h 12 43 (some th)).bind fun v1 => if v1 ≤ x3 then some x1 else (gR h 12 28 (some th)).bind fun v3 => (gI h 12 42 (some th)).bind fun v4 => (aI h v3 (v4 + x3)).bind fun v5 => s_X12_numberHere_L4 N n th (((10 * x1) + v5.toInt64) - 48) (x3 + 1) h
def s_X12_numberHere (N : Nat) (h : IH) (th : Nat) : Option (Int64) := (s_X12_numberHere_L4 N N th 0 0 h).bind fun q6 => some q6
set_option maxHeartbeats 4000000 in
set_option maxRecDepth 100000 in
theorem w_X12_numberHere_L4 {p : Program} {l : Launch} {e : Env} {s : State} {m : MethodId} {args : Array Value} {below : List Frame} {meth : Method} {c : Code} {D : va_G} {cy : Nat → ClassId} {A : Nat → Prop} {H0 : Heap} {N th : Nat} {h : IH} {qF : Int64} (F : Fx p s m args meth c D cy A H0 yX12_numberHere cX12_numberHere 4 (some .long)) : ∀ (n : Nat) (x1 : Int64) (x3 : Int32) (ls : Array Slot) (H : Heap) (locs : List Loc) (q : Int64), s_X12_numberHere_L4 N n th x1 x3 h = some q → lv_has ls 4 [(0, .ref th), (1, .long x1), (3, .int x3)] → Mo D cy A H0 h H locs → (∀ (t : Int64) (ls : Array Slot) (H : Heap) (locs : List Loc), q = t → lv_has ls 4 [(1, .long t)] → Mo D cy A H0 h H locs → W p l e rm_X12_numberHere s m args below meth c H locs 0 0 (MQ below (QR D cy h A (some (.long qF))) args s 0 0 A) (F0 m 41 ls [])) → (∀ v : Int64, False → v = qF) → W p l e rm_X12_numberHere s m args below meth c H locs 0 0 (MQ below (QR D cy h A (some (.long qF))) args s 0 0 A) (F0 m 4 ls []) := by
  intro n
  induction n with
  | zero => intro x1 x3 ls H locs q hs; rw [s_X12_numberHere_L4.eq_1] at hs; cases hs
  | succ n ih =>
    intro x1 x3 ls H locs q hs hl M kx kr
    obtain ⟨hx, hb, hr, hml, hown, hlk, hts, hK, hN, hA, hH⟩ := id F
    rw [s_X12_numberHere_L4.eq_2] at hs
    refine lv_iload_n hx hb dX12_numberHere_4 rfl (lv_at hl 2 rfl) ?_
    refine lv_aload_n hx hb dX12_numberHere_5 rfl (lv_at hl 0 rfl) ?_
    obtain ⟨v1, g_v1, hs⟩ := bd hs
    refine ro_gI F M fg_12_43 t_1049 g_v1 dX12_numberHere_6 ?_
    refine lv_icmp_ge (tgt := 41) hx hb dX12_numberHere_9 (by decide) (fun c2 => ?_) (fun c2 => ?_)
    · rw [if_pos c2] at hs
      exact kx x1 _ _ _ (Option.some.inj hs).symm (lv_sub hl [1] rfl) M
    · rw [if_neg c2] at hs
      refine lv_ldc2 (v := 10) hx hb hown (hts _ (List.mem_cons_of_mem _ t_1296)) dX12_numberHere_12 ?_
      refine lv_lload_n hx hb dX12_numberHere_15 rfl (lv_at hl 1 rfl) ?_
      refine lv_lmul hx hb dX12_numberHere_16 ?_
      refine lv_aload_n hx hb dX12_numberHere_17 rfl (lv_at hl 0 rfl) ?_
      obtain ⟨v3, g_v3, hs⟩ := bd hs
      refine ro_gR F M fg_12_28 t_1034 g_v3 dX12_numberHere_18 ?_
      refine lv_aload_n hx hb dX12_numberHere_21 rfl (lv_at hl 0 rfl) ?_
      obtain ⟨v4, g_v4, hs⟩ := bd hs
      refine ro_gI F M fg_12_42 t_1048 g_v4 dX12_numberHere_22 ?_
      refine lv_iload_n hx hb dX12_numberHere_25 rfl (lv_at hl 2 rfl) ?_
      refine lv_iadd hx hb dX12_numberHere_26 ?_
      obtain ⟨v5, g_v5, hs⟩ := bd hs
      refine ro_aI F M g_v5 dX12_numberHere_27 ?_
      refine lv_i2l hx hb dX12_numberHere_28 rfl ?_
      refine lv_ladd hx hb dX12_numberHere_29 ?_
      refine lv_ldc2 (v := 48) hx hb hown (hts _ (List.mem_cons_of_mem _ t_1243)) dX12_numberHere_30 ?_
      refine lv_lsub hx hb dX12_numberHere_33 ?_
      refine lv_lstore_n (i := 1) (lv' := [(1, .long (((10 * x1) + v5.toInt64) - 48)), (0, .ref th), (3, .int x3)]) hx hb dX12_numberHere_34 rfl hl (by decide) rfl (fun ls hl => ?_)
      refine lv_iinc (v := x3 + 1) (lv' := [(3, .int (x3 + 1)), (1, .long (((10 * x1) + v5.toInt64) - 48)), (0, .ref th)]) hx hb dX12_numberHere_35 hl (k := 2) rfl rfl (by decide) rfl (fun ls hl => ?_)
      refine lv_goto (tgt := 4) hx hb dX12_numberHere_38 (by decide) ?_
      exact ih (((10 * x1) + v5.toInt64) - 48) (x3 + 1) _ _ _ _ hs (lv_sub hl [2, 1, 0] rfl) M kx kr
set_option maxHeartbeats 4000000 in
set_option maxRecDepth 100000 in
theorem c_X12_numberHere {l : Launch} {D : va_G} {cy : Nat → ClassId} {sz N : Nat} {h : IH} {th : Nat} {qF : Int64} (hs : s_X12_numberHere N h th = some qF) : Ct l D cy yX12_numberHere cX12_numberHere 4 (some .long) rm_X12_numberHere h sz [.ref th] h (some (.long qF)) := by
  refine ct_start (by decide +kernel) [(0, .ref th)] (Nat.le_of_ble_eq_true rfl) rfl ?_
  intro p e s m args below meth c A H0 ls F hin hsz M hl
  obtain ⟨hx, hb, hr, hml, hown, hlk, hts, hK, hN, hA, hH⟩ := id F
  generalize s.heap = H at M ⊢
  generalize ([] : List Loc) = locs at M ⊢
  unfold s_X12_numberHere at hs
  refine lv_lconst (v := 0) hx hb dX12_numberHere_0 (by decide) ?_
  refine lv_lstore_n (i := 1) (lv' := [(1, .long 0), (0, .ref th)]) hx hb dX12_numberHere_1 rfl hl (by decide) rfl (fun ls hl => ?_)
  refine lv_iconst (v := 0) hx hb dX12_numberHere_2 (by decide) ?_
  refine lv_istore_n (i := 3) (lv' := [(3, .int 0), (1, .long 0), (0, .ref th)]) hx hb dX12_numberHere_3 rfl hl (by decide) rfl (fun ls hl => ?_)
  obtain ⟨q6, g_q6, hs⟩ := bd hs
  refine w_X12_numberHere_L4 F N 0 0 _ _ _ q6 g_q6 (lv_sub hl [2, 1, 0] rfl) M (fun t_ ls H locs eq_ hl M => ?_) (fun v eq_ => eq_.elim)
  subst eq_
  refine lv_lload_n hx hb dX12_numberHere_41 rfl (lv_at hl 0 rfl) ?_
  obtain rfl := Option.some.inj hs
  exact re_l F M dX12_numberHere_42
abbrev rm_X12_isContact : Room := { frames := 3, cells := 0, slots := 0, locals := 69 }
theorem mf_X12_isContact : MV 12 yX12_isContact cX12_isContact 1 (some .boolean) 0 RX12 := ⟨t_1287, t_1286, tS_84, t_12, ⟨by decide +kernel, by decide +kernel, by decide +kernel⟩, rfl, by decide⟩
def s_X12_isContact (N : Nat) (h : IH) (th : Nat) : Option (Int32 × IH) := (cV h 12 (some th) fun a44 => s_X12_next N h a44 ).bind fun v1 => (cV v1 12 (some th) fun a43 => s_X12_isNumber N v1 a43 10).bind fun v2 => if v2 = 0 then some (0, v1) else (cV v1 12 (some th) fun a42 => s_X12_numberHere N v1 a42 ).bind fun v4 => (pL v1 12 45 (some th) v4).bind fun h5 => (cV h5 12 (some th) fun a41 => s_X12_next N h5 a41 ).bind fun v6 => (gI v6 12 42 (some th)).bind fun v7 => (gI v6 12 43 (some th)).bind fun v8 => (cV v6 12 (some th) fun a40 => s_X12_isCall N v6 a40 v7 v8).bind fun v9 => if v9 = 0 then some (0, v6) else (gI v6 12 42 (some th)).bind fun v11 => (pI v6 12 47 (some th) v11).bind fun h12 => (gI h12 12 43 (some th)).bind fun v13 => (pI h12 12 48 (some th) v13).bind fun h14 => (cV h14 12 (some th) fun a39 => s_X12_next N h14 a39 ).bind fun v15 => (gI v15 12 43 (some th)).bind fun v16 => if v16 = 0 then some (1, v15) else (cV v15 12 (some th) fun a38 => s_X12_isNumber N v15 a38 5).bind fun v18 => if v18 = 0 then some (0, v15) else (cV v15 12 (some th) fun a37 => s_X12_numberHere N v15 a37 ).bind fun v20 => (pI v15 12 49 (some th) v20.toInt32).bind fun h21 => (cV h21 12 (some th) fun a36 => s_X12_next N h21 a36 ).bind fun v22 => (gI v22 12 43 (some th)).bind fun v23 => if v23 = 0 then some (1, v22) else (cV v22 12 (some th) fun a35 => s_X12_isNumber N v22 a35 5).bind fun v25 => if v25 = 0 then some (0, v22) else (cV v22 12 (some th) fun a34 => s_X12_numberHere N v22 a34 ).bind fun v27 => (pI v22 12 50 (some th) v27.toInt32).bind fun h28 => (cV h28 12 (some th) fun a33 => s_X12_next N h28 a33 ).bind fun v29 => (gI v29 12 43 (some th)).bind fun v30 => ((if v30 = 0 then some 1 else some 0) : Option (Int32)).bind fun q32 => if q32 = 0 ∨ q32 = 1 then some (q32, v29) else none
set_option maxHeartbeats 4000000 in
set_option maxRecDepth 100000 in
theorem c_X12_isContact {l : Launch} {D : va_G} {cy : Nat → ClassId} {sz N : Nat} {h : IH} {th : Nat} {qF : Int32 × IH} (hs : s_X12_isContact N h th = some qF) : Ct l D cy yX12_isContact cX12_isContact 1 (some .boolean) rm_X12_isContact h sz [.ref th] qF.2 (some (.int qF.1)) := by
  refine ct_start (by decide +kernel) [(0, .ref th)] (Nat.le_of_ble_eq_true rfl) rfl ?_
  intro p e s m args below meth c A H0 ls F hin hsz M hl
  obtain ⟨hx, hb, hr, hml, hown, hlk, hts, hK, hN, hA, hH⟩ := id F
  generalize s.heap = H at M ⊢
  generalize ([] : List Loc) = locs at M ⊢
  unfold s_X12_isContact at hs
  refine lv_aload_n hx hb dX12_isContact_0 rfl (lv_at hl 0 rfl) ?_
  obtain ⟨v1, g_v1, hs⟩ := bd hs
  obtain ⟨a44, e_a44, k_a44, g_v1⟩ := cV_some g_v1
  obtain rfl := Option.some.inj e_a44
  refine ca_Vv (bq := th) (As := []) (rest := []) F M (c_X12_next g_v1) mf_X12_next t_1276 k_a44 rfl ⟨by decide, by decide⟩ ⟨rfl, rfl⟩ ⟨Nat.zero_le _, Nat.zero_le _⟩ hl.1 rfl (by decide) dX12_isContact_1 (fun H locs M => ?_)
  refine lv_aload_n hx hb dX12_isContact_4 rfl (lv_at hl 0 rfl) ?_
  refine lv_bipush (v := 10) hx hb dX12_isContact_5 (by decide) ?_
  obtain ⟨v2, g_v2, hs⟩ := bd hs
  obtain ⟨a43, e_a43, k_a43, g_v2⟩ := cV_some g_v2
  obtain rfl := Option.some.inj e_a43
  refine ca_Vi (bq := th) (As := [.int 10]) (rest := []) F M (c_X12_isNumber g_v2) mf_X12_isNumber t_1288 k_a43 rfl ⟨by decide, by decide⟩ ⟨rfl, rfl⟩ ⟨Nat.zero_le _, Nat.zero_le _⟩ hl.1 rfl (by decide) dX12_isContact_7 (fun H locs M => ?_)
  refine lv_if_ne (tgt := 15) hx hb dX12_isContact_10 (by decide) (fun c3 => ?_) (fun c3 => ?_)
  · rw [if_neg c3] at hs
    refine lv_aload_n hx hb dX12_isContact_15 rfl (lv_at hl 0 rfl) ?_
    refine lv_aload_n hx hb dX12_isContact_16 rfl (lv_at hl 0 rfl) ?_
    obtain ⟨v4, g_v4, hs⟩ := bd hs
    obtain ⟨a42, e_a42, k_a42, g_v4⟩ := cV_some g_v4
    obtain rfl := Option.some.inj e_a42
    refine ca_Vl (bq := th) (As := []) (rest := [.ref th]) F M (c_X12_numberHere g_v4) mf_X12_numberHere t_1292 k_a42 rfl ⟨by decide, by decide⟩ ⟨rfl, rfl⟩ ⟨Nat.zero_le _, Nat.zero_le _⟩ hl.1 rfl (by simp [cat_rf, cat_i, cat_j, cat_r]) dX12_isContact_17 (fun H locs M => ?_)
    obtain ⟨h5, g_h5, hs⟩ := bd hs
    refine ro_pL F M fg_12_45 fp_12_45 rfl t_1051 g_h5 dX12_isContact_20 (fun H locs M => ?_)
    refine lv_aload_n hx hb dX12_isContact_23 rfl (lv_at hl 0 rfl) ?_
    obtain ⟨v6, g_v6, hs⟩ := bd hs
    obtain ⟨a41, e_a41, k_a41, g_v6⟩ := cV_some g_v6
    obtain rfl := Option.some.inj e_a41
    refine ca_Vv (bq := th) (As := []) (rest := []) F M (c_X12_next g_v6) mf_X12_next t_1276 k_a41 rfl ⟨by decide, by decide⟩ ⟨rfl, rfl⟩ ⟨Nat.zero_le _, Nat.zero_le _⟩ hl.1 rfl (by decide) dX12_isContact_24 (fun H locs M => ?_)
    refine lv_aload_n hx hb dX12_isContact_27 rfl (lv_at hl 0 rfl) ?_
    refine lv_aload_n hx hb dX12_isContact_28 rfl (lv_at hl 0 rfl) ?_
    obtain ⟨v7, g_v7, hs⟩ := bd hs
    refine ro_gI F M fg_12_42 t_1048 g_v7 dX12_isContact_29 ?_
    refine lv_aload_n hx hb dX12_isContact_32 rfl (lv_at hl 0 rfl) ?_
    obtain ⟨v8, g_v8, hs⟩ := bd hs
    refine ro_gI F M fg_12_43 t_1049 g_v8 dX12_isContact_33 ?_
    obtain ⟨v9, g_v9, hs⟩ := bd hs
    obtain ⟨a40, e_a40, k_a40, g_v9⟩ := cV_some g_v9
    obtain rfl := Option.some.inj e_a40
    refine ca_Vi (bq := th) (As := [.int v7, .int v8]) (rest := []) F M (c_X12_isCall g_v9) mf_X12_isCall t_1235 k_a40 rfl ⟨by decide, by decide⟩ ⟨rfl, rfl⟩ ⟨Nat.zero_le _, Nat.zero_le _⟩ hl.1 rfl (by decide) dX12_isContact_36 (fun H locs M => ?_)
    refine lv_if_ne (tgt := 44) hx hb dX12_isContact_39 (by decide) (fun c10 => ?_) (fun c10 => ?_)
    · rw [if_neg c10] at hs
      refine lv_aload_n hx hb dX12_isContact_44 rfl (lv_at hl 0 rfl) ?_
      refine lv_aload_n hx hb dX12_isContact_45 rfl (lv_at hl 0 rfl) ?_
      obtain ⟨v11, g_v11, hs⟩ := bd hs
      refine ro_gI F M fg_12_42 t_1048 g_v11 dX12_isContact_46 ?_
      obtain ⟨h12, g_h12, hs⟩ := bd hs
      refine ro_pI F M fg_12_47 fp_12_47 rfl t_1053 g_h12 dX12_isContact_49 (fun H locs M => ?_)
      refine lv_aload_n hx hb dX12_isContact_52 rfl (lv_at hl 0 rfl) ?_
      refine lv_aload_n hx hb dX12_isContact_53 rfl (lv_at hl 0 rfl) ?_
      obtain ⟨v13, g_v13, hs⟩ := bd hs
      refine ro_gI F M fg_12_43 t_1049 g_v13 dX12_isContact_54 ?_
      obtain ⟨h14, g_h14, hs⟩ := bd hs
      refine ro_pI F M fg_12_48 fp_12_48 rfl t_1054 g_h14 dX12_isContact_57 (fun H locs M => ?_)
      refine lv_aload_n hx hb dX12_isContact_60 rfl (lv_at hl 0 rfl) ?_
      obtain ⟨v15, g_v15, hs⟩ := bd hs
      obtain ⟨a39, e_a39, k_a39, g_v15⟩ := cV_some g_v15
      obtain rfl := Option.some.inj e_a39
      refine ca_Vv (bq := th) (As := []) (rest := []) F M (c_X12_next g_v15) mf_X12_next t_1276 k_a39 rfl ⟨by decide, by decide⟩ ⟨rfl, rfl⟩ ⟨Nat.zero_le _, Nat.zero_le _⟩ hl.1 rfl (by decide) dX12_isContact_61 (fun H locs M => ?_)
      refine lv_aload_n hx hb dX12_isContact_64 rfl (lv_at hl 0 rfl) ?_
      obtain ⟨v16, g_v16, hs⟩ := bd hs
      refine ro_gI F M fg_12_43 t_1049 g_v16 dX12_isContact_65 ?_
      refine lv_if_ne (tgt := 73) hx hb dX12_isContact_68 (by decide) (fun c17 => ?_) (fun c17 => ?_)
      · rw [if_neg c17] at hs
        refine lv_aload_n hx hb dX12_isContact_73 rfl (lv_at hl 0 rfl) ?_
        refine lv_iconst (v := 5) hx hb dX12_isContact_74 (by decide) ?_
        obtain ⟨v18, g_v18, hs⟩ := bd hs
        obtain ⟨a38, e_a38, k_a38, g_v18⟩ := cV_some g_v18
        obtain rfl := Option.some.inj e_a38
        refine ca_Vi (bq := th) (As := [.int 5]) (rest := []) F M (c_X12_isNumber g_v18) mf_X12_isNumber t_1288 k_a38 rfl ⟨by decide, by decide⟩ ⟨rfl, rfl⟩ ⟨Nat.zero_le _, Nat.zero_le _⟩ hl.1 rfl (by decide) dX12_isContact_75 (fun H locs M => ?_)
        refine lv_if_ne (tgt := 83) hx hb dX12_isContact_78 (by decide) (fun c19 => ?_) (fun c19 => ?_)
        · rw [if_neg c19] at hs
          refine lv_aload_n hx hb dX12_isContact_83 rfl (lv_at hl 0 rfl) ?_
          refine lv_aload_n hx hb dX12_isContact_84 rfl (lv_at hl 0 rfl) ?_
          obtain ⟨v20, g_v20, hs⟩ := bd hs
          obtain ⟨a37, e_a37, k_a37, g_v20⟩ := cV_some g_v20
          obtain rfl := Option.some.inj e_a37
          refine ca_Vl (bq := th) (As := []) (rest := [.ref th]) F M (c_X12_numberHere g_v20) mf_X12_numberHere t_1292 k_a37 rfl ⟨by decide, by decide⟩ ⟨rfl, rfl⟩ ⟨Nat.zero_le _, Nat.zero_le _⟩ hl.1 rfl (by simp [cat_rf, cat_i, cat_j, cat_r]) dX12_isContact_85 (fun H locs M => ?_)
          refine lv_l2i hx hb dX12_isContact_88 rfl ?_
          obtain ⟨h21, g_h21, hs⟩ := bd hs
          refine ro_pI F M fg_12_49 fp_12_49 rfl t_1055 g_h21 dX12_isContact_89 (fun H locs M => ?_)
          refine lv_aload_n hx hb dX12_isContact_92 rfl (lv_at hl 0 rfl) ?_
          obtain ⟨v22, g_v22, hs⟩ := bd hs
          obtain ⟨a36, e_a36, k_a36, g_v22⟩ := cV_some g_v22
          obtain rfl := Option.some.inj e_a36
          refine ca_Vv (bq := th) (As := []) (rest := []) F M (c_X12_next g_v22) mf_X12_next t_1276 k_a36 rfl ⟨by decide, by decide⟩ ⟨rfl, rfl⟩ ⟨Nat.zero_le _, Nat.zero_le _⟩ hl.1 rfl (by decide) dX12_isContact_93 (fun H locs M => ?_)
          refine lv_aload_n hx hb dX12_isContact_96 rfl (lv_at hl 0 rfl) ?_
          obtain ⟨v23, g_v23, hs⟩ := bd hs
          refine ro_gI F M fg_12_43 t_1049 g_v23 dX12_isContact_97 ?_
          refine lv_if_ne (tgt := 105) hx hb dX12_isContact_100 (by decide) (fun c24 => ?_) (fun c24 => ?_)
          · rw [if_neg c24] at hs
            refine lv_aload_n hx hb dX12_isContact_105 rfl (lv_at hl 0 rfl) ?_
            refine lv_iconst (v := 5) hx hb dX12_isContact_106 (by decide) ?_
            obtain ⟨v25, g_v25, hs⟩ := bd hs
            obtain ⟨a35, e_a35, k_a35, g_v25⟩ := cV_some g_v25
            obtain rfl := Option.some.inj e_a35
            refine ca_Vi (bq := th) (As := [.int 5]) (rest := []) F M (c_X12_isNumber g_v25) mf_X12_isNumber t_1288 k_a35 rfl ⟨by decide, by decide⟩ ⟨rfl, rfl⟩ ⟨Nat.zero_le _, Nat.zero_le _⟩ hl.1 rfl (by decide) dX12_isContact_107 (fun H locs M => ?_)
            refine lv_if_ne (tgt := 115) hx hb dX12_isContact_110 (by decide) (fun c26 => ?_) (fun c26 => ?_)
            · rw [if_neg c26] at hs
              refine lv_aload_n hx hb dX12_isContact_115 rfl (lv_at hl 0 rfl) ?_
              refine lv_aload_n hx hb dX12_isContact_116 rfl (lv_at hl 0 rfl) ?_
              obtain ⟨v27, g_v27, hs⟩ := bd hs
              obtain ⟨a34, e_a34, k_a34, g_v27⟩ := cV_some g_v27
              obtain rfl := Option.some.inj e_a34
              refine ca_Vl (bq := th) (As := []) (rest := [.ref th]) F M (c_X12_numberHere g_v27) mf_X12_numberHere t_1292 k_a34 rfl ⟨by decide, by decide⟩ ⟨rfl, rfl⟩ ⟨Nat.zero_le _, Nat.zero_le _⟩ hl.1 rfl (by simp [cat_rf, cat_i, cat_j, cat_r]) dX12_isContact_117 (fun H locs M => ?_)
              refine lv_l2i hx hb dX12_isContact_120 rfl ?_
              obtain ⟨h28, g_h28, hs⟩ := bd hs
              refine ro_pI F M fg_12_50 fp_12_50 rfl t_1056 g_h28 dX12_isContact_121 (fun H locs M => ?_)
              refine lv_aload_n hx hb dX12_isContact_124 rfl (lv_at hl 0 rfl) ?_
              obtain ⟨v29, g_v29, hs⟩ := bd hs
              obtain ⟨a33, e_a33, k_a33, g_v29⟩ := cV_some g_v29
              obtain rfl := Option.some.inj e_a33
              refine ca_Vv (bq := th) (As := []) (rest := []) F M (c_X12_next g_v29) mf_X12_next t_1276 k_a33 rfl ⟨by decide, by decide⟩ ⟨rfl, rfl⟩ ⟨Nat.zero_le _, Nat.zero_le _⟩ hl.1 rfl (by decide) dX12_isContact_125 (fun H locs M => ?_)
              refine lv_aload_n hx hb dX12_isContact_128 rfl (lv_at hl 0 rfl) ?_
              obtain ⟨v30, g_v30, hs⟩ := bd hs
              refine ro_gI F M fg_12_43 t_1049 g_v30 dX12_isContact_129 ?_
              obtain ⟨q32, hsq32, hs⟩ := bd hs
              have KJ140 : ∀ (ls : Array Slot) (H : Heap) (locs : List Loc), lv_has ls 1 [] → Mo D cy A H0 v29 H locs → W p l e rm_X12_isContact s m args below meth c H locs 0 0 (MQ below (QR D cy qF.2 A (some (.int qF.1))) args s 0 0 A) (F0 m 140 ls [.int q32]) := by
                intro ls H locs hl M
                by_cases zg : q32 = 0 ∨ q32 = 1
                · rw [if_pos zg] at hs
                  obtain rfl := Option.some.inj hs
                  exact re_z F M zg dX12_isContact_140
                · rw [if_neg zg] at hs; cases hs
              clear hs
              have hs := hsq32
              refine lv_if_ne (tgt := 139) hx hb dX12_isContact_132 (by decide) (fun c31 => ?_) (fun c31 => ?_)
              · rw [if_neg c31] at hs
                refine lv_iconst (v := 0) hx hb dX12_isContact_139 (by decide) ?_
                obtain rfl := Option.some.inj hs
                exact KJ140 _ _ _ (lv_sub hl [] rfl) M
              · rw [if_pos c31] at hs
                refine lv_iconst (v := 1) hx hb dX12_isContact_135 (by decide) ?_
                refine lv_goto (tgt := 140) hx hb dX12_isContact_136 (by decide) ?_
                obtain rfl := Option.some.inj hs
                exact KJ140 _ _ _ (lv_sub hl [] rfl) M
            · rw [if_pos c26] at hs
              refine lv_iconst (v := 0) hx hb dX12_isContact_113 (by decide) ?_
              obtain rfl := Option.some.inj hs
              exact re_z F M (Or.inl rfl) dX12_isContact_114
          · rw [if_pos c24] at hs
            refine lv_iconst (v := 1) hx hb dX12_isContact_103 (by decide) ?_
            obtain rfl := Option.some.inj hs
            exact re_z F M (Or.inr rfl) dX12_isContact_104
        · rw [if_pos c19] at hs
          refine lv_iconst (v := 0) hx hb dX12_isContact_81 (by decide) ?_
          obtain rfl := Option.some.inj hs
          exact re_z F M (Or.inl rfl) dX12_isContact_82
      · rw [if_pos c17] at hs
        refine lv_iconst (v := 1) hx hb dX12_isContact_71 (by decide) ?_
        obtain rfl := Option.some.inj hs
        exact re_z F M (Or.inr rfl) dX12_isContact_72
    · rw [if_pos c10] at hs
      refine lv_iconst (v := 0) hx hb dX12_isContact_42 (by decide) ?_
      obtain rfl := Option.some.inj hs
      exact re_z F M (Or.inl rfl) dX12_isContact_43
  · rw [if_pos c3] at hs
    refine lv_iconst (v := 0) hx hb dX12_isContact_13 (by decide) ?_
    obtain rfl := Option.some.inj hs
    exact re_z F M (Or.inl rfl) dX12_isContact_14
abbrev rm_X12_isRest : Room := { frames := 2, cells := 0, slots := 0, locals := 48 }
theorem mf_X12_isRest : MV 12 yX12_isRest cX12_isRest 1 (some .boolean) 0 RX12 := ⟨t_1300, t_1299, tS_87, t_12, ⟨by decide +kernel, by decide +kernel, by decide +kernel⟩, rfl, by decide⟩
def s_X12_isRest (N : Nat) (h : IH) (th : Nat) : Option (Int32 × IH) := (cV h 12 (some th) fun a21 => s_X12_next N h a21 ).bind fun v1 => (cV v1 12 (some th) fun a20 => s_X12_isNumber N v1 a20 10).bind fun v2 => if v2 = 0 then some (0, v1) else (cV v1 12 (some th) fun a19 => s_X12_numberHere N v1 a19 ).bind fun v4 => (pL v1 12 45 (some th) v4).bind fun h5 => (cV h5 12 (some th) fun a18 => s_X12_next N h5 a18 ).bind fun v6 => (cV v6 12 (some th) fun a17 => s_X12_isNumber N v6 a17 10).bind fun v7 => if v7 = 0 then some (0, v6) else (cV v6 12 (some th) fun a16 => s_X12_numberHere N v6 a16 ).bind fun v9 => (pL v6 12 46 (some th) v9).bind fun h10 => (cV h10 12 (some th) fun a15 => s_X12_next N h10 a15 ).bind fun v11 => (gI v11 12 43 (some th)).bind fun v12 => ((if v12 = 0 then some 1 else some 0) : Option (Int32)).bind fun q14 => if q14 = 0 ∨ q14 = 1 then some (q14, v11) else none
set_option maxHeartbeats 4000000 in
set_option maxRecDepth 100000 in
theorem c_X12_isRest {l : Launch} {D : va_G} {cy : Nat → ClassId} {sz N : Nat} {h : IH} {th : Nat} {qF : Int32 × IH} (hs : s_X12_isRest N h th = some qF) : Ct l D cy yX12_isRest cX12_isRest 1 (some .boolean) rm_X12_isRest h sz [.ref th] qF.2 (some (.int qF.1)) := by
  refine ct_start (by decide +kernel) [(0, .ref th)] (Nat.le_of_ble_eq_true rfl) rfl ?_
  intro p e s m args below meth c A H0 ls F hin hsz M hl
  obtain ⟨hx, hb, hr, hml, hown, hlk, hts, hK, hN, hA, hH⟩ := id F
  generalize s.heap = H at M ⊢
  generalize ([] : List Loc) = locs at M ⊢
  unfold s_X12_isRest at hs
  refine lv_aload_n hx hb dX12_isRest_0 rfl (lv_at hl 0 rfl) ?_
  obtain ⟨v1, g_v1, hs⟩ := bd hs
  obtain ⟨a21, e_a21, k_a21, g_v1⟩ := cV_some g_v1
  obtain rfl := Option.some.inj e_a21
  refine ca_Vv (bq := th) (As := []) (rest := []) F M (c_X12_next g_v1) mf_X12_next t_1276 k_a21 rfl ⟨by decide, by decide⟩ ⟨rfl, rfl⟩ ⟨Nat.zero_le _, Nat.zero_le _⟩ hl.1 rfl (by decide) dX12_isRest_1 (fun H locs M => ?_)
  refine lv_aload_n hx hb dX12_isRest_4 rfl (lv_at hl 0 rfl) ?_
  refine lv_bipush (v := 10) hx hb dX12_isRest_5 (by decide) ?_
  obtain ⟨v2, g_v2, hs⟩ := bd hs
  obtain ⟨a20, e_a20, k_a20, g_v2⟩ := cV_some g_v2
  obtain rfl := Option.some.inj e_a20
  refine ca_Vi (bq := th) (As := [.int 10]) (rest := []) F M (c_X12_isNumber g_v2) mf_X12_isNumber t_1288 k_a20 rfl ⟨by decide, by decide⟩ ⟨rfl, rfl⟩ ⟨Nat.zero_le _, Nat.zero_le _⟩ hl.1 rfl (by decide) dX12_isRest_7 (fun H locs M => ?_)
  refine lv_if_ne (tgt := 15) hx hb dX12_isRest_10 (by decide) (fun c3 => ?_) (fun c3 => ?_)
  · rw [if_neg c3] at hs
    refine lv_aload_n hx hb dX12_isRest_15 rfl (lv_at hl 0 rfl) ?_
    refine lv_aload_n hx hb dX12_isRest_16 rfl (lv_at hl 0 rfl) ?_
    obtain ⟨v4, g_v4, hs⟩ := bd hs
    obtain ⟨a19, e_a19, k_a19, g_v4⟩ := cV_some g_v4
    obtain rfl := Option.some.inj e_a19
    refine ca_Vl (bq := th) (As := []) (rest := [.ref th]) F M (c_X12_numberHere g_v4) mf_X12_numberHere t_1292 k_a19 rfl ⟨by decide, by decide⟩ ⟨rfl, rfl⟩ ⟨Nat.zero_le _, Nat.zero_le _⟩ hl.1 rfl (by simp [cat_rf, cat_i, cat_j, cat_r]) dX12_isRest_17 (fun H locs M => ?_)
    obtain ⟨h5, g_h5, hs⟩ := bd hs
    refine ro_pL F M fg_12_45 fp_12_45 rfl t_1051 g_h5 dX12_isRest_20 (fun H locs M => ?_)
    refine lv_aload_n hx hb dX12_isRest_23 rfl (lv_at hl 0 rfl) ?_
    obtain ⟨v6, g_v6, hs⟩ := bd hs
    obtain ⟨a18, e_a18, k_a18, g_v6⟩ := cV_some g_v6
    obtain rfl := Option.some.inj e_a18
    refine ca_Vv (bq := th) (As := []) (rest := []) F M (c_X12_next g_v6) mf_X12_next t_1276 k_a18 rfl ⟨by decide, by decide⟩ ⟨rfl, rfl⟩ ⟨Nat.zero_le _, Nat.zero_le _⟩ hl.1 rfl (by decide) dX12_isRest_24 (fun H locs M => ?_)
    refine lv_aload_n hx hb dX12_isRest_27 rfl (lv_at hl 0 rfl) ?_
    refine lv_bipush (v := 10) hx hb dX12_isRest_28 (by decide) ?_
    obtain ⟨v7, g_v7, hs⟩ := bd hs
    obtain ⟨a17, e_a17, k_a17, g_v7⟩ := cV_some g_v7
    obtain rfl := Option.some.inj e_a17
    refine ca_Vi (bq := th) (As := [.int 10]) (rest := []) F M (c_X12_isNumber g_v7) mf_X12_isNumber t_1288 k_a17 rfl ⟨by decide, by decide⟩ ⟨rfl, rfl⟩ ⟨Nat.zero_le _, Nat.zero_le _⟩ hl.1 rfl (by decide) dX12_isRest_30 (fun H locs M => ?_)
    refine lv_if_ne (tgt := 38) hx hb dX12_isRest_33 (by decide) (fun c8 => ?_) (fun c8 => ?_)
    · rw [if_neg c8] at hs
      refine lv_aload_n hx hb dX12_isRest_38 rfl (lv_at hl 0 rfl) ?_
      refine lv_aload_n hx hb dX12_isRest_39 rfl (lv_at hl 0 rfl) ?_
      obtain ⟨v9, g_v9, hs⟩ := bd hs
      obtain ⟨a16, e_a16, k_a16, g_v9⟩ := cV_some g_v9
      obtain rfl := Option.some.inj e_a16
      refine ca_Vl (bq := th) (As := []) (rest := [.ref th]) F M (c_X12_numberHere g_v9) mf_X12_numberHere t_1292 k_a16 rfl ⟨by decide, by decide⟩ ⟨rfl, rfl⟩ ⟨Nat.zero_le _, Nat.zero_le _⟩ hl.1 rfl (by simp [cat_rf, cat_i, cat_j, cat_r]) dX12_isRest_40 (fun H locs M => ?_)
      obtain ⟨h10, g_h10, hs⟩ := bd hs
      refine ro_pL F M fg_12_46 fp_12_46 rfl t_1052 g_h10 dX12_isRest_43 (fun H locs M => ?_)
      refine lv_aload_n hx hb dX12_isRest_46 rfl (lv_at hl 0 rfl) ?_
      obtain ⟨v11, g_v11, hs⟩ := bd hs
      obtain ⟨a15, e_a15, k_a15, g_v11⟩ := cV_some g_v11
      obtain rfl := Option.some.inj e_a15
      refine ca_Vv (bq := th) (As := []) (rest := []) F M (c_X12_next g_v11) mf_X12_next t_1276 k_a15 rfl ⟨by decide, by decide⟩ ⟨rfl, rfl⟩ ⟨Nat.zero_le _, Nat.zero_le _⟩ hl.1 rfl (by decide) dX12_isRest_47 (fun H locs M => ?_)
      refine lv_aload_n hx hb dX12_isRest_50 rfl (lv_at hl 0 rfl) ?_
      obtain ⟨v12, g_v12, hs⟩ := bd hs
      refine ro_gI F M fg_12_43 t_1049 g_v12 dX12_isRest_51 ?_
      obtain ⟨q14, hsq14, hs⟩ := bd hs
      have KJ62 : ∀ (ls : Array Slot) (H : Heap) (locs : List Loc), lv_has ls 1 [] → Mo D cy A H0 v11 H locs → W p l e rm_X12_isRest s m args below meth c H locs 0 0 (MQ below (QR D cy qF.2 A (some (.int qF.1))) args s 0 0 A) (F0 m 62 ls [.int q14]) := by
        intro ls H locs hl M
        by_cases zg : q14 = 0 ∨ q14 = 1
        · rw [if_pos zg] at hs
          obtain rfl := Option.some.inj hs
          exact re_z F M zg dX12_isRest_62
        · rw [if_neg zg] at hs; cases hs
      clear hs
      have hs := hsq14
      refine lv_if_ne (tgt := 61) hx hb dX12_isRest_54 (by decide) (fun c13 => ?_) (fun c13 => ?_)
      · rw [if_neg c13] at hs
        refine lv_iconst (v := 0) hx hb dX12_isRest_61 (by decide) ?_
        obtain rfl := Option.some.inj hs
        exact KJ62 _ _ _ (lv_sub hl [] rfl) M
      · rw [if_pos c13] at hs
        refine lv_iconst (v := 1) hx hb dX12_isRest_57 (by decide) ?_
        refine lv_goto (tgt := 62) hx hb dX12_isRest_58 (by decide) ?_
        obtain rfl := Option.some.inj hs
        exact KJ62 _ _ _ (lv_sub hl [] rfl) M
    · rw [if_pos c8] at hs
      refine lv_iconst (v := 0) hx hb dX12_isRest_36 (by decide) ?_
      obtain rfl := Option.some.inj hs
      exact re_z F M (Or.inl rfl) dX12_isRest_37
  · rw [if_pos c3] at hs
    refine lv_iconst (v := 0) hx hb dX12_isRest_13 (by decide) ?_
    obtain rfl := Option.some.inj hs
    exact re_z F M (Or.inl rfl) dX12_isRest_14
abbrev rm_X12_isLine : Room := { frames := 4, cells := 0, slots := 0, locals := 89 }
theorem mf_X12_isLine : MV 12 yX12_isLine cX12_isLine 1 (some .boolean) 0 RX12 := ⟨t_1275, t_1274, tS_81, t_12, ⟨by decide +kernel, by decide +kernel, by decide +kernel⟩, rfl, by decide⟩
def s_X12_isLine (N : Nat) (h : IH) (th : Nat) : Option (Int32 × IH) := (pI h 12 49 (some th) (-1)).bind fun h1 => (pI h1 12 50 (some th) (-1)).bind fun h2 => (pI h2 12 48 (some th) 0).bind fun h3 => (pL h3 12 45 (some th) 0).bind fun h4 => (pL h4 12 46 (some th) 0).bind fun h5 => (cV h5 12 (some th) fun a29 => s_X12_next N h5 a29 ).bind fun v6 => (cV v6 12 (some th) fun a28 => s_X12_isByte v6 a28 113).bind fun v7 => ((if v7 = 0 then (cV v6 12 (some th) fun a14 => s_X12_isByte v6 a14 114).bind fun v9 => if v9 = 0 then (cV v6 12 (some th) fun a13 => s_X12_isByte v6 a13 120).bind fun v11 => if v11 = 0 then some (-1) else some 2 else some 1 else some 0) : Option (Int32)).bind fun q15 => (pI v6 12 44 (some th) q15).bind fun h16 => (gI h16 12 44 (some th)).bind fun v17 => ((if v17 = 0 then (cV h16 12 (some th) fun a20 => s_X12_isContact N h16 a20 ).bind fun v19 => some (v19.1, v19.2) else (gI h16 12 44 (some th)).bind fun v21 => if v21 = 1 then (cV h16 12 (some th) fun a24 => s_X12_isRest N h16 a24 ).bind fun v23 => some (v23.1, v23.2) else (gI h16 12 44 (some th)).bind fun v25 => if v25 = 2 then some (1, h16) else some (0, h16)) : Option (Int32 × IH)).bind fun q27 => if q27.1 = 0 ∨ q27.1 = 1 then some (q27.1, q27.2) else none
set_option maxHeartbeats 4000000 in
set_option maxRecDepth 100000 in
theorem c_X12_isLine {l : Launch} {D : va_G} {cy : Nat → ClassId} {sz N : Nat} {h : IH} {th : Nat} {qF : Int32 × IH} (hs : s_X12_isLine N h th = some qF) : Ct l D cy yX12_isLine cX12_isLine 1 (some .boolean) rm_X12_isLine h sz [.ref th] qF.2 (some (.int qF.1)) := by
  refine ct_start (by decide +kernel) [(0, .ref th)] (Nat.le_of_ble_eq_true rfl) rfl ?_
  intro p e s m args below meth c A H0 ls F hin hsz M hl
  obtain ⟨hx, hb, hr, hml, hown, hlk, hts, hK, hN, hA, hH⟩ := id F
  generalize s.heap = H at M ⊢
  generalize ([] : List Loc) = locs at M ⊢
  unfold s_X12_isLine at hs
  refine lv_aload_n hx hb dX12_isLine_0 rfl (lv_at hl 0 rfl) ?_
  refine lv_iconst (v := (-1)) hx hb dX12_isLine_1 (by decide) ?_
  obtain ⟨h1, g_h1, hs⟩ := bd hs
  refine ro_pI F M fg_12_49 fp_12_49 rfl t_1055 g_h1 dX12_isLine_2 (fun H locs M => ?_)
  refine lv_aload_n hx hb dX12_isLine_5 rfl (lv_at hl 0 rfl) ?_
  refine lv_iconst (v := (-1)) hx hb dX12_isLine_6 (by decide) ?_
  obtain ⟨h2, g_h2, hs⟩ := bd hs
  refine ro_pI F M fg_12_50 fp_12_50 rfl t_1056 g_h2 dX12_isLine_7 (fun H locs M => ?_)
  refine lv_aload_n hx hb dX12_isLine_10 rfl (lv_at hl 0 rfl) ?_
  refine lv_iconst (v := 0) hx hb dX12_isLine_11 (by decide) ?_
  obtain ⟨h3, g_h3, hs⟩ := bd hs
  refine ro_pI F M fg_12_48 fp_12_48 rfl t_1054 g_h3 dX12_isLine_12 (fun H locs M => ?_)
  refine lv_aload_n hx hb dX12_isLine_15 rfl (lv_at hl 0 rfl) ?_
  refine lv_lconst (v := 0) hx hb dX12_isLine_16 (by decide) ?_
  obtain ⟨h4, g_h4, hs⟩ := bd hs
  refine ro_pL F M fg_12_45 fp_12_45 rfl t_1051 g_h4 dX12_isLine_17 (fun H locs M => ?_)
  refine lv_aload_n hx hb dX12_isLine_20 rfl (lv_at hl 0 rfl) ?_
  refine lv_lconst (v := 0) hx hb dX12_isLine_21 (by decide) ?_
  obtain ⟨h5, g_h5, hs⟩ := bd hs
  refine ro_pL F M fg_12_46 fp_12_46 rfl t_1052 g_h5 dX12_isLine_22 (fun H locs M => ?_)
  refine lv_aload_n hx hb dX12_isLine_25 rfl (lv_at hl 0 rfl) ?_
  obtain ⟨v6, g_v6, hs⟩ := bd hs
  obtain ⟨a29, e_a29, k_a29, g_v6⟩ := cV_some g_v6
  obtain rfl := Option.some.inj e_a29
  refine ca_Vv (bq := th) (As := []) (rest := []) F M (c_X12_next g_v6) mf_X12_next t_1276 k_a29 rfl ⟨by decide, by decide⟩ ⟨rfl, rfl⟩ ⟨Nat.zero_le _, Nat.zero_le _⟩ hl.1 rfl (by decide) dX12_isLine_26 (fun H locs M => ?_)
  refine lv_aload_n hx hb dX12_isLine_29 rfl (lv_at hl 0 rfl) ?_
  refine lv_aload_n hx hb dX12_isLine_30 rfl (lv_at hl 0 rfl) ?_
  refine lv_bipush (v := 113) hx hb dX12_isLine_31 (by decide) ?_
  obtain ⟨v7, g_v7, hs⟩ := bd hs
  obtain ⟨a28, e_a28, k_a28, g_v7⟩ := cV_some g_v7
  obtain rfl := Option.some.inj e_a28
  refine ca_Vi (bq := th) (As := [.int 113]) (rest := [.ref th]) F M (c_X12_isByte g_v7) mf_X12_isByte t_1280 k_a28 rfl ⟨by decide, by decide⟩ ⟨rfl, rfl⟩ ⟨Nat.zero_le _, Nat.zero_le _⟩ hl.1 rfl (by simp [cat_rf, cat_i, cat_j, cat_r]) dX12_isLine_33 (fun H locs M => ?_)
  obtain ⟨q15, hsq15, hs⟩ := bd hs
  have KJ70 : ∀ (ls : Array Slot) (H : Heap) (locs : List Loc), lv_has ls 1 [(0, .ref th)] → Mo D cy A H0 v6 H locs → W p l e rm_X12_isLine s m args below meth c H locs 0 0 (MQ below (QR D cy qF.2 A (some (.int qF.1))) args s 0 0 A) (F0 m 70 ls [.int q15, .ref th]) := by
    intro ls H locs hl M
    obtain ⟨h16, g_h16, hs⟩ := bd hs
    refine ro_pI F M fg_12_44 fp_12_44 rfl t_1050 g_h16 dX12_isLine_70 (fun H locs M => ?_)
    refine lv_aload_n hx hb dX12_isLine_73 rfl (lv_at hl 0 rfl) ?_
    obtain ⟨v17, g_v17, hs⟩ := bd hs
    refine ro_gI F M fg_12_44 t_1050 g_v17 dX12_isLine_74 ?_
    obtain ⟨q27, hsq27, hs⟩ := bd hs
    have KJ115 : ∀ (ls : Array Slot) (H : Heap) (locs : List Loc), lv_has ls 1 [] → Mo D cy A H0 q27.2 H locs → W p l e rm_X12_isLine s m args below meth c H locs 0 0 (MQ below (QR D cy qF.2 A (some (.int qF.1))) args s 0 0 A) (F0 m 115 ls [.int q27.1]) := by
      intro ls H locs hl M
      by_cases zg : q27.1 = 0 ∨ q27.1 = 1
      · rw [if_pos zg] at hs
        obtain rfl := Option.some.inj hs
        exact re_z F M zg dX12_isLine_115
      · rw [if_neg zg] at hs; cases hs
    clear hs
    have hs := hsq27
    refine lv_if_ne (tgt := 87) hx hb dX12_isLine_77 (by decide) (fun c18 => ?_) (fun c18 => ?_)
    · rw [if_neg c18] at hs
      refine lv_aload_n hx hb dX12_isLine_87 rfl (lv_at hl 0 rfl) ?_
      obtain ⟨v21, g_v21, hs⟩ := bd hs
      refine ro_gI F M fg_12_44 t_1050 g_v21 dX12_isLine_88 ?_
      refine lv_iconst (v := 1) hx hb dX12_isLine_91 (by decide) ?_
      refine lv_icmp_ne (tgt := 102) hx hb dX12_isLine_92 (by decide) (fun c22 => ?_) (fun c22 => ?_)
      · rw [if_neg c22] at hs
        refine lv_aload_n hx hb dX12_isLine_102 rfl (lv_at hl 0 rfl) ?_
        obtain ⟨v25, g_v25, hs⟩ := bd hs
        refine ro_gI F M fg_12_44 t_1050 g_v25 dX12_isLine_103 ?_
        refine lv_iconst (v := 2) hx hb dX12_isLine_106 (by decide) ?_
        refine lv_icmp_ne (tgt := 114) hx hb dX12_isLine_107 (by decide) (fun c26 => ?_) (fun c26 => ?_)
        · rw [if_neg c26] at hs
          refine lv_iconst (v := 0) hx hb dX12_isLine_114 (by decide) ?_
          obtain rfl := Option.some.inj hs
          exact KJ115 _ _ _ (lv_sub hl [] rfl) M
        · rw [if_pos c26] at hs
          refine lv_iconst (v := 1) hx hb dX12_isLine_110 (by decide) ?_
          refine lv_goto (tgt := 115) hx hb dX12_isLine_111 (by decide) ?_
          obtain rfl := Option.some.inj hs
          exact KJ115 _ _ _ (lv_sub hl [] rfl) M
      · rw [if_pos c22] at hs
        refine lv_aload_n hx hb dX12_isLine_95 rfl (lv_at hl 0 rfl) ?_
        obtain ⟨v23, g_v23, hs⟩ := bd hs
        obtain ⟨a24, e_a24, k_a24, g_v23⟩ := cV_some g_v23
        obtain rfl := Option.some.inj e_a24
        refine ca_Vi (bq := th) (As := []) (rest := []) F M (c_X12_isRest g_v23) mf_X12_isRest t_1297 k_a24 rfl ⟨by decide, by decide⟩ ⟨rfl, rfl⟩ ⟨Nat.zero_le _, Nat.zero_le _⟩ hl.1 rfl (by decide) dX12_isLine_96 (fun H locs M => ?_)
        refine lv_goto (tgt := 115) hx hb dX12_isLine_99 (by decide) ?_
        obtain rfl := Option.some.inj hs
        exact KJ115 _ _ _ (lv_sub hl [] rfl) M
    · rw [if_pos c18] at hs
      refine lv_aload_n hx hb dX12_isLine_80 rfl (lv_at hl 0 rfl) ?_
      obtain ⟨v19, g_v19, hs⟩ := bd hs
      obtain ⟨a20, e_a20, k_a20, g_v19⟩ := cV_some g_v19
      obtain rfl := Option.some.inj e_a20
      refine ca_Vi (bq := th) (As := []) (rest := []) F M (c_X12_isContact g_v19) mf_X12_isContact t_1284 k_a20 rfl ⟨by decide, by decide⟩ ⟨rfl, rfl⟩ ⟨Nat.zero_le _, Nat.zero_le _⟩ hl.1 rfl (by decide) dX12_isLine_81 (fun H locs M => ?_)
      refine lv_goto (tgt := 115) hx hb dX12_isLine_84 (by decide) ?_
      obtain rfl := Option.some.inj hs
      exact KJ115 _ _ _ (lv_sub hl [] rfl) M
  clear hs
  have hs := hsq15
  refine lv_if_eq (tgt := 43) hx hb dX12_isLine_36 (by decide) (fun c8 => ?_) (fun c8 => ?_)
  · rw [if_pos c8] at hs
    refine lv_aload_n hx hb dX12_isLine_43 rfl (lv_at hl 0 rfl) ?_
    refine lv_bipush (v := 114) hx hb dX12_isLine_44 (by decide) ?_
    obtain ⟨v9, g_v9, hs⟩ := bd hs
    obtain ⟨a14, e_a14, k_a14, g_v9⟩ := cV_some g_v9
    obtain rfl := Option.some.inj e_a14
    refine ca_Vi (bq := th) (As := [.int 114]) (rest := [.ref th]) F M (c_X12_isByte g_v9) mf_X12_isByte t_1280 k_a14 rfl ⟨by decide, by decide⟩ ⟨rfl, rfl⟩ ⟨Nat.zero_le _, Nat.zero_le _⟩ hl.1 rfl (by simp [cat_rf, cat_i, cat_j, cat_r]) dX12_isLine_46 (fun H locs M => ?_)
    refine lv_if_eq (tgt := 56) hx hb dX12_isLine_49 (by decide) (fun c10 => ?_) (fun c10 => ?_)
    · rw [if_pos c10] at hs
      refine lv_aload_n hx hb dX12_isLine_56 rfl (lv_at hl 0 rfl) ?_
      refine lv_bipush (v := 120) hx hb dX12_isLine_57 (by decide) ?_
      obtain ⟨v11, g_v11, hs⟩ := bd hs
      obtain ⟨a13, e_a13, k_a13, g_v11⟩ := cV_some g_v11
      obtain rfl := Option.some.inj e_a13
      refine ca_Vi (bq := th) (As := [.int 120]) (rest := [.ref th]) F M (c_X12_isByte g_v11) mf_X12_isByte t_1280 k_a13 rfl ⟨by decide, by decide⟩ ⟨rfl, rfl⟩ ⟨Nat.zero_le _, Nat.zero_le _⟩ hl.1 rfl (by simp [cat_rf, cat_i, cat_j, cat_r]) dX12_isLine_59 (fun H locs M => ?_)
      refine lv_if_eq (tgt := 69) hx hb dX12_isLine_62 (by decide) (fun c12 => ?_) (fun c12 => ?_)
      · rw [if_pos c12] at hs
        refine lv_iconst (v := (-1)) hx hb dX12_isLine_69 (by decide) ?_
        obtain rfl := Option.some.inj hs
        exact KJ70 _ _ _ (lv_sub hl [0] rfl) M
      · rw [if_neg c12] at hs
        refine lv_iconst (v := 2) hx hb dX12_isLine_65 (by decide) ?_
        refine lv_goto (tgt := 70) hx hb dX12_isLine_66 (by decide) ?_
        obtain rfl := Option.some.inj hs
        exact KJ70 _ _ _ (lv_sub hl [0] rfl) M
    · rw [if_neg c10] at hs
      refine lv_iconst (v := 1) hx hb dX12_isLine_52 (by decide) ?_
      refine lv_goto (tgt := 70) hx hb dX12_isLine_53 (by decide) ?_
      obtain rfl := Option.some.inj hs
      exact KJ70 _ _ _ (lv_sub hl [0] rfl) M
  · rw [if_neg c8] at hs
    refine lv_iconst (v := 0) hx hb dX12_isLine_39 (by decide) ?_
    refine lv_goto (tgt := 70) hx hb dX12_isLine_40 (by decide) ?_
    obtain rfl := Option.some.inj hs
    exact KJ70 _ _ _ (lv_sub hl [0] rfl) M
abbrev rm_X12_write : Room := { frames := 0, cells := 0, slots := 0, locals := 0 }
theorem mf_X12_write : MV 12 yX12_write cX12_write 3 none 1 RX12 := ⟨t_1304, t_1303, tS_88, t_12, ⟨by decide +kernel, by decide +kernel, by decide +kernel⟩, rfl, by decide⟩
def s_X12_write_L42 (N : Nat) : Nat → Nat → Int32 → Int32 → IH → Option (IH)
  | 0, _, _, _, _ => none
  | n + 1, th, x1, x2, h => (gI h 12 48 (some th)).bind fun v13 => if v13 ≤ x2 then some h else (gR h 12 14 (some th)).bind fun v15 => (gR h 12 28 (some th)).bind fun v16 => (gI h 12 47 (some th)).bind fun v17 => (aI h v16 (v17 + x2)).bind fun v18 => (sI h v15 ((6 * x1) + x2) v18).bind fun h19 => s_X12_write_L42 N n th x1 (x2 + 1) h19
def s_X12_write (N : Nat) (h : IH) (th : Nat) (a0 : Int32) : Option (IH) := (gR h 12 10 (some th)).bind fun v1 => (gI h 12 44 (some th)).bind fun v2 => (sI h v1 a0 v2).bind fun h3 => (gR h3 12 11 (some th)).bind fun v4 => (gL h3 12 45 (some th)).bind fun v5 => (sJ h3 v4 a0 v5).bind fun h6 => (gR h6 12 12 (some th)).bind fun v7 => (gL h6 12 46 (some th)).bind fun v8 => (sJ h6 v7 a0 v8).bind fun h9 => (gR h9 12 13 (some th)).bind fun v10 => (gI h9 12 48 (some th)).bind fun v11 => (sI h9 v10 a0 v11).bind fun h12 => (s_X12_write_L42 N N th a0 0 h12).bind fun q20 => (gR q20 12 15 (some th)).bind fun v21 => (gI q20 12 49 (some th)).bind fun v22 => (sI q20 v21 a0 v22).bind fun h23 => (gR h23 12 16 (some th)).bind fun v24 => (gI h23 12 50 (some th)).bind fun v25 => (sI h23 v24 a0 v25).bind fun h26 => some h26
set_option maxHeartbeats 4000000 in
set_option maxRecDepth 100000 in
theorem w_X12_write_L42 {p : Program} {l : Launch} {e : Env} {s : State} {m : MethodId} {args : Array Value} {below : List Frame} {meth : Method} {c : Code} {D : va_G} {cy : Nat → ClassId} {A : Nat → Prop} {H0 : Heap} {N th : Nat} {x1 : Int32} {qF : IH} (F : Fx p s m args meth c D cy A H0 yX12_write cX12_write 3 none) : ∀ (n : Nat) (x2 : Int32) (h : IH) (ls : Array Slot) (H : Heap) (locs : List Loc) (q : IH), s_X12_write_L42 N n th x1 x2 h = some q → lv_has ls 3 [(0, .ref th), (1, .int x1), (2, .int x2)] → Mo D cy A H0 h H locs → (∀ (t : IH) (ls : Array Slot) (H : Heap) (locs : List Loc), q = t → lv_has ls 3 [(0, .ref th), (1, .int x1)] → Mo D cy A H0 t H locs → W p l e rm_X12_write s m args below meth c H locs 0 0 (MQ below (QR D cy qF A none) args s 0 0 A) (F0 m 78 ls [])) → (∀ v : IH, False → v = qF) → W p l e rm_X12_write s m args below meth c H locs 0 0 (MQ below (QR D cy qF A none) args s 0 0 A) (F0 m 42 ls []) := by
  intro n
  induction n with
  | zero => intro x2 h ls H locs q hs; rw [s_X12_write_L42.eq_1] at hs; cases hs
  | succ n ih =>
    intro x2 h ls H locs q hs hl M kx kr
    obtain ⟨hx, hb, hr, hml, hown, hlk, hts, hK, hN, hA, hH⟩ := id F
    rw [s_X12_write_L42.eq_2] at hs
    refine lv_iload_n hx hb dX12_write_42 rfl (lv_at hl 2 rfl) ?_
    refine lv_aload_n hx hb dX12_write_43 rfl (lv_at hl 0 rfl) ?_
    obtain ⟨v13, g_v13, hs⟩ := bd hs
    refine ro_gI F M fg_12_48 t_1054 g_v13 dX12_write_44 ?_
    refine lv_icmp_ge (tgt := 78) hx hb dX12_write_47 (by decide) (fun c14 => ?_) (fun c14 => ?_)
    · rw [if_pos c14] at hs
      exact kx h _ _ _ (Option.some.inj hs).symm (lv_sub hl [0, 1] rfl) M
    · rw [if_neg c14] at hs
      refine lv_aload_n hx hb dX12_write_50 rfl (lv_at hl 0 rfl) ?_
      obtain ⟨v15, g_v15, hs⟩ := bd hs
      refine ro_gR F M fg_12_14 t_1020 g_v15 dX12_write_51 ?_
      refine lv_bipush (v := 6) hx hb dX12_write_54 (by decide) ?_
      refine lv_iload_n hx hb dX12_write_56 rfl (lv_at hl 1 rfl) ?_
      refine lv_imul hx hb dX12_write_57 ?_
      refine lv_iload_n hx hb dX12_write_58 rfl (lv_at hl 2 rfl) ?_
      refine lv_iadd hx hb dX12_write_59 ?_
      refine lv_aload_n hx hb dX12_write_60 rfl (lv_at hl 0 rfl) ?_
      obtain ⟨v16, g_v16, hs⟩ := bd hs
      refine ro_gR F M fg_12_28 t_1034 g_v16 dX12_write_61 ?_
      refine lv_aload_n hx hb dX12_write_64 rfl (lv_at hl 0 rfl) ?_
      obtain ⟨v17, g_v17, hs⟩ := bd hs
      refine ro_gI F M fg_12_47 t_1053 g_v17 dX12_write_65 ?_
      refine lv_iload_n hx hb dX12_write_68 rfl (lv_at hl 2 rfl) ?_
      refine lv_iadd hx hb dX12_write_69 ?_
      obtain ⟨v18, g_v18, hs⟩ := bd hs
      refine ro_aI F M g_v18 dX12_write_70 ?_
      obtain ⟨h19, g_h19, hs⟩ := bd hs
      refine ro_sI F M g_h19 dX12_write_71 (fun H locs M => ?_)
      refine lv_iinc (v := x2 + 1) (lv' := [(2, .int (x2 + 1)), (0, .ref th), (1, .int x1)]) hx hb dX12_write_72 hl (k := 2) rfl rfl (by decide) rfl (fun ls hl => ?_)
      refine lv_goto (tgt := 42) hx hb dX12_write_75 (by decide) ?_
      exact ih (x2 + 1) h19 _ _ _ _ hs (lv_sub hl [1, 2, 0] rfl) M kx kr
set_option maxHeartbeats 4000000 in
set_option maxRecDepth 100000 in
theorem c_X12_write {l : Launch} {D : va_G} {cy : Nat → ClassId} {sz N : Nat} {h : IH} {th : Nat} {a0 : Int32} {qF : IH} (hs : s_X12_write N h th a0 = some qF) : Ct l D cy yX12_write cX12_write 3 none rm_X12_write h sz [.ref th, .int a0] qF none := by
  refine ct_start (by decide +kernel) [(0, .ref th), (1, .int a0)] (Nat.le_of_ble_eq_true rfl) rfl ?_
  intro p e s m args below meth c A H0 ls F hin hsz M hl
  obtain ⟨hx, hb, hr, hml, hown, hlk, hts, hK, hN, hA, hH⟩ := id F
  generalize s.heap = H at M ⊢
  generalize ([] : List Loc) = locs at M ⊢
  unfold s_X12_write at hs
  refine lv_aload_n hx hb dX12_write_0 rfl (lv_at hl 0 rfl) ?_
  obtain ⟨v1, g_v1, hs⟩ := bd hs
  refine ro_gR F M fg_12_10 t_1016 g_v1 dX12_write_1 ?_
  refine lv_iload_n hx hb dX12_write_4 rfl (lv_at hl 1 rfl) ?_
  refine lv_aload_n hx hb dX12_write_5 rfl (lv_at hl 0 rfl) ?_
  obtain ⟨v2, g_v2, hs⟩ := bd hs
  refine ro_gI F M fg_12_44 t_1050 g_v2 dX12_write_6 ?_
  obtain ⟨h3, g_h3, hs⟩ := bd hs
  refine ro_sI F M g_h3 dX12_write_9 (fun H locs M => ?_)
  refine lv_aload_n hx hb dX12_write_10 rfl (lv_at hl 0 rfl) ?_
  obtain ⟨v4, g_v4, hs⟩ := bd hs
  refine ro_gR F M fg_12_11 t_1017 g_v4 dX12_write_11 ?_
  refine lv_iload_n hx hb dX12_write_14 rfl (lv_at hl 1 rfl) ?_
  refine lv_aload_n hx hb dX12_write_15 rfl (lv_at hl 0 rfl) ?_
  obtain ⟨v5, g_v5, hs⟩ := bd hs
  refine ro_gL F M fg_12_45 t_1051 g_v5 dX12_write_16 ?_
  obtain ⟨h6, g_h6, hs⟩ := bd hs
  refine ro_sJ F M g_h6 dX12_write_19 (fun H locs M => ?_)
  refine lv_aload_n hx hb dX12_write_20 rfl (lv_at hl 0 rfl) ?_
  obtain ⟨v7, g_v7, hs⟩ := bd hs
  refine ro_gR F M fg_12_12 t_1018 g_v7 dX12_write_21 ?_
  refine lv_iload_n hx hb dX12_write_24 rfl (lv_at hl 1 rfl) ?_
  refine lv_aload_n hx hb dX12_write_25 rfl (lv_at hl 0 rfl) ?_
  obtain ⟨v8, g_v8, hs⟩ := bd hs
  refine ro_gL F M fg_12_46 t_1052 g_v8 dX12_write_26 ?_
  obtain ⟨h9, g_h9, hs⟩ := bd hs
  refine ro_sJ F M g_h9 dX12_write_29 (fun H locs M => ?_)
  refine lv_aload_n hx hb dX12_write_30 rfl (lv_at hl 0 rfl) ?_
  obtain ⟨v10, g_v10, hs⟩ := bd hs
  refine ro_gR F M fg_12_13 t_1019 g_v10 dX12_write_31 ?_
  refine lv_iload_n hx hb dX12_write_34 rfl (lv_at hl 1 rfl) ?_
  refine lv_aload_n hx hb dX12_write_35 rfl (lv_at hl 0 rfl) ?_
  obtain ⟨v11, g_v11, hs⟩ := bd hs
  refine ro_gI F M fg_12_48 t_1054 g_v11 dX12_write_36 ?_
  obtain ⟨h12, g_h12, hs⟩ := bd hs
  refine ro_sI F M g_h12 dX12_write_39 (fun H locs M => ?_)
  refine lv_iconst (v := 0) hx hb dX12_write_40 (by decide) ?_
  refine lv_istore_n (i := 2) (lv' := [(2, .int 0), (0, .ref th), (1, .int a0)]) hx hb dX12_write_41 rfl hl (by decide) rfl (fun ls hl => ?_)
  obtain ⟨q20, g_q20, hs⟩ := bd hs
  refine w_X12_write_L42 F N 0 h12 _ _ _ q20 g_q20 (lv_sub hl [1, 2, 0] rfl) M (fun t_ ls H locs eq_ hl M => ?_) (fun v eq_ => eq_.elim)
  subst eq_
  refine lv_aload_n hx hb dX12_write_78 rfl (lv_at hl 0 rfl) ?_
  obtain ⟨v21, g_v21, hs⟩ := bd hs
  refine ro_gR F M fg_12_15 t_1021 g_v21 dX12_write_79 ?_
  refine lv_iload_n hx hb dX12_write_82 rfl (lv_at hl 1 rfl) ?_
  refine lv_aload_n hx hb dX12_write_83 rfl (lv_at hl 0 rfl) ?_
  obtain ⟨v22, g_v22, hs⟩ := bd hs
  refine ro_gI F M fg_12_49 t_1055 g_v22 dX12_write_84 ?_
  obtain ⟨h23, g_h23, hs⟩ := bd hs
  refine ro_sI F M g_h23 dX12_write_87 (fun H locs M => ?_)
  refine lv_aload_n hx hb dX12_write_88 rfl (lv_at hl 0 rfl) ?_
  obtain ⟨v24, g_v24, hs⟩ := bd hs
  refine ro_gR F M fg_12_16 t_1022 g_v24 dX12_write_89 ?_
  refine lv_iload_n hx hb dX12_write_92 rfl (lv_at hl 1 rfl) ?_
  refine lv_aload_n hx hb dX12_write_93 rfl (lv_at hl 0 rfl) ?_
  obtain ⟨v25, g_v25, hs⟩ := bd hs
  refine ro_gI F M fg_12_50 t_1056 g_v25 dX12_write_94 ?_
  obtain ⟨h26, g_h26, hs⟩ := bd hs
  refine ro_sI F M g_h26 dX12_write_97 (fun H locs M => ?_)
  obtain rfl := Option.some.inj hs
  exact re_v F M dX12_write_98
abbrev rm_X12_readLines : Room := { frames := 5, cells := 0, slots := 0, locals := 109 }
theorem mf_X12_readLines : MV 12 yX12_readLines cX12_readLines 8 (some .int) 3 RX12 := ⟨t_1271, t_1270, tS_80, t_12, ⟨by decide +kernel, by decide +kernel, by decide +kernel⟩, rfl, by decide⟩
def s_X12_readLines_L24 (N : Nat) : Nat → Nat → Int32 → Int32 → Int32 → Int32 → Int32 → Int32 → Int32 → IH → Option (Int32)
  | 0, _, _, _, _, _, _, _, _, _ => none
  | n + 1, th, x1, x2, x3, x4, x5, x6, x7, h => if x3 ≤ x7 then some x7 else (gR h 12 28 (some th)).bind fun v4 => (aI h v4 x7).bind fun v5 => if v5 = 10 then some x7 else s_X12_readLines_L24 N n th x1 x2 x3 x4 x5 x6 (x7 + 1) h
def s_X12_readLines_L14 (N : Nat) : Nat → Nat → Int32 → Int32 → Int32 → Int32 → Int32 → Int32 → IH → Option (Int32 × IH)
  | 0, _, _, _, _, _, _, _, _ => none
  | n + 1, th, x1, x2, x3, x4, x5, x6, h => if x3 ≤ x5 then some (x6, h) else (s_X12_readLines_L24 N N th x1 x2 x3 x4 x5 x6 x5 h).bind fun q7 => (pI h 12 40 (some th) x5).bind fun h8 => (pI h8 12 41 (some th) q7).bind fun h9 => (cV h9 12 (some th) fun a23 => s_X12_isLine N h9 a23 ).bind fun v10 => ((if v10.1 = 0 then (gR v10.2 12 31 (some th)).bind fun v12 => (gI v10.2 12 30 (some th)).bind fun v13 => (gI v10.2 12 42 (some th)).bind fun v14 => (sI v10.2 v12 v13 (((1000 * x4) + v14) - x5)).bind fun h15 => (gI h15 12 30 (some th)).bind fun v16 => (pI h15 12 30 (some th) (v16 + 1)).bind fun h17 => some (x6, h17) else ((if x2 = 0 then some v10.2 else (cV v10.2 12 (some th) fun a20 => s_X12_write N v10.2 a20 ((16 * x1) + x6)).bind fun v19 => some v19) : Option (IH)).bind fun q21 => some (x6 + 1, q21)) : Option (Int32 × IH)).bind fun q22 => s_X12_readLines_L14 N n th x1 x2 x3 (x4 + 1) (q7 + 1) q22.1 q22.2
def s_X12_readLines (N : Nat) (h : IH) (th : Nat) (a0 : Int32) (a1 : Int32) (a2 : Int32) : Option (Int32 × IH) := (pI h 12 30 (some th) 0).bind fun h1 => (s_X12_readLines_L14 N N th a0 a1 a2 0 0 0 h1).bind fun q24 => some (q24.1, q24.2)
set_option maxHeartbeats 4000000 in
set_option maxRecDepth 100000 in
theorem w_X12_readLines_L24 {p : Program} {l : Launch} {e : Env} {s : State} {m : MethodId} {args : Array Value} {below : List Frame} {meth : Method} {c : Code} {D : va_G} {cy : Nat → ClassId} {A : Nat → Prop} {H0 : Heap} {N th : Nat} {x1 : Int32} {x2 : Int32} {x3 : Int32} {x4 : Int32} {x5 : Int32} {x6 : Int32} {h : IH} {qF : Int32 × IH} (F : Fx p s m args meth c D cy A H0 yX12_readLines cX12_readLines 8 (some .int)) : ∀ (n : Nat) (x7 : Int32) (ls : Array Slot) (H : Heap) (locs : List Loc) (q : Int32), s_X12_readLines_L24 N n th x1 x2 x3 x4 x5 x6 x7 h = some q → lv_has ls 8 [(0, .ref th), (1, .int x1), (2, .int x2), (3, .int x3), (4, .int x4), (5, .int x5), (6, .int x6), (7, .int x7)] → Mo D cy A H0 h H locs → (∀ (t : Int32) (ls : Array Slot) (H : Heap) (locs : List Loc), q = t → lv_has ls 8 [(0, .ref th), (1, .int x1), (2, .int x2), (3, .int x3), (4, .int x4), (5, .int x5), (6, .int x6), (7, .int t)] → Mo D cy A H0 h H locs → W p l e rm_X12_readLines s m args below meth c H locs 0 0 (MQ below (QR D cy qF.2 A (some (.int qF.1))) args s 0 0 A) (F0 m 48 ls [])) → (∀ v : Int32 × IH, False → v = qF) → W p l e rm_X12_readLines s m args below meth c H locs 0 0 (MQ below (QR D cy qF.2 A (some (.int qF.1))) args s 0 0 A) (F0 m 24 ls []) := by
  intro n
  induction n with
  | zero => intro x7 ls H locs q hs; rw [s_X12_readLines_L24.eq_1] at hs; cases hs
  | succ n ih =>
    intro x7 ls H locs q hs hl M kx kr
    obtain ⟨hx, hb, hr, hml, hown, hlk, hts, hK, hN, hA, hH⟩ := id F
    rw [s_X12_readLines_L24.eq_2] at hs
    refine lv_iload hx hb dX12_readLines_24 (lv_at hl 7 rfl) ?_
    refine lv_iload_n hx hb dX12_readLines_26 rfl (lv_at hl 3 rfl) ?_
    refine lv_icmp_ge (tgt := 48) hx hb dX12_readLines_27 (by decide) (fun c3 => ?_) (fun c3 => ?_)
    · rw [if_pos c3] at hs
      exact kx x7 _ _ _ (Option.some.inj hs).symm (lv_sub hl [0, 1, 2, 3, 4, 5, 6, 7] rfl) M
    · rw [if_neg c3] at hs
      refine lv_aload_n hx hb dX12_readLines_30 rfl (lv_at hl 0 rfl) ?_
      obtain ⟨v4, g_v4, hs⟩ := bd hs
      refine ro_gR F M fg_12_28 t_1034 g_v4 dX12_readLines_31 ?_
      refine lv_iload hx hb dX12_readLines_34 (lv_at hl 7 rfl) ?_
      obtain ⟨v5, g_v5, hs⟩ := bd hs
      refine ro_aI F M g_v5 dX12_readLines_36 ?_
      refine lv_bipush (v := 10) hx hb dX12_readLines_37 (by decide) ?_
      refine lv_icmp_eq (tgt := 48) hx hb dX12_readLines_39 (by decide) (fun c6 => ?_) (fun c6 => ?_)
      · rw [if_pos c6] at hs
        exact kx x7 _ _ _ (Option.some.inj hs).symm (lv_sub hl [0, 1, 2, 3, 4, 5, 6, 7] rfl) M
      · rw [if_neg c6] at hs
        refine lv_iinc (v := x7 + 1) (lv' := [(7, .int (x7 + 1)), (0, .ref th), (1, .int x1), (2, .int x2), (3, .int x3), (4, .int x4), (5, .int x5), (6, .int x6)]) hx hb dX12_readLines_42 hl (k := 7) rfl rfl (by decide) rfl (fun ls hl => ?_)
        refine lv_goto (tgt := 24) hx hb dX12_readLines_45 (by decide) ?_
        exact ih (x7 + 1) _ _ _ _ hs (lv_sub hl [1, 2, 3, 4, 5, 6, 7, 0] rfl) M kx kr
set_option maxHeartbeats 4000000 in
set_option maxRecDepth 100000 in
theorem w_X12_readLines_L14 {p : Program} {l : Launch} {e : Env} {s : State} {m : MethodId} {args : Array Value} {below : List Frame} {meth : Method} {c : Code} {D : va_G} {cy : Nat → ClassId} {A : Nat → Prop} {H0 : Heap} {N th : Nat} {x1 : Int32} {x2 : Int32} {x3 : Int32} {qF : Int32 × IH} (F : Fx p s m args meth c D cy A H0 yX12_readLines cX12_readLines 8 (some .int)) : ∀ (n : Nat) (x4 : Int32) (x5 : Int32) (x6 : Int32) (h : IH) (ls : Array Slot) (H : Heap) (locs : List Loc) (q : Int32 × IH), s_X12_readLines_L14 N n th x1 x2 x3 x4 x5 x6 h = some q → lv_has ls 8 [(0, .ref th), (1, .int x1), (2, .int x2), (3, .int x3), (4, .int x4), (5, .int x5), (6, .int x6)] → Mo D cy A H0 h H locs → (∀ (t : Int32 × IH) (ls : Array Slot) (H : Heap) (locs : List Loc), q = t → lv_has ls 8 [(6, .int t.1)] → Mo D cy A H0 t.2 H locs → W p l e rm_X12_readLines s m args below meth c H locs 0 0 (MQ below (QR D cy qF.2 A (some (.int qF.1))) args s 0 0 A) (F0 m 133 ls [])) → (∀ v : Int32 × IH, False → v = qF) → W p l e rm_X12_readLines s m args below meth c H locs 0 0 (MQ below (QR D cy qF.2 A (some (.int qF.1))) args s 0 0 A) (F0 m 14 ls []) := by
  intro n
  induction n with
  | zero => intro x4 x5 x6 h ls H locs q hs; rw [s_X12_readLines_L14.eq_1] at hs; cases hs
  | succ n ih =>
    intro x4 x5 x6 h ls H locs q hs hl M kx kr
    obtain ⟨hx, hb, hr, hml, hown, hlk, hts, hK, hN, hA, hH⟩ := id F
    rw [s_X12_readLines_L14.eq_2] at hs
    refine lv_iload hx hb dX12_readLines_14 (lv_at hl 5 rfl) ?_
    refine lv_iload_n hx hb dX12_readLines_16 rfl (lv_at hl 3 rfl) ?_
    refine lv_icmp_ge (tgt := 133) hx hb dX12_readLines_17 (by decide) (fun c2 => ?_) (fun c2 => ?_)
    · rw [if_pos c2] at hs
      exact kx (x6, h) _ _ _ (Option.some.inj hs).symm (lv_sub hl [6] rfl) M
    · rw [if_neg c2] at hs
      refine lv_iload hx hb dX12_readLines_20 (lv_at hl 5 rfl) ?_
      refine lv_istore (i := 7) (lv' := [(7, .int x5), (0, .ref th), (1, .int x1), (2, .int x2), (3, .int x3), (4, .int x4), (5, .int x5), (6, .int x6)]) hx hb dX12_readLines_22 hl (by decide) rfl (fun ls hl => ?_)
      obtain ⟨q7, g_q7, hs⟩ := bd hs
      refine w_X12_readLines_L24 F N x5 _ _ _ q7 g_q7 (lv_sub hl [1, 2, 3, 4, 5, 6, 7, 0] rfl) M (fun t_ ls H locs eq_ hl M => ?_) (fun v eq_ => eq_.elim)
      subst eq_
      refine lv_aload_n hx hb dX12_readLines_48 rfl (lv_at hl 0 rfl) ?_
      refine lv_iload hx hb dX12_readLines_49 (lv_at hl 5 rfl) ?_
      obtain ⟨h8, g_h8, hs⟩ := bd hs
      refine ro_pI F M fg_12_40 fp_12_40 rfl t_1046 g_h8 dX12_readLines_51 (fun H locs M => ?_)
      refine lv_aload_n hx hb dX12_readLines_54 rfl (lv_at hl 0 rfl) ?_
      refine lv_iload hx hb dX12_readLines_55 (lv_at hl 7 rfl) ?_
      obtain ⟨h9, g_h9, hs⟩ := bd hs
      refine ro_pI F M fg_12_41 fp_12_41 rfl t_1047 g_h9 dX12_readLines_57 (fun H locs M => ?_)
      refine lv_aload_n hx hb dX12_readLines_60 rfl (lv_at hl 0 rfl) ?_
      obtain ⟨v10, g_v10, hs⟩ := bd hs
      obtain ⟨a23, e_a23, k_a23, g_v10⟩ := cV_some g_v10
      obtain rfl := Option.some.inj e_a23
      refine ca_Vi (bq := th) (As := []) (rest := []) F M (c_X12_isLine g_v10) mf_X12_isLine t_1272 k_a23 rfl ⟨by decide, by decide⟩ ⟨rfl, rfl⟩ ⟨Nat.zero_le _, Nat.zero_le _⟩ hl.1 rfl (by decide) dX12_readLines_61 (fun H locs M => ?_)
      obtain ⟨q22, hsq22, hs⟩ := bd hs
      have KJ121 : ∀ (ls : Array Slot) (H : Heap) (locs : List Loc), lv_has ls 8 [(0, .ref th), (1, .int x1), (2, .int x2), (3, .int x3), (4, .int x4), (6, .int q22.1), (7, .int q7)] → Mo D cy A H0 q22.2 H locs → W p l e rm_X12_readLines s m args below meth c H locs 0 0 (MQ below (QR D cy qF.2 A (some (.int qF.1))) args s 0 0 A) (F0 m 121 ls []) := by
        intro ls H locs hl M
        refine lv_iinc (v := x4 + 1) (lv' := [(4, .int (x4 + 1)), (0, .ref th), (1, .int x1), (2, .int x2), (3, .int x3), (6, .int q22.1), (7, .int q7)]) hx hb dX12_readLines_121 hl (k := 4) rfl rfl (by decide) rfl (fun ls hl => ?_)
        refine lv_iload hx hb dX12_readLines_124 (lv_at hl 6 rfl) ?_
        refine lv_iconst (v := 1) hx hb dX12_readLines_126 (by decide) ?_
        refine lv_iadd hx hb dX12_readLines_127 ?_
        refine lv_istore (i := 5) (lv' := [(5, .int (q7 + 1)), (4, .int (x4 + 1)), (0, .ref th), (1, .int x1), (2, .int x2), (3, .int x3), (6, .int q22.1), (7, .int q7)]) hx hb dX12_readLines_128 hl (by decide) rfl (fun ls hl => ?_)
        refine lv_goto (tgt := 14) hx hb dX12_readLines_130 (by decide) ?_
        exact ih (x4 + 1) (q7 + 1) q22.1 q22.2 _ _ _ _ hs (lv_sub hl [2, 3, 4, 5, 1, 0, 6] rfl) M kx kr
      clear hs
      have hs := hsq22
      refine lv_if_eq (tgt := 88) hx hb dX12_readLines_64 (by decide) (fun c11 => ?_) (fun c11 => ?_)
      · rw [if_pos c11] at hs
        refine lv_aload_n hx hb dX12_readLines_88 rfl (lv_at hl 0 rfl) ?_
        obtain ⟨v12, g_v12, hs⟩ := bd hs
        refine ro_gR F M fg_12_31 t_1037 g_v12 dX12_readLines_89 ?_
        refine lv_aload_n hx hb dX12_readLines_92 rfl (lv_at hl 0 rfl) ?_
        obtain ⟨v13, g_v13, hs⟩ := bd hs
        refine ro_gI F M fg_12_30 t_1036 g_v13 dX12_readLines_93 ?_
        refine lv_sipush (v := 1000) hx hb dX12_readLines_96 (by decide) ?_
        refine lv_iload hx hb dX12_readLines_99 (lv_at hl 4 rfl) ?_
        refine lv_imul hx hb dX12_readLines_101 ?_
        refine lv_aload_n hx hb dX12_readLines_102 rfl (lv_at hl 0 rfl) ?_
        obtain ⟨v14, g_v14, hs⟩ := bd hs
        refine ro_gI F M fg_12_42 t_1048 g_v14 dX12_readLines_103 ?_
        refine lv_iadd hx hb dX12_readLines_106 ?_
        refine lv_iload hx hb dX12_readLines_107 (lv_at hl 5 rfl) ?_
        refine lv_isub hx hb dX12_readLines_109 ?_
        obtain ⟨h15, g_h15, hs⟩ := bd hs
        refine ro_sI F M g_h15 dX12_readLines_110 (fun H locs M => ?_)
        refine lv_aload_n hx hb dX12_readLines_111 rfl (lv_at hl 0 rfl) ?_
        refine lv_dup hx hb dX12_readLines_112 rfl ?_
        obtain ⟨v16, g_v16, hs⟩ := bd hs
        refine ro_gI F M fg_12_30 t_1036 g_v16 dX12_readLines_113 ?_
        refine lv_iconst (v := 1) hx hb dX12_readLines_116 (by decide) ?_
        refine lv_iadd hx hb dX12_readLines_117 ?_
        obtain ⟨h17, g_h17, hs⟩ := bd hs
        refine ro_pI F M fg_12_30 fp_12_30 rfl t_1036 g_h17 dX12_readLines_118 (fun H locs M => ?_)
        obtain rfl := Option.some.inj hs
        exact KJ121 _ _ _ (lv_sub hl [0, 1, 2, 3, 4, 6, 7] rfl) M
      · rw [if_neg c11] at hs
        refine lv_iload_n hx hb dX12_readLines_67 rfl (lv_at hl 2 rfl) ?_
        obtain ⟨q21, hsq21, hs⟩ := bd hs
        have KJ82 : ∀ (ls : Array Slot) (H : Heap) (locs : List Loc), lv_has ls 8 [(0, .ref th), (1, .int x1), (2, .int x2), (3, .int x3), (4, .int x4), (6, .int x6), (7, .int q7)] → Mo D cy A H0 q21 H locs → W p l e rm_X12_readLines s m args below meth c H locs 0 0 (MQ below (QR D cy qF.2 A (some (.int qF.1))) args s 0 0 A) (F0 m 82 ls []) := by
          intro ls H locs hl M
          refine lv_iinc (v := x6 + 1) (lv' := [(6, .int (x6 + 1)), (0, .ref th), (1, .int x1), (2, .int x2), (3, .int x3), (4, .int x4), (7, .int q7)]) hx hb dX12_readLines_82 hl (k := 5) rfl rfl (by decide) rfl (fun ls hl => ?_)
          refine lv_goto (tgt := 121) hx hb dX12_readLines_85 (by decide) ?_
          obtain rfl := Option.some.inj hs
          exact KJ121 _ _ _ (lv_sub hl [1, 2, 3, 4, 5, 0, 6] rfl) M
        clear hs
        have hs := hsq21
        refine lv_if_eq (tgt := 82) hx hb dX12_readLines_68 (by decide) (fun c18 => ?_) (fun c18 => ?_)
        · rw [if_pos c18] at hs
          obtain rfl := Option.some.inj hs
          exact KJ82 _ _ _ (lv_sub hl [0, 1, 2, 3, 4, 6, 7] rfl) M
        · rw [if_neg c18] at hs
          refine lv_aload_n hx hb dX12_readLines_71 rfl (lv_at hl 0 rfl) ?_
          refine lv_bipush (v := 16) hx hb dX12_readLines_72 (by decide) ?_
          refine lv_iload_n hx hb dX12_readLines_74 rfl (lv_at hl 1 rfl) ?_
          refine lv_imul hx hb dX12_readLines_75 ?_
          refine lv_iload hx hb dX12_readLines_76 (lv_at hl 6 rfl) ?_
          refine lv_iadd hx hb dX12_readLines_78 ?_
          obtain ⟨v19, g_v19, hs⟩ := bd hs
          obtain ⟨a20, e_a20, k_a20, g_v19⟩ := cV_some g_v19
          obtain rfl := Option.some.inj e_a20
          refine ca_Vv (bq := th) (As := [.int ((16 * x1) + x6)]) (rest := []) F M (c_X12_write g_v19) mf_X12_write t_1301 k_a20 rfl ⟨by decide, by decide⟩ ⟨rfl, rfl⟩ ⟨Nat.zero_le _, Nat.zero_le _⟩ hl.1 rfl (by decide) dX12_readLines_79 (fun H locs M => ?_)
          obtain rfl := Option.some.inj hs
          exact KJ82 _ _ _ (lv_sub hl [0, 1, 2, 3, 4, 6, 7] rfl) M
set_option maxHeartbeats 4000000 in
set_option maxRecDepth 100000 in
theorem c_X12_readLines {l : Launch} {D : va_G} {cy : Nat → ClassId} {sz N : Nat} {h : IH} {th : Nat} {a0 : Int32} {a1 : Int32} {a2 : Int32} {qF : Int32 × IH} (hs : s_X12_readLines N h th a0 a1 a2 = some qF) : Ct l D cy yX12_readLines cX12_readLines 8 (some .int) rm_X12_readLines h sz [.ref th, .int a0, .int a1, .int a2] qF.2 (some (.int qF.1)) := by
  refine ct_start (by decide +kernel) [(0, .ref th), (1, .int a0), (2, .int a1), (3, .int a2)] (Nat.le_of_ble_eq_true rfl) rfl ?_
  intro p e s m args below meth c A H0 ls F hin hsz M hl
  obtain ⟨hx, hb, hr, hml, hown, hlk, hts, hK, hN, hA, hH⟩ := id F
  generalize s.heap = H at M ⊢
  generalize ([] : List Loc) = locs at M ⊢
  unfold s_X12_readLines at hs
  refine lv_iconst (v := 0) hx hb dX12_readLines_0 (by decide) ?_
  refine lv_istore (i := 4) (lv' := [(4, .int 0), (0, .ref th), (1, .int a0), (2, .int a1), (3, .int a2)]) hx hb dX12_readLines_1 hl (by decide) rfl (fun ls hl => ?_)
  refine lv_iconst (v := 0) hx hb dX12_readLines_3 (by decide) ?_
  refine lv_istore (i := 5) (lv' := [(5, .int 0), (4, .int 0), (0, .ref th), (1, .int a0), (2, .int a1), (3, .int a2)]) hx hb dX12_readLines_4 hl (by decide) rfl (fun ls hl => ?_)
  refine lv_iconst (v := 0) hx hb dX12_readLines_6 (by decide) ?_
  refine lv_istore (i := 6) (lv' := [(6, .int 0), (5, .int 0), (4, .int 0), (0, .ref th), (1, .int a0), (2, .int a1), (3, .int a2)]) hx hb dX12_readLines_7 hl (by decide) rfl (fun ls hl => ?_)
  refine lv_aload_n hx hb dX12_readLines_9 rfl (lv_at hl 3 rfl) ?_
  refine lv_iconst (v := 0) hx hb dX12_readLines_10 (by decide) ?_
  obtain ⟨h1, g_h1, hs⟩ := bd hs
  refine ro_pI F M fg_12_30 fp_12_30 rfl t_1036 g_h1 dX12_readLines_11 (fun H locs M => ?_)
  obtain ⟨q24, g_q24, hs⟩ := bd hs
  refine w_X12_readLines_L14 F N 0 0 0 h1 _ _ _ q24 g_q24 (lv_sub hl [3, 4, 5, 6, 2, 1, 0] rfl) M (fun t_ ls H locs eq_ hl M => ?_) (fun v eq_ => eq_.elim)
  subst eq_
  refine lv_iload hx hb dX12_readLines_133 (lv_at hl 0 rfl) ?_
  obtain rfl := Option.some.inj hs
  exact re_i F M dX12_readLines_135
abbrev rm_X12_log : Room := { frames := 6, cells := 0, slots := 0, locals := 136 }
theorem mf_X12_log : MV 12 yX12_log cX12_log 5 (some .int) 2 RX12 := ⟨t_1266, t_1264, t_1265, t_12, ⟨by decide +kernel, by decide +kernel, by decide +kernel⟩, rfl, by decide⟩
def s_X12_log (N : Nat) (h : IH) (th : Nat) (a0 : Int32) (a1 : Int32) : Option (Int32 × IH) := (gI h 12 29 (some th)).bind fun v1 => (pI h 12 29 (some th) 0).bind fun h2 => (pI h2 12 30 (some th) 0).bind fun h3 => (cV h3 12 (some th) fun a20 => s_X12_isStation h3 a20 a0).bind fun v4 => if v4 = 0 then some ((-1), h3) else (s_X12_isIn h3 a1.toInt64 0 2).bind fun v6 => if v6 = 0 then some ((-1), h3) else (gR h3 12 2 (some th)).bind fun v8 => (aI h3 v8 a0).bind fun v9 => if v9 = 4 then some ((-2), h3) else (cV h3 12 (some th) fun a19 => s_X12_readLines N h3 a19 ((3 * a0) + a1) 0 v1).bind fun v11 => if v11.1 ≤ 16 then (gR v11.2 12 9 (some th)).bind fun v13 => (cV v11.2 12 (some th) fun a17 => s_X12_readLines N v11.2 a17 ((3 * a0) + a1) 1 v1).bind fun v14 => (sI v14.2 v13 ((3 * a0) + a1) v14.1).bind fun h15 => (pZ h15 12 17 (some th) 0).bind fun h16 => some (v11.1, h16) else (pI v11.2 12 30 (some th) 0).bind fun h18 => some ((-3), h18)
set_option maxHeartbeats 4000000 in
set_option maxRecDepth 100000 in
theorem c_X12_log {l : Launch} {D : va_G} {cy : Nat → ClassId} {sz N : Nat} {h : IH} {th : Nat} {a0 : Int32} {a1 : Int32} {qF : Int32 × IH} (hs : s_X12_log N h th a0 a1 = some qF) : Ct l D cy yX12_log cX12_log 5 (some .int) rm_X12_log h sz [.ref th, .int a0, .int a1] qF.2 (some (.int qF.1)) := by
  refine ct_start (by decide +kernel) [(0, .ref th), (1, .int a0), (2, .int a1)] (Nat.le_of_ble_eq_true rfl) rfl ?_
  intro p e s m args below meth c A H0 ls F hin hsz M hl
  obtain ⟨hx, hb, hr, hml, hown, hlk, hts, hK, hN, hA, hH⟩ := id F
  generalize s.heap = H at M ⊢
  generalize ([] : List Loc) = locs at M ⊢
  unfold s_X12_log at hs
  refine lv_aload_n hx hb dX12_log_0 rfl (lv_at hl 0 rfl) ?_
  obtain ⟨v1, g_v1, hs⟩ := bd hs
  refine ro_gI F M fg_12_29 t_1035 g_v1 dX12_log_1 ?_
  refine lv_istore_n (i := 3) (lv' := [(3, .int v1), (0, .ref th), (1, .int a0), (2, .int a1)]) hx hb dX12_log_4 rfl hl (by decide) rfl (fun ls hl => ?_)
  refine lv_aload_n hx hb dX12_log_5 rfl (lv_at hl 1 rfl) ?_
  refine lv_iconst (v := 0) hx hb dX12_log_6 (by decide) ?_
  obtain ⟨h2, g_h2, hs⟩ := bd hs
  refine ro_pI F M fg_12_29 fp_12_29 rfl t_1035 g_h2 dX12_log_7 (fun H locs M => ?_)
  refine lv_aload_n hx hb dX12_log_10 rfl (lv_at hl 1 rfl) ?_
  refine lv_iconst (v := 0) hx hb dX12_log_11 (by decide) ?_
  obtain ⟨h3, g_h3, hs⟩ := bd hs
  refine ro_pI F M fg_12_30 fp_12_30 rfl t_1036 g_h3 dX12_log_12 (fun H locs M => ?_)
  refine lv_aload_n hx hb dX12_log_15 rfl (lv_at hl 1 rfl) ?_
  refine lv_iload_n hx hb dX12_log_16 rfl (lv_at hl 2 rfl) ?_
  obtain ⟨v4, g_v4, hs⟩ := bd hs
  obtain ⟨a20, e_a20, k_a20, g_v4⟩ := cV_some g_v4
  obtain rfl := Option.some.inj e_a20
  refine ca_Vi (bq := th) (As := [.int a0]) (rest := []) F M (c_X12_isStation g_v4) mf_X12_isStation t_1259 k_a20 rfl ⟨by decide, by decide⟩ ⟨rfl, rfl⟩ ⟨Nat.zero_le _, Nat.zero_le _⟩ hl.1 rfl (by decide) dX12_log_17 (fun H locs M => ?_)
  refine lv_if_eq (tgt := 35) hx hb dX12_log_20 (by decide) (fun c5 => ?_) (fun c5 => ?_)
  · rw [if_pos c5] at hs
    refine lv_iconst (v := (-1)) hx hb dX12_log_35 (by decide) ?_
    obtain rfl := Option.some.inj hs
    exact re_i F M dX12_log_36
  · rw [if_neg c5] at hs
    refine lv_iload_n hx hb dX12_log_23 rfl (lv_at hl 3 rfl) ?_
    refine lv_i2l hx hb dX12_log_24 rfl ?_
    refine lv_lconst (v := 0) hx hb dX12_log_25 (by decide) ?_
    refine lv_ldc2 (v := 2) hx hb hown (hts _ (List.mem_cons_of_mem _ t_1267)) dX12_log_26 ?_
    obtain ⟨v6, g_v6, hs⟩ := bd hs
    refine ca_Si (As := [.long a1.toInt64, .long 0, .long 2]) (rest := []) F M (c_X12_isIn g_v6) mf_X12_isIn t_1225 rfl ⟨by decide, by decide⟩ ⟨rfl, rfl⟩ ⟨Nat.zero_le _, Nat.zero_le _⟩ hl.1 rfl (by decide) dX12_log_29 (fun H locs M => ?_)
    refine lv_if_ne (tgt := 37) hx hb dX12_log_32 (by decide) (fun c7 => ?_) (fun c7 => ?_)
    · rw [if_neg c7] at hs
      refine lv_aload_n hx hb dX12_log_37 rfl (lv_at hl 1 rfl) ?_
      obtain ⟨v8, g_v8, hs⟩ := bd hs
      refine ro_gR F M fg_12_2 t_1008 g_v8 dX12_log_38 ?_
      refine lv_iload_n hx hb dX12_log_41 rfl (lv_at hl 2 rfl) ?_
      obtain ⟨v9, g_v9, hs⟩ := bd hs
      refine ro_aI F M g_v9 dX12_log_42 ?_
      refine lv_iconst (v := 4) hx hb dX12_log_43 (by decide) ?_
      refine lv_icmp_ne (tgt := 50) hx hb dX12_log_44 (by decide) (fun c10 => ?_) (fun c10 => ?_)
      · rw [if_neg c10] at hs
        refine lv_aload_n hx hb dX12_log_50 rfl (lv_at hl 1 rfl) ?_
        refine lv_iconst (v := 3) hx hb dX12_log_51 (by decide) ?_
        refine lv_iload_n hx hb dX12_log_52 rfl (lv_at hl 2 rfl) ?_
        refine lv_imul hx hb dX12_log_53 ?_
        refine lv_iload_n hx hb dX12_log_54 rfl (lv_at hl 3 rfl) ?_
        refine lv_iadd hx hb dX12_log_55 ?_
        refine lv_iconst (v := 0) hx hb dX12_log_56 (by decide) ?_
        refine lv_iload_n hx hb dX12_log_57 rfl (lv_at hl 0 rfl) ?_
        obtain ⟨v11, g_v11, hs⟩ := bd hs
        obtain ⟨a19, e_a19, k_a19, g_v11⟩ := cV_some g_v11
        obtain rfl := Option.some.inj e_a19
        refine ca_Vi (bq := th) (As := [.int ((3 * a0) + a1), .int 0, .int v1]) (rest := []) F M (c_X12_readLines g_v11) mf_X12_readLines t_1268 k_a19 rfl ⟨by decide, by decide⟩ ⟨rfl, rfl⟩ ⟨Nat.zero_le _, Nat.zero_le _⟩ hl.1 rfl (by decide) dX12_log_58 (fun H locs M => ?_)
        refine lv_istore (i := 4) (lv' := [(4, .int v11.1), (3, .int v1), (0, .ref th), (1, .int a0), (2, .int a1)]) hx hb dX12_log_61 hl (by decide) rfl (fun ls hl => ?_)
        refine lv_iload hx hb dX12_log_63 (lv_at hl 0 rfl) ?_
        refine lv_bipush (v := 16) hx hb dX12_log_65 (by decide) ?_
        refine lv_icmp_le (tgt := 78) hx hb dX12_log_67 (by decide) (fun c12 => ?_) (fun c12 => ?_)
        · rw [if_pos c12] at hs
          refine lv_aload_n hx hb dX12_log_78 rfl (lv_at hl 2 rfl) ?_
          obtain ⟨v13, g_v13, hs⟩ := bd hs
          refine ro_gR F M fg_12_9 t_1015 g_v13 dX12_log_79 ?_
          refine lv_iconst (v := 3) hx hb dX12_log_82 (by decide) ?_
          refine lv_iload_n hx hb dX12_log_83 rfl (lv_at hl 3 rfl) ?_
          refine lv_imul hx hb dX12_log_84 ?_
          refine lv_iload_n hx hb dX12_log_85 rfl (lv_at hl 4 rfl) ?_
          refine lv_iadd hx hb dX12_log_86 ?_
          refine lv_aload_n hx hb dX12_log_87 rfl (lv_at hl 2 rfl) ?_
          refine lv_iconst (v := 3) hx hb dX12_log_88 (by decide) ?_
          refine lv_iload_n hx hb dX12_log_89 rfl (lv_at hl 3 rfl) ?_
          refine lv_imul hx hb dX12_log_90 ?_
          refine lv_iload_n hx hb dX12_log_91 rfl (lv_at hl 4 rfl) ?_
          refine lv_iadd hx hb dX12_log_92 ?_
          refine lv_iconst (v := 1) hx hb dX12_log_93 (by decide) ?_
          refine lv_iload_n hx hb dX12_log_94 rfl (lv_at hl 1 rfl) ?_
          obtain ⟨v14, g_v14, hs⟩ := bd hs
          obtain ⟨a17, e_a17, k_a17, g_v14⟩ := cV_some g_v14
          obtain rfl := Option.some.inj e_a17
          refine ca_Vi (bq := th) (As := [.int ((3 * a0) + a1), .int 1, .int v1]) (rest := [.int ((3 * a0) + a1), va_rf v13]) F M (c_X12_readLines g_v14) mf_X12_readLines t_1268 k_a17 rfl ⟨by decide, by decide⟩ ⟨rfl, rfl⟩ ⟨Nat.zero_le _, Nat.zero_le _⟩ hl.1 rfl (by simp [cat_rf, cat_i, cat_j, cat_r]) dX12_log_95 (fun H locs M => ?_)
          obtain ⟨h15, g_h15, hs⟩ := bd hs
          refine ro_sI F M g_h15 dX12_log_98 (fun H locs M => ?_)
          refine lv_aload_n hx hb dX12_log_99 rfl (lv_at hl 2 rfl) ?_
          refine lv_iconst (v := 0) hx hb dX12_log_100 (by decide) ?_
          obtain ⟨h16, g_h16, hs⟩ := bd hs
          refine ro_pZ F M fg_12_17 fp_12_17 rfl t_1023 g_h16 dX12_log_101 (fun H locs M => ?_)
          refine lv_iload hx hb dX12_log_104 (lv_at hl 0 rfl) ?_
          obtain rfl := Option.some.inj hs
          exact re_i F M dX12_log_106
        · rw [if_neg c12] at hs
          refine lv_aload_n hx hb dX12_log_70 rfl (lv_at hl 2 rfl) ?_
          refine lv_iconst (v := 0) hx hb dX12_log_71 (by decide) ?_
          obtain ⟨h18, g_h18, hs⟩ := bd hs
          refine ro_pI F M fg_12_30 fp_12_30 rfl t_1036 g_h18 dX12_log_72 (fun H locs M => ?_)
          refine lv_bipush (v := (-3)) hx hb dX12_log_75 (by decide) ?_
          obtain rfl := Option.some.inj hs
          exact re_i F M dX12_log_77
      · rw [if_pos c10] at hs
        refine lv_bipush (v := (-2)) hx hb dX12_log_47 (by decide) ?_
        obtain rfl := Option.some.inj hs
        exact re_i F M dX12_log_49
    · rw [if_pos c7] at hs
      refine lv_iconst (v := (-1)) hx hb dX12_log_35 (by decide) ?_
      obtain rfl := Option.some.inj hs
      exact re_i F M dX12_log_36
abbrev rm_X12_wrong : Room := { frames := 1, cells := 0, slots := 0, locals := 25 }
theorem mf_X12_wrong : MV 12 yX12_wrong cX12_wrong 2 (some .int) 1 RX12 := ⟨t_1308, t_1306, t_1307, t_12, ⟨by decide +kernel, by decide +kernel, by decide +kernel⟩, rfl, by decide⟩
def s_X12_wrong (h : IH) (th : Nat) (a0 : Int32) : Option (Int32) := (gI h 12 30 (some th)).bind fun v1 => (s_X12_isIn h a0.toInt64 0 ((v1 - 1).toInt64)).bind fun v2 => ((if v2 = 0 then some (-1) else (gR h 12 31 (some th)).bind fun v4 => (aI h v4 a0).bind fun v5 => some v5) : Option (Int32)).bind fun q6 => some q6
set_option maxHeartbeats 4000000 in
set_option maxRecDepth 100000 in
theorem c_X12_wrong {l : Launch} {D : va_G} {cy : Nat → ClassId} {sz : Nat} {h : IH} {th : Nat} {a0 : Int32} {qF : Int32} (hs : s_X12_wrong h th a0 = some qF) : Ct l D cy yX12_wrong cX12_wrong 2 (some .int) rm_X12_wrong h sz [.ref th, .int a0] h (some (.int qF)) := by
  refine ct_start (by decide +kernel) [(0, .ref th), (1, .int a0)] (Nat.le_of_ble_eq_true rfl) rfl ?_
  intro p e s m args below meth c A H0 ls F hin hsz M hl
  obtain ⟨hx, hb, hr, hml, hown, hlk, hts, hK, hN, hA, hH⟩ := id F
  generalize s.heap = H at M ⊢
  generalize ([] : List Loc) = locs at M ⊢
  unfold s_X12_wrong at hs
  refine lv_iload_n hx hb dX12_wrong_0 rfl (lv_at hl 1 rfl) ?_
  refine lv_i2l hx hb dX12_wrong_1 rfl ?_
  refine lv_lconst (v := 0) hx hb dX12_wrong_2 (by decide) ?_
  refine lv_aload_n hx hb dX12_wrong_3 rfl (lv_at hl 0 rfl) ?_
  obtain ⟨v1, g_v1, hs⟩ := bd hs
  refine ro_gI F M fg_12_30 t_1036 g_v1 dX12_wrong_4 ?_
  refine lv_iconst (v := 1) hx hb dX12_wrong_7 (by decide) ?_
  refine lv_isub hx hb dX12_wrong_8 ?_
  refine lv_i2l hx hb dX12_wrong_9 rfl ?_
  obtain ⟨v2, g_v2, hs⟩ := bd hs
  refine ca_Si (As := [.long a0.toInt64, .long 0, .long ((v1 - 1).toInt64)]) (rest := []) F M (c_X12_isIn g_v2) mf_X12_isIn t_1225 rfl ⟨by decide, by decide⟩ ⟨rfl, rfl⟩ ⟨Nat.zero_le _, Nat.zero_le _⟩ hl.1 rfl (by decide) dX12_wrong_10 (fun H locs M => ?_)
  obtain ⟨q6, hsq6, hs⟩ := bd hs
  have KJ26 : ∀ (ls : Array Slot) (H : Heap) (locs : List Loc), lv_has ls 2 [] → Mo D cy A H0 h H locs → W p l e rm_X12_wrong s m args below meth c H locs 0 0 (MQ below (QR D cy h A (some (.int qF))) args s 0 0 A) (F0 m 26 ls [.int q6]) := by
    intro ls H locs hl M
    obtain rfl := Option.some.inj hs
    exact re_i F M dX12_wrong_26
  clear hs
  have hs := hsq6
  refine lv_if_eq (tgt := 25) hx hb dX12_wrong_13 (by decide) (fun c3 => ?_) (fun c3 => ?_)
  · rw [if_pos c3] at hs
    refine lv_iconst (v := (-1)) hx hb dX12_wrong_25 (by decide) ?_
    obtain rfl := Option.some.inj hs
    exact KJ26 _ _ _ (lv_sub hl [] rfl) M
  · rw [if_neg c3] at hs
    refine lv_aload_n hx hb dX12_wrong_16 rfl (lv_at hl 0 rfl) ?_
    obtain ⟨v4, g_v4, hs⟩ := bd hs
    refine ro_gR F M fg_12_31 t_1037 g_v4 dX12_wrong_17 ?_
    refine lv_iload_n hx hb dX12_wrong_20 rfl (lv_at hl 1 rfl) ?_
    obtain ⟨v5, g_v5, hs⟩ := bd hs
    refine ro_aI F M g_v5 dX12_wrong_21 ?_
    refine lv_goto (tgt := 26) hx hb dX12_wrong_22 (by decide) ?_
    obtain rfl := Option.some.inj hs
    exact KJ26 _ _ _ (lv_sub hl [] rfl) M
abbrev rm_X12_isWord : Room := { frames := 0, cells := 0, slots := 0, locals := 0 }
theorem mf_X12_isWord : MV 12 yX12_isWord cX12_isWord 6 (some .boolean) 4 RX12 := ⟨t_1320, t_1319, tS_90, t_12, ⟨by decide +kernel, by decide +kernel, by decide +kernel⟩, rfl, by decide⟩
def s_X12_isWord (h : IH) (th : Nat) (a0 : Int32) (a1 : Int32) (a2 : Int32) (a3 : Int32) : Option (Int32) := (gI h 12 43 (some th)).bind fun v1 => ((if a3 = 0 then some 3 else some 4) : Option (Int32)).bind fun q3 => ((if v1 = q3 then some 1 else some 0) : Option (Int32)).bind fun q5 => ((if q5 = 0 then some 0 else (gR h 12 28 (some th)).bind fun v7 => (gI h 12 42 (some th)).bind fun v8 => (aI h v7 v8).bind fun v9 => if v9 = a0 then (gR h 12 28 (some th)).bind fun v11 => (gI h 12 42 (some th)).bind fun v12 => (aI h v11 (v12 + 1)).bind fun v13 => if v13 = a1 then (gR h 12 28 (some th)).bind fun v15 => (gI h 12 42 (some th)).bind fun v16 => (aI h v15 (v16 + 2)).bind fun v17 => if v17 = a2 then if a3 = 0 then some 1 else (gR h 12 28 (some th)).bind fun v20 => (gI h 12 42 (some th)).bind fun v21 => (aI h v20 (v21 + 3)).bind fun v22 => if v22 = a3 then some 1 else some 0 else some 0 else some 0 else some 0) : Option (Int32)).bind fun q24 => if q24 = 0 ∨ q24 = 1 then some q24 else none
set_option maxHeartbeats 4000000 in
set_option maxRecDepth 100000 in
theorem c_X12_isWord {l : Launch} {D : va_G} {cy : Nat → ClassId} {sz : Nat} {h : IH} {th : Nat} {a0 : Int32} {a1 : Int32} {a2 : Int32} {a3 : Int32} {qF : Int32} (hs : s_X12_isWord h th a0 a1 a2 a3 = some qF) : Ct l D cy yX12_isWord cX12_isWord 6 (some .boolean) rm_X12_isWord h sz [.ref th, .int a0, .int a1, .int a2, .int a3] h (some (.int qF)) := by
  refine ct_start (by decide +kernel) [(0, .ref th), (1, .int a0), (2, .int a1), (3, .int a2), (4, .int a3)] (Nat.le_of_ble_eq_true rfl) rfl ?_
  intro p e s m args below meth c A H0 ls F hin hsz M hl
  obtain ⟨hx, hb, hr, hml, hown, hlk, hts, hK, hN, hA, hH⟩ := id F
  generalize s.heap = H at M ⊢
  generalize ([] : List Loc) = locs at M ⊢
  unfold s_X12_isWord at hs
  refine lv_aload_n hx hb dX12_isWord_0 rfl (lv_at hl 0 rfl) ?_
  obtain ⟨v1, g_v1, hs⟩ := bd hs
  refine ro_gI F M fg_12_43 t_1049 g_v1 dX12_isWord_1 ?_
  refine lv_iload hx hb dX12_isWord_4 (lv_at hl 4 rfl) ?_
  obtain ⟨q3, hsq3, hs⟩ := bd hs
  have KJ14 : ∀ (ls : Array Slot) (H : Heap) (locs : List Loc), lv_has ls 6 [(0, .ref th), (1, .int a0), (2, .int a1), (3, .int a2), (4, .int a3)] → Mo D cy A H0 h H locs → W p l e rm_X12_isWord s m args below meth c H locs 0 0 (MQ below (QR D cy h A (some (.int qF))) args s 0 0 A) (F0 m 14 ls [.int q3, .int v1]) := by
    intro ls H locs hl M
    obtain ⟨q5, hsq5, hs⟩ := bd hs
    have KJ22 : ∀ (ls : Array Slot) (H : Heap) (locs : List Loc), lv_has ls 6 [(0, .ref th), (1, .int a0), (2, .int a1), (3, .int a2), (4, .int a3)] → Mo D cy A H0 h H locs → W p l e rm_X12_isWord s m args below meth c H locs 0 0 (MQ below (QR D cy h A (some (.int qF))) args s 0 0 A) (F0 m 22 ls [.int q5]) := by
      intro ls H locs hl M
      refine lv_istore (i := 5) (lv' := [(5, .int q5), (0, .ref th), (1, .int a0), (2, .int a1), (3, .int a2), (4, .int a3)]) hx hb dX12_isWord_22 hl (by decide) rfl (fun ls hl => ?_)
      refine lv_iload hx hb dX12_isWord_24 (lv_at hl 0 rfl) ?_
      obtain ⟨q24, hsq24, hs⟩ := bd hs
      have KJ98 : ∀ (ls : Array Slot) (H : Heap) (locs : List Loc), lv_has ls 6 [] → Mo D cy A H0 h H locs → W p l e rm_X12_isWord s m args below meth c H locs 0 0 (MQ below (QR D cy h A (some (.int qF))) args s 0 0 A) (F0 m 98 ls [.int q24]) := by
        intro ls H locs hl M
        by_cases zg : q24 = 0 ∨ q24 = 1
        · rw [if_pos zg] at hs
          obtain rfl := Option.some.inj hs
          exact re_z F M zg dX12_isWord_98
        · rw [if_neg zg] at hs; cases hs
      clear hs
      have hs := hsq24
      refine lv_if_eq (tgt := 97) hx hb dX12_isWord_26 (by decide) (fun c6 => ?_) (fun c6 => ?_)
      · rw [if_pos c6] at hs
        refine lv_iconst (v := 0) hx hb dX12_isWord_97 (by decide) ?_
        obtain rfl := Option.some.inj hs
        exact KJ98 _ _ _ (lv_sub hl [] rfl) M
      · rw [if_neg c6] at hs
        refine lv_aload_n hx hb dX12_isWord_29 rfl (lv_at hl 1 rfl) ?_
        obtain ⟨v7, g_v7, hs⟩ := bd hs
        refine ro_gR F M fg_12_28 t_1034 g_v7 dX12_isWord_30 ?_
        refine lv_aload_n hx hb dX12_isWord_33 rfl (lv_at hl 1 rfl) ?_
        obtain ⟨v8, g_v8, hs⟩ := bd hs
        refine ro_gI F M fg_12_42 t_1048 g_v8 dX12_isWord_34 ?_
        obtain ⟨v9, g_v9, hs⟩ := bd hs
        refine ro_aI F M g_v9 dX12_isWord_37 ?_
        refine lv_iload_n hx hb dX12_isWord_38 rfl (lv_at hl 2 rfl) ?_
        refine lv_icmp_ne (tgt := 97) hx hb dX12_isWord_39 (by decide) (fun c10 => ?_) (fun c10 => ?_)
        · rw [if_neg c10] at hs
          refine lv_iconst (v := 0) hx hb dX12_isWord_97 (by decide) ?_
          obtain rfl := Option.some.inj hs
          exact KJ98 _ _ _ (lv_sub hl [] rfl) M
        · rw [if_pos c10] at hs
          refine lv_aload_n hx hb dX12_isWord_42 rfl (lv_at hl 1 rfl) ?_
          obtain ⟨v11, g_v11, hs⟩ := bd hs
          refine ro_gR F M fg_12_28 t_1034 g_v11 dX12_isWord_43 ?_
          refine lv_aload_n hx hb dX12_isWord_46 rfl (lv_at hl 1 rfl) ?_
          obtain ⟨v12, g_v12, hs⟩ := bd hs
          refine ro_gI F M fg_12_42 t_1048 g_v12 dX12_isWord_47 ?_
          refine lv_iconst (v := 1) hx hb dX12_isWord_50 (by decide) ?_
          refine lv_iadd hx hb dX12_isWord_51 ?_
          obtain ⟨v13, g_v13, hs⟩ := bd hs
          refine ro_aI F M g_v13 dX12_isWord_52 ?_
          refine lv_iload_n hx hb dX12_isWord_53 rfl (lv_at hl 3 rfl) ?_
          refine lv_icmp_ne (tgt := 97) hx hb dX12_isWord_54 (by decide) (fun c14 => ?_) (fun c14 => ?_)
          · rw [if_neg c14] at hs
            refine lv_iconst (v := 0) hx hb dX12_isWord_97 (by decide) ?_
            obtain rfl := Option.some.inj hs
            exact KJ98 _ _ _ (lv_sub hl [] rfl) M
          · rw [if_pos c14] at hs
            refine lv_aload_n hx hb dX12_isWord_57 rfl (lv_at hl 1 rfl) ?_
            obtain ⟨v15, g_v15, hs⟩ := bd hs
            refine ro_gR F M fg_12_28 t_1034 g_v15 dX12_isWord_58 ?_
            refine lv_aload_n hx hb dX12_isWord_61 rfl (lv_at hl 1 rfl) ?_
            obtain ⟨v16, g_v16, hs⟩ := bd hs
            refine ro_gI F M fg_12_42 t_1048 g_v16 dX12_isWord_62 ?_
            refine lv_iconst (v := 2) hx hb dX12_isWord_65 (by decide) ?_
            refine lv_iadd hx hb dX12_isWord_66 ?_
            obtain ⟨v17, g_v17, hs⟩ := bd hs
            refine ro_aI F M g_v17 dX12_isWord_67 ?_
            refine lv_iload_n hx hb dX12_isWord_68 rfl (lv_at hl 4 rfl) ?_
            refine lv_icmp_ne (tgt := 97) hx hb dX12_isWord_69 (by decide) (fun c18 => ?_) (fun c18 => ?_)
            · rw [if_neg c18] at hs
              refine lv_iconst (v := 0) hx hb dX12_isWord_97 (by decide) ?_
              obtain rfl := Option.some.inj hs
              exact KJ98 _ _ _ (lv_sub hl [] rfl) M
            · rw [if_pos c18] at hs
              refine lv_iload hx hb dX12_isWord_72 (lv_at hl 5 rfl) ?_
              refine lv_if_eq (tgt := 93) hx hb dX12_isWord_74 (by decide) (fun c19 => ?_) (fun c19 => ?_)
              · rw [if_pos c19] at hs
                refine lv_iconst (v := 1) hx hb dX12_isWord_93 (by decide) ?_
                refine lv_goto (tgt := 98) hx hb dX12_isWord_94 (by decide) ?_
                obtain rfl := Option.some.inj hs
                exact KJ98 _ _ _ (lv_sub hl [] rfl) M
              · rw [if_neg c19] at hs
                refine lv_aload_n hx hb dX12_isWord_77 rfl (lv_at hl 1 rfl) ?_
                obtain ⟨v20, g_v20, hs⟩ := bd hs
                refine ro_gR F M fg_12_28 t_1034 g_v20 dX12_isWord_78 ?_
                refine lv_aload_n hx hb dX12_isWord_81 rfl (lv_at hl 1 rfl) ?_
                obtain ⟨v21, g_v21, hs⟩ := bd hs
                refine ro_gI F M fg_12_42 t_1048 g_v21 dX12_isWord_82 ?_
                refine lv_iconst (v := 3) hx hb dX12_isWord_85 (by decide) ?_
                refine lv_iadd hx hb dX12_isWord_86 ?_
                obtain ⟨v22, g_v22, hs⟩ := bd hs
                refine ro_aI F M g_v22 dX12_isWord_87 ?_
                refine lv_iload hx hb dX12_isWord_88 (lv_at hl 5 rfl) ?_
                refine lv_icmp_ne (tgt := 97) hx hb dX12_isWord_90 (by decide) (fun c23 => ?_) (fun c23 => ?_)
                · rw [if_neg c23] at hs
                  refine lv_iconst (v := 0) hx hb dX12_isWord_97 (by decide) ?_
                  obtain rfl := Option.some.inj hs
                  exact KJ98 _ _ _ (lv_sub hl [] rfl) M
                · rw [if_pos c23] at hs
                  refine lv_iconst (v := 1) hx hb dX12_isWord_93 (by decide) ?_
                  refine lv_goto (tgt := 98) hx hb dX12_isWord_94 (by decide) ?_
                  obtain rfl := Option.some.inj hs
                  exact KJ98 _ _ _ (lv_sub hl [] rfl) M
    clear hs
    have hs := hsq5
    refine lv_icmp_ne (tgt := 21) hx hb dX12_isWord_14 (by decide) (fun c4 => ?_) (fun c4 => ?_)
    · rw [if_neg c4] at hs
      refine lv_iconst (v := 0) hx hb dX12_isWord_21 (by decide) ?_
      obtain rfl := Option.some.inj hs
      exact KJ22 _ _ _ (lv_sub hl [0, 1, 2, 3, 4] rfl) M
    · rw [if_pos c4] at hs
      refine lv_iconst (v := 1) hx hb dX12_isWord_17 (by decide) ?_
      refine lv_goto (tgt := 22) hx hb dX12_isWord_18 (by decide) ?_
      obtain rfl := Option.some.inj hs
      exact KJ22 _ _ _ (lv_sub hl [0, 1, 2, 3, 4] rfl) M
  clear hs
  have hs := hsq3
  refine lv_if_ne (tgt := 13) hx hb dX12_isWord_6 (by decide) (fun c2 => ?_) (fun c2 => ?_)
  · rw [if_neg c2] at hs
    refine lv_iconst (v := 4) hx hb dX12_isWord_13 (by decide) ?_
    obtain rfl := Option.some.inj hs
    exact KJ14 _ _ _ (lv_sub hl [0, 1, 2, 3, 4] rfl) M
  · rw [if_pos c2] at hs
    refine lv_iconst (v := 3) hx hb dX12_isWord_9 (by decide) ?_
    refine lv_goto (tgt := 14) hx hb dX12_isWord_10 (by decide) ?_
    obtain rfl := Option.some.inj hs
    exact KJ14 _ _ _ (lv_sub hl [0, 1, 2, 3, 4] rfl) M
abbrev rm_X12_wordHere : Room := { frames := 2, cells := 0, slots := 0, locals := 48 }
theorem mf_X12_wordHere : MV 12 yX12_wordHere cX12_wordHere 1 (some .int) 0 RX12 := ⟨t_1316, t_1315, tS_89, t_12, ⟨by decide +kernel, by decide +kernel, by decide +kernel⟩, rfl, by decide⟩
def s_X12_wordHere (N : Nat) (h : IH) (th : Nat) : Option (Int32) := (cV h 12 (some th) fun a34 => s_X12_isNumber N h a34 4).bind fun v1 => if v1 = 0 then (cV h 12 (some th) fun a33 => s_X12_isWord h a33 98 97 110 100).bind fun v3 => if v3 = 0 then (cV h 12 (some th) fun a32 => s_X12_isWord h a32 107 105 110 100).bind fun v5 => if v5 = 0 then (cV h 12 (some th) fun a31 => s_X12_isWord h a31 122 111 110 101).bind fun v7 => if v7 = 0 then (cV h 12 (some th) fun a30 => s_X12_isWord h a30 109 105 110 101).bind fun v9 => if v9 = 0 then (cV h 12 (some th) fun a29 => s_X12_isWord h a29 102 97 114 0).bind fun v11 => if v11 = 0 then (cV h 12 (some th) fun a28 => s_X12_isByte h a28 43).bind fun v13 => ((if v13 = 0 then (cV h 12 (some th) fun a26 => s_X12_isByte h a26 45).bind fun v15 => if v15 = 0 then (cV h 12 (some th) fun a25 => s_X12_isByte h a25 42).bind fun v17 => if v17 = 0 then (cV h 12 (some th) fun a24 => s_X12_isByte h a24 47).bind fun v19 => if v19 = 0 then (cV h 12 (some th) fun a23 => s_X12_isByte h a23 63).bind fun v21 => if v21 = 0 then some (-1) else some 9 else some 8 else some 7 else some 6 else some 5) : Option (Int32)).bind fun q27 => some q27 else some 4 else some 3 else some 2 else some 1 else some 0 else some 10
set_option maxHeartbeats 4000000 in
set_option maxRecDepth 100000 in
theorem c_X12_wordHere {l : Launch} {D : va_G} {cy : Nat → ClassId} {sz N : Nat} {h : IH} {th : Nat} {qF : Int32} (hs : s_X12_wordHere N h th = some qF) : Ct l D cy yX12_wordHere cX12_wordHere 1 (some .int) rm_X12_wordHere h sz [.ref th] h (some (.int qF)) := by
  refine ct_start (by decide +kernel) [(0, .ref th)] (Nat.le_of_ble_eq_true rfl) rfl ?_
  intro p e s m args below meth c A H0 ls F hin hsz M hl
  obtain ⟨hx, hb, hr, hml, hown, hlk, hts, hK, hN, hA, hH⟩ := id F
  generalize s.heap = H at M ⊢
  generalize ([] : List Loc) = locs at M ⊢
  unfold s_X12_wordHere at hs
  refine lv_aload_n hx hb dX12_wordHere_0 rfl (lv_at hl 0 rfl) ?_
  refine lv_iconst (v := 4) hx hb dX12_wordHere_1 (by decide) ?_
  obtain ⟨v1, g_v1, hs⟩ := bd hs
  obtain ⟨a34, e_a34, k_a34, g_v1⟩ := cV_some g_v1
  obtain rfl := Option.some.inj e_a34
  refine ca_Vi (bq := th) (As := [.int 4]) (rest := []) F M (c_X12_isNumber g_v1) mf_X12_isNumber t_1288 k_a34 rfl ⟨by decide, by decide⟩ ⟨rfl, rfl⟩ ⟨Nat.zero_le _, Nat.zero_le _⟩ hl.1 rfl (by decide) dX12_wordHere_2 (fun H locs M => ?_)
  refine lv_if_eq (tgt := 11) hx hb dX12_wordHere_5 (by decide) (fun c2 => ?_) (fun c2 => ?_)
  · rw [if_pos c2] at hs
    refine lv_aload_n hx hb dX12_wordHere_11 rfl (lv_at hl 0 rfl) ?_
    refine lv_bipush (v := 98) hx hb dX12_wordHere_12 (by decide) ?_
    refine lv_bipush (v := 97) hx hb dX12_wordHere_14 (by decide) ?_
    refine lv_bipush (v := 110) hx hb dX12_wordHere_16 (by decide) ?_
    refine lv_bipush (v := 100) hx hb dX12_wordHere_18 (by decide) ?_
    obtain ⟨v3, g_v3, hs⟩ := bd hs
    obtain ⟨a33, e_a33, k_a33, g_v3⟩ := cV_some g_v3
    obtain rfl := Option.some.inj e_a33
    refine ca_Vi (bq := th) (As := [.int 98, .int 97, .int 110, .int 100]) (rest := []) F M (c_X12_isWord g_v3) mf_X12_isWord t_1317 k_a33 rfl ⟨by decide, by decide⟩ ⟨rfl, rfl⟩ ⟨Nat.zero_le _, Nat.zero_le _⟩ hl.1 rfl (by decide) dX12_wordHere_20 (fun H locs M => ?_)
    refine lv_if_eq (tgt := 28) hx hb dX12_wordHere_23 (by decide) (fun c4 => ?_) (fun c4 => ?_)
    · rw [if_pos c4] at hs
      refine lv_aload_n hx hb dX12_wordHere_28 rfl (lv_at hl 0 rfl) ?_
      refine lv_bipush (v := 107) hx hb dX12_wordHere_29 (by decide) ?_
      refine lv_bipush (v := 105) hx hb dX12_wordHere_31 (by decide) ?_
      refine lv_bipush (v := 110) hx hb dX12_wordHere_33 (by decide) ?_
      refine lv_bipush (v := 100) hx hb dX12_wordHere_35 (by decide) ?_
      obtain ⟨v5, g_v5, hs⟩ := bd hs
      obtain ⟨a32, e_a32, k_a32, g_v5⟩ := cV_some g_v5
      obtain rfl := Option.some.inj e_a32
      refine ca_Vi (bq := th) (As := [.int 107, .int 105, .int 110, .int 100]) (rest := []) F M (c_X12_isWord g_v5) mf_X12_isWord t_1317 k_a32 rfl ⟨by decide, by decide⟩ ⟨rfl, rfl⟩ ⟨Nat.zero_le _, Nat.zero_le _⟩ hl.1 rfl (by decide) dX12_wordHere_37 (fun H locs M => ?_)
      refine lv_if_eq (tgt := 45) hx hb dX12_wordHere_40 (by decide) (fun c6 => ?_) (fun c6 => ?_)
      · rw [if_pos c6] at hs
        refine lv_aload_n hx hb dX12_wordHere_45 rfl (lv_at hl 0 rfl) ?_
        refine lv_bipush (v := 122) hx hb dX12_wordHere_46 (by decide) ?_
        refine lv_bipush (v := 111) hx hb dX12_wordHere_48 (by decide) ?_
        refine lv_bipush (v := 110) hx hb dX12_wordHere_50 (by decide) ?_
        refine lv_bipush (v := 101) hx hb dX12_wordHere_52 (by decide) ?_
        obtain ⟨v7, g_v7, hs⟩ := bd hs
        obtain ⟨a31, e_a31, k_a31, g_v7⟩ := cV_some g_v7
        obtain rfl := Option.some.inj e_a31
        refine ca_Vi (bq := th) (As := [.int 122, .int 111, .int 110, .int 101]) (rest := []) F M (c_X12_isWord g_v7) mf_X12_isWord t_1317 k_a31 rfl ⟨by decide, by decide⟩ ⟨rfl, rfl⟩ ⟨Nat.zero_le _, Nat.zero_le _⟩ hl.1 rfl (by decide) dX12_wordHere_54 (fun H locs M => ?_)
        refine lv_if_eq (tgt := 62) hx hb dX12_wordHere_57 (by decide) (fun c8 => ?_) (fun c8 => ?_)
        · rw [if_pos c8] at hs
          refine lv_aload_n hx hb dX12_wordHere_62 rfl (lv_at hl 0 rfl) ?_
          refine lv_bipush (v := 109) hx hb dX12_wordHere_63 (by decide) ?_
          refine lv_bipush (v := 105) hx hb dX12_wordHere_65 (by decide) ?_
          refine lv_bipush (v := 110) hx hb dX12_wordHere_67 (by decide) ?_
          refine lv_bipush (v := 101) hx hb dX12_wordHere_69 (by decide) ?_
          obtain ⟨v9, g_v9, hs⟩ := bd hs
          obtain ⟨a30, e_a30, k_a30, g_v9⟩ := cV_some g_v9
          obtain rfl := Option.some.inj e_a30
          refine ca_Vi (bq := th) (As := [.int 109, .int 105, .int 110, .int 101]) (rest := []) F M (c_X12_isWord g_v9) mf_X12_isWord t_1317 k_a30 rfl ⟨by decide, by decide⟩ ⟨rfl, rfl⟩ ⟨Nat.zero_le _, Nat.zero_le _⟩ hl.1 rfl (by decide) dX12_wordHere_71 (fun H locs M => ?_)
          refine lv_if_eq (tgt := 79) hx hb dX12_wordHere_74 (by decide) (fun c10 => ?_) (fun c10 => ?_)
          · rw [if_pos c10] at hs
            refine lv_aload_n hx hb dX12_wordHere_79 rfl (lv_at hl 0 rfl) ?_
            refine lv_bipush (v := 102) hx hb dX12_wordHere_80 (by decide) ?_
            refine lv_bipush (v := 97) hx hb dX12_wordHere_82 (by decide) ?_
            refine lv_bipush (v := 114) hx hb dX12_wordHere_84 (by decide) ?_
            refine lv_iconst (v := 0) hx hb dX12_wordHere_86 (by decide) ?_
            obtain ⟨v11, g_v11, hs⟩ := bd hs
            obtain ⟨a29, e_a29, k_a29, g_v11⟩ := cV_some g_v11
            obtain rfl := Option.some.inj e_a29
            refine ca_Vi (bq := th) (As := [.int 102, .int 97, .int 114, .int 0]) (rest := []) F M (c_X12_isWord g_v11) mf_X12_isWord t_1317 k_a29 rfl ⟨by decide, by decide⟩ ⟨rfl, rfl⟩ ⟨Nat.zero_le _, Nat.zero_le _⟩ hl.1 rfl (by decide) dX12_wordHere_87 (fun H locs M => ?_)
            refine lv_if_eq (tgt := 95) hx hb dX12_wordHere_90 (by decide) (fun c12 => ?_) (fun c12 => ?_)
            · rw [if_pos c12] at hs
              refine lv_aload_n hx hb dX12_wordHere_95 rfl (lv_at hl 0 rfl) ?_
              refine lv_bipush (v := 43) hx hb dX12_wordHere_96 (by decide) ?_
              obtain ⟨v13, g_v13, hs⟩ := bd hs
              obtain ⟨a28, e_a28, k_a28, g_v13⟩ := cV_some g_v13
              obtain rfl := Option.some.inj e_a28
              refine ca_Vi (bq := th) (As := [.int 43]) (rest := []) F M (c_X12_isByte g_v13) mf_X12_isByte t_1280 k_a28 rfl ⟨by decide, by decide⟩ ⟨rfl, rfl⟩ ⟨Nat.zero_le _, Nat.zero_le _⟩ hl.1 rfl (by decide) dX12_wordHere_98 (fun H locs M => ?_)
              obtain ⟨q27, hsq27, hs⟩ := bd hs
              have KJ165 : ∀ (ls : Array Slot) (H : Heap) (locs : List Loc), lv_has ls 1 [] → Mo D cy A H0 h H locs → W p l e rm_X12_wordHere s m args below meth c H locs 0 0 (MQ below (QR D cy h A (some (.int qF))) args s 0 0 A) (F0 m 165 ls [.int q27]) := by
                intro ls H locs hl M
                obtain rfl := Option.some.inj hs
                exact re_i F M dX12_wordHere_165
              clear hs
              have hs := hsq27
              refine lv_if_eq (tgt := 108) hx hb dX12_wordHere_101 (by decide) (fun c14 => ?_) (fun c14 => ?_)
              · rw [if_pos c14] at hs
                refine lv_aload_n hx hb dX12_wordHere_108 rfl (lv_at hl 0 rfl) ?_
                refine lv_bipush (v := 45) hx hb dX12_wordHere_109 (by decide) ?_
                obtain ⟨v15, g_v15, hs⟩ := bd hs
                obtain ⟨a26, e_a26, k_a26, g_v15⟩ := cV_some g_v15
                obtain rfl := Option.some.inj e_a26
                refine ca_Vi (bq := th) (As := [.int 45]) (rest := []) F M (c_X12_isByte g_v15) mf_X12_isByte t_1280 k_a26 rfl ⟨by decide, by decide⟩ ⟨rfl, rfl⟩ ⟨Nat.zero_le _, Nat.zero_le _⟩ hl.1 rfl (by decide) dX12_wordHere_111 (fun H locs M => ?_)
                refine lv_if_eq (tgt := 122) hx hb dX12_wordHere_114 (by decide) (fun c16 => ?_) (fun c16 => ?_)
                · rw [if_pos c16] at hs
                  refine lv_aload_n hx hb dX12_wordHere_122 rfl (lv_at hl 0 rfl) ?_
                  refine lv_bipush (v := 42) hx hb dX12_wordHere_123 (by decide) ?_
                  obtain ⟨v17, g_v17, hs⟩ := bd hs
                  obtain ⟨a25, e_a25, k_a25, g_v17⟩ := cV_some g_v17
                  obtain rfl := Option.some.inj e_a25
                  refine ca_Vi (bq := th) (As := [.int 42]) (rest := []) F M (c_X12_isByte g_v17) mf_X12_isByte t_1280 k_a25 rfl ⟨by decide, by decide⟩ ⟨rfl, rfl⟩ ⟨Nat.zero_le _, Nat.zero_le _⟩ hl.1 rfl (by decide) dX12_wordHere_125 (fun H locs M => ?_)
                  refine lv_if_eq (tgt := 136) hx hb dX12_wordHere_128 (by decide) (fun c18 => ?_) (fun c18 => ?_)
                  · rw [if_pos c18] at hs
                    refine lv_aload_n hx hb dX12_wordHere_136 rfl (lv_at hl 0 rfl) ?_
                    refine lv_bipush (v := 47) hx hb dX12_wordHere_137 (by decide) ?_
                    obtain ⟨v19, g_v19, hs⟩ := bd hs
                    obtain ⟨a24, e_a24, k_a24, g_v19⟩ := cV_some g_v19
                    obtain rfl := Option.some.inj e_a24
                    refine ca_Vi (bq := th) (As := [.int 47]) (rest := []) F M (c_X12_isByte g_v19) mf_X12_isByte t_1280 k_a24 rfl ⟨by decide, by decide⟩ ⟨rfl, rfl⟩ ⟨Nat.zero_le _, Nat.zero_le _⟩ hl.1 rfl (by decide) dX12_wordHere_139 (fun H locs M => ?_)
                    refine lv_if_eq (tgt := 150) hx hb dX12_wordHere_142 (by decide) (fun c20 => ?_) (fun c20 => ?_)
                    · rw [if_pos c20] at hs
                      refine lv_aload_n hx hb dX12_wordHere_150 rfl (lv_at hl 0 rfl) ?_
                      refine lv_bipush (v := 63) hx hb dX12_wordHere_151 (by decide) ?_
                      obtain ⟨v21, g_v21, hs⟩ := bd hs
                      obtain ⟨a23, e_a23, k_a23, g_v21⟩ := cV_some g_v21
                      obtain rfl := Option.some.inj e_a23
                      refine ca_Vi (bq := th) (As := [.int 63]) (rest := []) F M (c_X12_isByte g_v21) mf_X12_isByte t_1280 k_a23 rfl ⟨by decide, by decide⟩ ⟨rfl, rfl⟩ ⟨Nat.zero_le _, Nat.zero_le _⟩ hl.1 rfl (by decide) dX12_wordHere_153 (fun H locs M => ?_)
                      refine lv_if_eq (tgt := 164) hx hb dX12_wordHere_156 (by decide) (fun c22 => ?_) (fun c22 => ?_)
                      · rw [if_pos c22] at hs
                        refine lv_iconst (v := (-1)) hx hb dX12_wordHere_164 (by decide) ?_
                        obtain rfl := Option.some.inj hs
                        exact KJ165 _ _ _ (lv_sub hl [] rfl) M
                      · rw [if_neg c22] at hs
                        refine lv_bipush (v := 9) hx hb dX12_wordHere_159 (by decide) ?_
                        refine lv_goto (tgt := 165) hx hb dX12_wordHere_161 (by decide) ?_
                        obtain rfl := Option.some.inj hs
                        exact KJ165 _ _ _ (lv_sub hl [] rfl) M
                    · rw [if_neg c20] at hs
                      refine lv_bipush (v := 8) hx hb dX12_wordHere_145 (by decide) ?_
                      refine lv_goto (tgt := 165) hx hb dX12_wordHere_147 (by decide) ?_
                      obtain rfl := Option.some.inj hs
                      exact KJ165 _ _ _ (lv_sub hl [] rfl) M
                  · rw [if_neg c18] at hs
                    refine lv_bipush (v := 7) hx hb dX12_wordHere_131 (by decide) ?_
                    refine lv_goto (tgt := 165) hx hb dX12_wordHere_133 (by decide) ?_
                    obtain rfl := Option.some.inj hs
                    exact KJ165 _ _ _ (lv_sub hl [] rfl) M
                · rw [if_neg c16] at hs
                  refine lv_bipush (v := 6) hx hb dX12_wordHere_117 (by decide) ?_
                  refine lv_goto (tgt := 165) hx hb dX12_wordHere_119 (by decide) ?_
                  obtain rfl := Option.some.inj hs
                  exact KJ165 _ _ _ (lv_sub hl [] rfl) M
              · rw [if_neg c14] at hs
                refine lv_iconst (v := 5) hx hb dX12_wordHere_104 (by decide) ?_
                refine lv_goto (tgt := 165) hx hb dX12_wordHere_105 (by decide) ?_
                obtain rfl := Option.some.inj hs
                exact KJ165 _ _ _ (lv_sub hl [] rfl) M
            · rw [if_neg c12] at hs
              refine lv_iconst (v := 4) hx hb dX12_wordHere_93 (by decide) ?_
              obtain rfl := Option.some.inj hs
              exact re_i F M dX12_wordHere_94
          · rw [if_neg c10] at hs
            refine lv_iconst (v := 3) hx hb dX12_wordHere_77 (by decide) ?_
            obtain rfl := Option.some.inj hs
            exact re_i F M dX12_wordHere_78
        · rw [if_neg c8] at hs
          refine lv_iconst (v := 2) hx hb dX12_wordHere_60 (by decide) ?_
          obtain rfl := Option.some.inj hs
          exact re_i F M dX12_wordHere_61
      · rw [if_neg c6] at hs
        refine lv_iconst (v := 1) hx hb dX12_wordHere_43 (by decide) ?_
        obtain rfl := Option.some.inj hs
        exact re_i F M dX12_wordHere_44
    · rw [if_neg c4] at hs
      refine lv_iconst (v := 0) hx hb dX12_wordHere_26 (by decide) ?_
      obtain rfl := Option.some.inj hs
      exact re_i F M dX12_wordHere_27
  · rw [if_neg c2] at hs
    refine lv_bipush (v := 10) hx hb dX12_wordHere_8 (by decide) ?_
    obtain rfl := Option.some.inj hs
    exact re_i F M dX12_wordHere_10
abbrev rm_X12_isOperator : Room := { frames := 1, cells := 0, slots := 0, locals := 25 }
theorem mf_X12_isOperator : MS yX12_isOperator cX12_isOperator 1 (some .boolean) 1 := ⟨t_1323, t_1322, t_12, ⟨by decide +kernel, by decide +kernel, by decide +kernel⟩⟩
def s_X12_isOperator (h : IH) (a0 : Int32) : Option (Int32) := (s_X12_isIn h a0.toInt64 5 9).bind fun v1 => if v1 = 0 ∨ v1 = 1 then some v1 else none
set_option maxHeartbeats 4000000 in
set_option maxRecDepth 100000 in
theorem c_X12_isOperator {l : Launch} {D : va_G} {cy : Nat → ClassId} {sz : Nat} {h : IH} {a0 : Int32} {qF : Int32} (hs : s_X12_isOperator h a0 = some qF) : Ct l D cy yX12_isOperator cX12_isOperator 1 (some .boolean) rm_X12_isOperator h sz [.int a0] h (some (.int qF)) := by
  refine ct_start (by decide +kernel) [(0, .int a0)] (Nat.le_of_ble_eq_true rfl) rfl ?_
  intro p e s m args below meth c A H0 ls F hin hsz M hl
  obtain ⟨hx, hb, hr, hml, hown, hlk, hts, hK, hN, hA, hH⟩ := id F
  generalize s.heap = H at M ⊢
  generalize ([] : List Loc) = locs at M ⊢
  unfold s_X12_isOperator at hs
  refine lv_iload_n hx hb dX12_isOperator_0 rfl (lv_at hl 0 rfl) ?_
  refine lv_i2l hx hb dX12_isOperator_1 rfl ?_
  refine lv_ldc2 (v := 5) hx hb hown (hts _ (List.mem_cons_of_mem _ t_1324)) dX12_isOperator_2 ?_
  refine lv_ldc2 (v := 9) hx hb hown (hts _ (List.mem_cons_of_mem _ t_1325)) dX12_isOperator_5 ?_
  obtain ⟨v1, g_v1, hs⟩ := bd hs
  refine ca_Si (As := [.long a0.toInt64, .long 5, .long 9]) (rest := []) F M (c_X12_isIn g_v1) mf_X12_isIn t_1225 rfl ⟨by decide, by decide⟩ ⟨rfl, rfl⟩ ⟨Nat.zero_le _, Nat.zero_le _⟩ hl.1 rfl (by decide) dX12_isOperator_8 (fun H locs M => ?_)
  by_cases zg : v1 = 0 ∨ v1 = 1
  · rw [if_pos zg] at hs
    obtain rfl := Option.some.inj hs
    exact re_z F M zg dX12_isOperator_11
  · rw [if_neg zg] at hs; cases hs
