abbrev rm_X11_points : Room := { frames := 5, cells := 0, slots := 0, locals := 116 }
theorem mf_X11_points : MV 11 yX11_points cX11_points 6 (some .int) 3 RX11 := ⟨t_893, t_891, t_892, t_1, ⟨by decide +kernel, by decide +kernel, by decide +kernel⟩, rfl, by decide⟩
def s_X11_points (N : Nat) (h : IH) (th : Nat) (a0 : Int32) (a1 : Int32) (a2 : Int32) : Option (Int32 × IH) := (cV h 11 (some th) fun a23 => s_X11_askedContact h a23 a0 a1 a2).bind fun v1 => (gR v1.2 11 1 (some th)).bind fun v2 => (cV v1.2 7 v2 fun a22 => s_X7_at v1.2 a22 a0).bind fun v3 => if v1.1 = none then (cV v1.2 11 (some th) fun a6 => s_X11_answered v1.2 a6 0).bind fun v5 => some (v5.1.toInt32, v5.2) else if v3 = none then (cV v1.2 11 (some th) fun a9 => s_X11_answered v1.2 a9 0).bind fun v8 => some (v8.1.toInt32, v8.2) else (gR v1.2 11 3 (some th)).bind fun v10 => (gR v1.2 11 1 (some th)).bind fun v11 => (gR v1.2 11 1 (some th)).bind fun v12 => (gL v1.2 2 3 v1.1).bind fun v13 => (cV v1.2 7 v12 fun a21 => s_X7_numberOf N v1.2 a21 v13).bind fun v14 => (cV v1.2 7 v11 fun a20 => s_X7_at v1.2 a20 v14).bind fun v15 => (cV v1.2 3 v10 fun a19 => s_X3_valueFor N v1.2 a19 a1 v3 v15).bind fun v16 => (cV v16.2 11 (some th) fun a18 => s_X11_answeredSum v16.2 a18 v16.1).bind fun v17 => some (v17.1.toInt32, v17.2)
set_option maxHeartbeats 4000000 in
set_option maxRecDepth 100000 in
theorem c_X11_points {l : Launch} {D : va_G} {cy : Nat → ClassId} {sz N : Nat} {h : IH} {th : Nat} {a0 : Int32} {a1 : Int32} {a2 : Int32} {qF : Int32 × IH} (hs : s_X11_points N h th a0 a1 a2 = some qF) : Ct l D cy yX11_points cX11_points 6 (some .int) rm_X11_points h sz [.ref th, .int a0, .int a1, .int a2] qF.2 (some (.int qF.1)) := by
  refine ct_start (by decide +kernel) [(0, .ref th), (1, .int a0), (2, .int a1), (3, .int a2)] (Nat.le_of_ble_eq_true rfl) rfl ?_
  intro p e s m args below meth c A H0 ls F hin hsz M hl
  obtain ⟨hx, hb, hr, hml, hown, hlk, hts, hK, hN, hA, hH⟩ := id F
  generalize s.heap = H at M ⊢
  generalize ([] : List Loc) = locs at M ⊢
  unfold s_X11_points at hs
  refine lv_aload_n hx hb dX11_points_0 rfl (lv_at hl 0 rfl) ?_
  refine lv_iload_n hx hb dX11_points_1 rfl (lv_at hl 1 rfl) ?_
  refine lv_iload_n hx hb dX11_points_2 rfl (lv_at hl 2 rfl) ?_
  refine lv_iload_n hx hb dX11_points_3 rfl (lv_at hl 3 rfl) ?_
  obtain ⟨v1, g_v1, hs⟩ := bd hs
  obtain ⟨a23, e_a23, k_a23, g_v1⟩ := cV_some g_v1
  obtain rfl := Option.some.inj e_a23
  refine ca_Va (bq := th) (As := [.int a0, .int a1, .int a2]) (rest := []) F M (c_X11_askedContact g_v1) mf_X11_askedContact t_693 k_a23 rfl ⟨by decide, by decide⟩ ⟨rfl, rfl⟩ ⟨Nat.zero_le _, Nat.zero_le _⟩ hl.1 rfl (by decide) dX11_points_4 (fun H locs M => ?_)
  refine lo_astore (i := 4) (lv' := [(4, va_rf v1.1), (0, .ref th), (1, .int a0), (2, .int a1), (3, .int a2)]) hx hb dX11_points_7 hl (by decide) rfl (fun ls hl => ?_)
  refine lv_aload_n hx hb dX11_points_9 rfl (lv_at hl 1 rfl) ?_
  obtain ⟨v2, g_v2, hs⟩ := bd hs
  refine ro_gR F M fg_11_1 t_331 g_v2 dX11_points_10 ?_
  refine lv_iload_n hx hb dX11_points_13 rfl (lv_at hl 2 rfl) ?_
  obtain ⟨v3, g_v3, hs⟩ := bd hs
  obtain ⟨a22, e_a22, k_a22, g_v3⟩ := cV_some g_v3
  refine ca_VNa (bq := a22) (As := [.int a0]) (rest := []) F M (c_X7_at g_v3) mf_X7_at tN_467 k_a22 rfl ⟨by decide, by decide⟩ ⟨rfl, rfl⟩ ⟨Nat.zero_le _, Nat.zero_le _⟩ hl.1 (by rw [e_a22]; rfl) (by decide) dX11_points_14 (fun H locs M => ?_)
  refine lo_astore (i := 5) (lv' := [(5, va_rf v3), (4, va_rf v1.1), (0, .ref th), (1, .int a0), (2, .int a1), (3, .int a2)]) hx hb dX11_points_17 hl (by decide) (by simp [cat_rf, cat_i, cat_j, cat_r]) (fun ls hl => ?_)
  refine lo_aload hx hb dX11_points_19 (lv_at hl 1 rfl) ?_
  refine lo_ifnull (tgt := 29) hx hb dX11_points_21 (by decide) (fun c4 => ?_) (fun c4 => ?_)
  · rw [if_pos c4] at hs
    refine lv_aload_n hx hb dX11_points_29 rfl (lv_at hl 2 rfl) ?_
    refine lv_lconst (v := 0) hx hb dX11_points_30 (by decide) ?_
    obtain ⟨v5, g_v5, hs⟩ := bd hs
    obtain ⟨a6, e_a6, k_a6, g_v5⟩ := cV_some g_v5
    obtain rfl := Option.some.inj e_a6
    refine ca_Vl (bq := th) (As := [.long 0]) (rest := []) F M (c_X11_answered g_v5) mf_X11_answered t_665 k_a6 rfl ⟨by decide, by decide⟩ ⟨rfl, rfl⟩ ⟨Nat.zero_le _, Nat.zero_le _⟩ hl.1 rfl (by decide) dX11_points_31 (fun H locs M => ?_)
    refine lv_l2i hx hb dX11_points_34 rfl ?_
    obtain rfl := Option.some.inj hs
    exact re_i F M dX11_points_35
  · rw [if_neg c4] at hs
    refine lo_aload hx hb dX11_points_24 (lv_at hl 0 rfl) ?_
    refine lo_ifnonnull (tgt := 36) hx hb dX11_points_26 (by decide) (fun c7 => ?_) (fun c7 => ?_)
    · rw [if_neg c7] at hs
      refine lv_aload_n hx hb dX11_points_36 rfl (lv_at hl 2 rfl) ?_
      refine lv_aload_n hx hb dX11_points_37 rfl (lv_at hl 2 rfl) ?_
      obtain ⟨v10, g_v10, hs⟩ := bd hs
      refine ro_gR F M fg_11_3 t_333 g_v10 dX11_points_38 ?_
      refine lv_iload_n hx hb dX11_points_41 rfl (lv_at hl 4 rfl) ?_
      refine lo_aload hx hb dX11_points_42 (lv_at hl 0 rfl) ?_
      refine lv_aload_n hx hb dX11_points_44 rfl (lv_at hl 2 rfl) ?_
      obtain ⟨v11, g_v11, hs⟩ := bd hs
      refine ro_gR F M fg_11_1 t_331 g_v11 dX11_points_45 ?_
      refine lv_aload_n hx hb dX11_points_48 rfl (lv_at hl 2 rfl) ?_
      obtain ⟨v12, g_v12, hs⟩ := bd hs
      refine ro_gR F M fg_11_1 t_331 g_v12 dX11_points_49 ?_
      refine lo_aload hx hb dX11_points_52 (lv_at hl 1 rfl) ?_
      obtain ⟨v13, g_v13, hs⟩ := bd hs
      refine ro_gLN F M fg_2_3 tN_108 g_v13 dX11_points_54 ?_
      obtain ⟨v14, g_v14, hs⟩ := bd hs
      obtain ⟨a21, e_a21, k_a21, g_v14⟩ := cV_some g_v14
      refine ca_VNi (bq := a21) (As := [.long v13]) (rest := [va_rf v11, va_rf v3, .int a1, va_rf v10, .ref th]) F M (c_X7_numberOf g_v14) mf_X7_numberOf tN_407 k_a21 rfl ⟨by decide, by decide⟩ ⟨rfl, rfl⟩ ⟨Nat.zero_le _, Nat.zero_le _⟩ hl.1 (by rw [e_a21]; rfl) (by simp [cat_rf, cat_i, cat_j, cat_r]) dX11_points_57 (fun H locs M => ?_)
      obtain ⟨v15, g_v15, hs⟩ := bd hs
      obtain ⟨a20, e_a20, k_a20, g_v15⟩ := cV_some g_v15
      refine ca_VNa (bq := a20) (As := [.int v14]) (rest := [va_rf v3, .int a1, va_rf v10, .ref th]) F M (c_X7_at g_v15) mf_X7_at tN_467 k_a20 rfl ⟨by decide, by decide⟩ ⟨rfl, rfl⟩ ⟨Nat.zero_le _, Nat.zero_le _⟩ hl.1 (by rw [e_a20]; rfl) (by simp [cat_rf, cat_i, cat_j, cat_r]) dX11_points_60 (fun H locs M => ?_)
      obtain ⟨v16, g_v16, hs⟩ := bd hs
      obtain ⟨a19, e_a19, k_a19, g_v16⟩ := cV_some g_v16
      refine ca_VNl (bq := a19) (As := [.int a1, va_rf v3, va_rf v15]) (rest := [.ref th]) F M (c_X3_valueFor g_v16) mf_X3_valueFor tN_894 k_a19 rfl ⟨by decide, by decide⟩ ⟨rfl, rfl⟩ ⟨Nat.zero_le _, Nat.zero_le _⟩ hl.1 (by rw [e_a19]; rfl) (by simp [cat_rf, cat_i, cat_j, cat_r]) dX11_points_63 (fun H locs M => ?_)
      obtain ⟨v17, g_v17, hs⟩ := bd hs
      obtain ⟨a18, e_a18, k_a18, g_v17⟩ := cV_some g_v17
      obtain rfl := Option.some.inj e_a18
      refine ca_Vl (bq := th) (As := [.long v16.1]) (rest := []) F M (c_X11_answeredSum g_v17) mf_X11_answeredSum t_918 k_a18 rfl ⟨by decide, by decide⟩ ⟨rfl, rfl⟩ ⟨Nat.zero_le _, Nat.zero_le _⟩ hl.1 rfl (by decide) dX11_points_66 (fun H locs M => ?_)
      refine lv_l2i hx hb dX11_points_69 rfl ?_
      obtain rfl := Option.some.inj hs
      exact re_i F M dX11_points_70
    · rw [if_pos c7] at hs
      refine lv_aload_n hx hb dX11_points_29 rfl (lv_at hl 2 rfl) ?_
      refine lv_lconst (v := 0) hx hb dX11_points_30 (by decide) ?_
      obtain ⟨v8, g_v8, hs⟩ := bd hs
      obtain ⟨a9, e_a9, k_a9, g_v8⟩ := cV_some g_v8
      obtain rfl := Option.some.inj e_a9
      refine ca_Vl (bq := th) (As := [.long 0]) (rest := []) F M (c_X11_answered g_v8) mf_X11_answered t_665 k_a9 rfl ⟨by decide, by decide⟩ ⟨rfl, rfl⟩ ⟨Nat.zero_le _, Nat.zero_le _⟩ hl.1 rfl (by decide) dX11_points_31 (fun H locs M => ?_)
      refine lv_l2i hx hb dX11_points_34 rfl ?_
      obtain rfl := Option.some.inj hs
      exact re_i F M dX11_points_35
abbrev rm_J13_bitCount_95d88 : Room := { frames := 0, cells := 0, slots := 0, locals := 0 }
theorem mf_J13_bitCount_95d88 : MS yJ13_bitCount_95d88 cJ13_bitCount_95d88 2 (some .int) 1 := ⟨t_946, t_945, t_20, ⟨by decide +kernel, by decide +kernel, by decide +kernel⟩⟩
def s_J13_bitCount_95d88 (h : IH) (a0 : Int64) : Option (Int32) := some ((((((((((a0 - (((a0.toUInt64 >>> ((1 : Int32).toInt64.toUInt64 &&& Int64.toUInt64 63)).toInt64) &&& 6148914691236517205)) &&& 3689348814741910323) + ((((a0 - (((a0.toUInt64 >>> ((1 : Int32).toInt64.toUInt64 &&& Int64.toUInt64 63)).toInt64) &&& 6148914691236517205)).toUInt64 >>> ((2 : Int32).toInt64.toUInt64 &&& Int64.toUInt64 63)).toInt64) &&& 3689348814741910323)) + (((((a0 - (((a0.toUInt64 >>> ((1 : Int32).toInt64.toUInt64 &&& Int64.toUInt64 63)).toInt64) &&& 6148914691236517205)) &&& 3689348814741910323) + ((((a0 - (((a0.toUInt64 >>> ((1 : Int32).toInt64.toUInt64 &&& Int64.toUInt64 63)).toInt64) &&& 6148914691236517205)).toUInt64 >>> ((2 : Int32).toInt64.toUInt64 &&& Int64.toUInt64 63)).toInt64) &&& 3689348814741910323)).toUInt64 >>> ((4 : Int32).toInt64.toUInt64 &&& Int64.toUInt64 63)).toInt64)) &&& 1085102592571150095) + (((((((a0 - (((a0.toUInt64 >>> ((1 : Int32).toInt64.toUInt64 &&& Int64.toUInt64 63)).toInt64) &&& 6148914691236517205)) &&& 3689348814741910323) + ((((a0 - (((a0.toUInt64 >>> ((1 : Int32).toInt64.toUInt64 &&& Int64.toUInt64 63)).toInt64) &&& 6148914691236517205)).toUInt64 >>> ((2 : Int32).toInt64.toUInt64 &&& Int64.toUInt64 63)).toInt64) &&& 3689348814741910323)) + (((((a0 - (((a0.toUInt64 >>> ((1 : Int32).toInt64.toUInt64 &&& Int64.toUInt64 63)).toInt64) &&& 6148914691236517205)) &&& 3689348814741910323) + ((((a0 - (((a0.toUInt64 >>> ((1 : Int32).toInt64.toUInt64 &&& Int64.toUInt64 63)).toInt64) &&& 6148914691236517205)).toUInt64 >>> ((2 : Int32).toInt64.toUInt64 &&& Int64.toUInt64 63)).toInt64) &&& 3689348814741910323)).toUInt64 >>> ((4 : Int32).toInt64.toUInt64 &&& Int64.toUInt64 63)).toInt64)) &&& 1085102592571150095).toUInt64 >>> ((8 : Int32).toInt64.toUInt64 &&& Int64.toUInt64 63)).toInt64)) + ((((((((a0 - (((a0.toUInt64 >>> ((1 : Int32).toInt64.toUInt64 &&& Int64.toUInt64 63)).toInt64) &&& 6148914691236517205)) &&& 3689348814741910323) + ((((a0 - (((a0.toUInt64 >>> ((1 : Int32).toInt64.toUInt64 &&& Int64.toUInt64 63)).toInt64) &&& 6148914691236517205)).toUInt64 >>> ((2 : Int32).toInt64.toUInt64 &&& Int64.toUInt64 63)).toInt64) &&& 3689348814741910323)) + (((((a0 - (((a0.toUInt64 >>> ((1 : Int32).toInt64.toUInt64 &&& Int64.toUInt64 63)).toInt64) &&& 6148914691236517205)) &&& 3689348814741910323) + ((((a0 - (((a0.toUInt64 >>> ((1 : Int32).toInt64.toUInt64 &&& Int64.toUInt64 63)).toInt64) &&& 6148914691236517205)).toUInt64 >>> ((2 : Int32).toInt64.toUInt64 &&& Int64.toUInt64 63)).toInt64) &&& 3689348814741910323)).toUInt64 >>> ((4 : Int32).toInt64.toUInt64 &&& Int64.toUInt64 63)).toInt64)) &&& 1085102592571150095) + (((((((a0 - (((a0.toUInt64 >>> ((1 : Int32).toInt64.toUInt64 &&& Int64.toUInt64 63)).toInt64) &&& 6148914691236517205)) &&& 3689348814741910323) + ((((a0 - (((a0.toUInt64 >>> ((1 : Int32).toInt64.toUInt64 &&& Int64.toUInt64 63)).toInt64) &&& 6148914691236517205)).toUInt64 >>> ((2 : Int32).toInt64.toUInt64 &&& Int64.toUInt64 63)).toInt64) &&& 3689348814741910323)) + (((((a0 - (((a0.toUInt64 >>> ((1 : Int32).toInt64.toUInt64 &&& Int64.toUInt64 63)).toInt64) &&& 6148914691236517205)) &&& 3689348814741910323) + ((((a0 - (((a0.toUInt64 >>> ((1 : Int32).toInt64.toUInt64 &&& Int64.toUInt64 63)).toInt64) &&& 6148914691236517205)).toUInt64 >>> ((2 : Int32).toInt64.toUInt64 &&& Int64.toUInt64 63)).toInt64) &&& 3689348814741910323)).toUInt64 >>> ((4 : Int32).toInt64.toUInt64 &&& Int64.toUInt64 63)).toInt64)) &&& 1085102592571150095).toUInt64 >>> ((8 : Int32).toInt64.toUInt64 &&& Int64.toUInt64 63)).toInt64)).toUInt64 >>> ((16 : Int32).toInt64.toUInt64 &&& Int64.toUInt64 63)).toInt64)) + (((((((((a0 - (((a0.toUInt64 >>> ((1 : Int32).toInt64.toUInt64 &&& Int64.toUInt64 63)).toInt64) &&& 6148914691236517205)) &&& 3689348814741910323) + ((((a0 - (((a0.toUInt64 >>> ((1 : Int32).toInt64.toUInt64 &&& Int64.toUInt64 63)).toInt64) &&& 6148914691236517205)).toUInt64 >>> ((2 : Int32).toInt64.toUInt64 &&& Int64.toUInt64 63)).toInt64) &&& 3689348814741910323)) + (((((a0 - (((a0.toUInt64 >>> ((1 : Int32).toInt64.toUInt64 &&& Int64.toUInt64 63)).toInt64) &&& 6148914691236517205)) &&& 3689348814741910323) + ((((a0 - (((a0.toUInt64 >>> ((1 : Int32).toInt64.toUInt64 &&& Int64.toUInt64 63)).toInt64) &&& 6148914691236517205)).toUInt64 >>> ((2 : Int32).toInt64.toUInt64 &&& Int64.toUInt64 63)).toInt64) &&& 3689348814741910323)).toUInt64 >>> ((4 : Int32).toInt64.toUInt64 &&& Int64.toUInt64 63)).toInt64)) &&& 1085102592571150095) + (((((((a0 - (((a0.toUInt64 >>> ((1 : Int32).toInt64.toUInt64 &&& Int64.toUInt64 63)).toInt64) &&& 6148914691236517205)) &&& 3689348814741910323) + ((((a0 - (((a0.toUInt64 >>> ((1 : Int32).toInt64.toUInt64 &&& Int64.toUInt64 63)).toInt64) &&& 6148914691236517205)).toUInt64 >>> ((2 : Int32).toInt64.toUInt64 &&& Int64.toUInt64 63)).toInt64) &&& 3689348814741910323)) + (((((a0 - (((a0.toUInt64 >>> ((1 : Int32).toInt64.toUInt64 &&& Int64.toUInt64 63)).toInt64) &&& 6148914691236517205)) &&& 3689348814741910323) + ((((a0 - (((a0.toUInt64 >>> ((1 : Int32).toInt64.toUInt64 &&& Int64.toUInt64 63)).toInt64) &&& 6148914691236517205)).toUInt64 >>> ((2 : Int32).toInt64.toUInt64 &&& Int64.toUInt64 63)).toInt64) &&& 3689348814741910323)).toUInt64 >>> ((4 : Int32).toInt64.toUInt64 &&& Int64.toUInt64 63)).toInt64)) &&& 1085102592571150095).toUInt64 >>> ((8 : Int32).toInt64.toUInt64 &&& Int64.toUInt64 63)).toInt64)) + ((((((((a0 - (((a0.toUInt64 >>> ((1 : Int32).toInt64.toUInt64 &&& Int64.toUInt64 63)).toInt64) &&& 6148914691236517205)) &&& 3689348814741910323) + ((((a0 - (((a0.toUInt64 >>> ((1 : Int32).toInt64.toUInt64 &&& Int64.toUInt64 63)).toInt64) &&& 6148914691236517205)).toUInt64 >>> ((2 : Int32).toInt64.toUInt64 &&& Int64.toUInt64 63)).toInt64) &&& 3689348814741910323)) + (((((a0 - (((a0.toUInt64 >>> ((1 : Int32).toInt64.toUInt64 &&& Int64.toUInt64 63)).toInt64) &&& 6148914691236517205)) &&& 3689348814741910323) + ((((a0 - (((a0.toUInt64 >>> ((1 : Int32).toInt64.toUInt64 &&& Int64.toUInt64 63)).toInt64) &&& 6148914691236517205)).toUInt64 >>> ((2 : Int32).toInt64.toUInt64 &&& Int64.toUInt64 63)).toInt64) &&& 3689348814741910323)).toUInt64 >>> ((4 : Int32).toInt64.toUInt64 &&& Int64.toUInt64 63)).toInt64)) &&& 1085102592571150095) + (((((((a0 - (((a0.toUInt64 >>> ((1 : Int32).toInt64.toUInt64 &&& Int64.toUInt64 63)).toInt64) &&& 6148914691236517205)) &&& 3689348814741910323) + ((((a0 - (((a0.toUInt64 >>> ((1 : Int32).toInt64.toUInt64 &&& Int64.toUInt64 63)).toInt64) &&& 6148914691236517205)).toUInt64 >>> ((2 : Int32).toInt64.toUInt64 &&& Int64.toUInt64 63)).toInt64) &&& 3689348814741910323)) + (((((a0 - (((a0.toUInt64 >>> ((1 : Int32).toInt64.toUInt64 &&& Int64.toUInt64 63)).toInt64) &&& 6148914691236517205)) &&& 3689348814741910323) + ((((a0 - (((a0.toUInt64 >>> ((1 : Int32).toInt64.toUInt64 &&& Int64.toUInt64 63)).toInt64) &&& 6148914691236517205)).toUInt64 >>> ((2 : Int32).toInt64.toUInt64 &&& Int64.toUInt64 63)).toInt64) &&& 3689348814741910323)).toUInt64 >>> ((4 : Int32).toInt64.toUInt64 &&& Int64.toUInt64 63)).toInt64)) &&& 1085102592571150095).toUInt64 >>> ((8 : Int32).toInt64.toUInt64 &&& Int64.toUInt64 63)).toInt64)).toUInt64 >>> ((16 : Int32).toInt64.toUInt64 &&& Int64.toUInt64 63)).toInt64)).toUInt64 >>> ((32 : Int32).toInt64.toUInt64 &&& Int64.toUInt64 63)).toInt64)).toInt32) &&& 127)
set_option maxHeartbeats 4000000 in
set_option maxRecDepth 100000 in
theorem c_J13_bitCount_95d88 {l : Launch} {D : va_G} {cy : Nat → ClassId} {sz : Nat} {h : IH} {a0 : Int64} {qF : Int32} (hs : s_J13_bitCount_95d88 h a0 = some qF) : Ct l D cy yJ13_bitCount_95d88 cJ13_bitCount_95d88 2 (some .int) rm_J13_bitCount_95d88 h sz [.long a0] h (some (.int qF)) := by
  refine ct_startF (by decide +kernel) [(0, .long a0)] (Nat.le_of_ble_eq_true rfl) rfl ?_
  intro p e s m args below meth c A H0 ls F hin hsz M hl
  obtain ⟨hx, hb, hr, hml, hown, hlk, hts, hK, hN, hA, hH⟩ := id F
  generalize s.heap = H at M ⊢
  generalize ([] : List Loc) = locs at M ⊢
  unfold s_J13_bitCount_95d88 at hs
  refine lv_lload_n hx hb dJ13_bitCount_95d88_0 rfl (lv_at hl 0 rfl) ?_
  refine lv_lload_n hx hb dJ13_bitCount_95d88_1 rfl (lv_at hl 0 rfl) ?_
  refine lv_iconst (v := 1) hx hb dJ13_bitCount_95d88_2 (by decide) ?_
  refine lv_lushr hx hb dJ13_bitCount_95d88_3 rfl ?_
  refine lv_ldc2 (v := 6148914691236517205) hx hb hown (hts _ (List.mem_cons_of_mem _ t_947)) dJ13_bitCount_95d88_4 ?_
  refine lv_land hx hb dJ13_bitCount_95d88_7 ?_
  refine lv_lsub hx hb dJ13_bitCount_95d88_8 ?_
  refine lv_lstore_n (i := 0) (lv' := [(0, .long (a0 - (((a0.toUInt64 >>> ((1 : Int32).toInt64.toUInt64 &&& Int64.toUInt64 63)).toInt64) &&& 6148914691236517205)))]) hx hb dJ13_bitCount_95d88_9 rfl hl (by decide) rfl (fun ls hl => ?_)
  refine lv_lload_n hx hb dJ13_bitCount_95d88_10 rfl (lv_at hl 0 rfl) ?_
  refine lv_ldc2 (v := 3689348814741910323) hx hb hown (hts _ (List.mem_cons_of_mem _ t_948)) dJ13_bitCount_95d88_11 ?_
  refine lv_land hx hb dJ13_bitCount_95d88_14 ?_
  refine lv_lload_n hx hb dJ13_bitCount_95d88_15 rfl (lv_at hl 0 rfl) ?_
  refine lv_iconst (v := 2) hx hb dJ13_bitCount_95d88_16 (by decide) ?_
  refine lv_lushr hx hb dJ13_bitCount_95d88_17 rfl ?_
  refine lv_ldc2 (v := 3689348814741910323) hx hb hown (hts _ (List.mem_cons_of_mem _ t_948)) dJ13_bitCount_95d88_18 ?_
  refine lv_land hx hb dJ13_bitCount_95d88_21 ?_
  refine lv_ladd hx hb dJ13_bitCount_95d88_22 ?_
  refine lv_lstore_n (i := 0) (lv' := [(0, .long (((a0 - (((a0.toUInt64 >>> ((1 : Int32).toInt64.toUInt64 &&& Int64.toUInt64 63)).toInt64) &&& 6148914691236517205)) &&& 3689348814741910323) + ((((a0 - (((a0.toUInt64 >>> ((1 : Int32).toInt64.toUInt64 &&& Int64.toUInt64 63)).toInt64) &&& 6148914691236517205)).toUInt64 >>> ((2 : Int32).toInt64.toUInt64 &&& Int64.toUInt64 63)).toInt64) &&& 3689348814741910323)))]) hx hb dJ13_bitCount_95d88_23 rfl hl (by decide) rfl (fun ls hl => ?_)
  refine lv_lload_n hx hb dJ13_bitCount_95d88_24 rfl (lv_at hl 0 rfl) ?_
  refine lv_lload_n hx hb dJ13_bitCount_95d88_25 rfl (lv_at hl 0 rfl) ?_
  refine lv_iconst (v := 4) hx hb dJ13_bitCount_95d88_26 (by decide) ?_
  refine lv_lushr hx hb dJ13_bitCount_95d88_27 rfl ?_
  refine lv_ladd hx hb dJ13_bitCount_95d88_28 ?_
  refine lv_ldc2 (v := 1085102592571150095) hx hb hown (hts _ (List.mem_cons_of_mem _ t_949)) dJ13_bitCount_95d88_29 ?_
  refine lv_land hx hb dJ13_bitCount_95d88_32 ?_
  refine lv_lstore_n (i := 0) (lv' := [(0, .long (((((a0 - (((a0.toUInt64 >>> ((1 : Int32).toInt64.toUInt64 &&& Int64.toUInt64 63)).toInt64) &&& 6148914691236517205)) &&& 3689348814741910323) + ((((a0 - (((a0.toUInt64 >>> ((1 : Int32).toInt64.toUInt64 &&& Int64.toUInt64 63)).toInt64) &&& 6148914691236517205)).toUInt64 >>> ((2 : Int32).toInt64.toUInt64 &&& Int64.toUInt64 63)).toInt64) &&& 3689348814741910323)) + (((((a0 - (((a0.toUInt64 >>> ((1 : Int32).toInt64.toUInt64 &&& Int64.toUInt64 63)).toInt64) &&& 6148914691236517205)) &&& 3689348814741910323) + ((((a0 - (((a0.toUInt64 >>> ((1 : Int32).toInt64.toUInt64 &&& Int64.toUInt64 63)).toInt64) &&& 6148914691236517205)).toUInt64 >>> ((2 : Int32).toInt64.toUInt64 &&& Int64.toUInt64 63)).toInt64) &&& 3689348814741910323)).toUInt64 >>> ((4 : Int32).toInt64.toUInt64 &&& Int64.toUInt64 63)).toInt64)) &&& 1085102592571150095))]) hx hb dJ13_bitCount_95d88_33 rfl hl (by decide) rfl (fun ls hl => ?_)
  refine lv_lload_n hx hb dJ13_bitCount_95d88_34 rfl (lv_at hl 0 rfl) ?_
  refine lv_lload_n hx hb dJ13_bitCount_95d88_35 rfl (lv_at hl 0 rfl) ?_
  refine lv_bipush (v := 8) hx hb dJ13_bitCount_95d88_36 (by decide) ?_
  refine lv_lushr hx hb dJ13_bitCount_95d88_38 rfl ?_
  refine lv_ladd hx hb dJ13_bitCount_95d88_39 ?_
  refine lv_lstore_n (i := 0) (lv' := [(0, .long ((((((a0 - (((a0.toUInt64 >>> ((1 : Int32).toInt64.toUInt64 &&& Int64.toUInt64 63)).toInt64) &&& 6148914691236517205)) &&& 3689348814741910323) + ((((a0 - (((a0.toUInt64 >>> ((1 : Int32).toInt64.toUInt64 &&& Int64.toUInt64 63)).toInt64) &&& 6148914691236517205)).toUInt64 >>> ((2 : Int32).toInt64.toUInt64 &&& Int64.toUInt64 63)).toInt64) &&& 3689348814741910323)) + (((((a0 - (((a0.toUInt64 >>> ((1 : Int32).toInt64.toUInt64 &&& Int64.toUInt64 63)).toInt64) &&& 6148914691236517205)) &&& 3689348814741910323) + ((((a0 - (((a0.toUInt64 >>> ((1 : Int32).toInt64.toUInt64 &&& Int64.toUInt64 63)).toInt64) &&& 6148914691236517205)).toUInt64 >>> ((2 : Int32).toInt64.toUInt64 &&& Int64.toUInt64 63)).toInt64) &&& 3689348814741910323)).toUInt64 >>> ((4 : Int32).toInt64.toUInt64 &&& Int64.toUInt64 63)).toInt64)) &&& 1085102592571150095) + (((((((a0 - (((a0.toUInt64 >>> ((1 : Int32).toInt64.toUInt64 &&& Int64.toUInt64 63)).toInt64) &&& 6148914691236517205)) &&& 3689348814741910323) + ((((a0 - (((a0.toUInt64 >>> ((1 : Int32).toInt64.toUInt64 &&& Int64.toUInt64 63)).toInt64) &&& 6148914691236517205)).toUInt64 >>> ((2 : Int32).toInt64.toUInt64 &&& Int64.toUInt64 63)).toInt64) &&& 3689348814741910323)) + (((((a0 - (((a0.toUInt64 >>> ((1 : Int32).toInt64.toUInt64 &&& Int64.toUInt64 63)).toInt64) &&& 6148914691236517205)) &&& 3689348814741910323) + ((((a0 - (((a0.toUInt64 >>> ((1 : Int32).toInt64.toUInt64 &&& Int64.toUInt64 63)).toInt64) &&& 6148914691236517205)).toUInt64 >>> ((2 : Int32).toInt64.toUInt64 &&& Int64.toUInt64 63)).toInt64) &&& 3689348814741910323)).toUInt64 >>> ((4 : Int32).toInt64.toUInt64 &&& Int64.toUInt64 63)).toInt64)) &&& 1085102592571150095).toUInt64 >>> ((8 : Int32).toInt64.toUInt64 &&& Int64.toUInt64 63)).toInt64)))]) hx hb dJ13_bitCount_95d88_40 rfl hl (by decide) rfl (fun ls hl => ?_)
  refine lv_lload_n hx hb dJ13_bitCount_95d88_41 rfl (lv_at hl 0 rfl) ?_
  refine lv_lload_n hx hb dJ13_bitCount_95d88_42 rfl (lv_at hl 0 rfl) ?_
  refine lv_bipush (v := 16) hx hb dJ13_bitCount_95d88_43 (by decide) ?_
  refine lv_lushr hx hb dJ13_bitCount_95d88_45 rfl ?_
  refine lv_ladd hx hb dJ13_bitCount_95d88_46 ?_
  refine lv_lstore_n (i := 0) (lv' := [(0, .long (((((((a0 - (((a0.toUInt64 >>> ((1 : Int32).toInt64.toUInt64 &&& Int64.toUInt64 63)).toInt64) &&& 6148914691236517205)) &&& 3689348814741910323) + ((((a0 - (((a0.toUInt64 >>> ((1 : Int32).toInt64.toUInt64 &&& Int64.toUInt64 63)).toInt64) &&& 6148914691236517205)).toUInt64 >>> ((2 : Int32).toInt64.toUInt64 &&& Int64.toUInt64 63)).toInt64) &&& 3689348814741910323)) + (((((a0 - (((a0.toUInt64 >>> ((1 : Int32).toInt64.toUInt64 &&& Int64.toUInt64 63)).toInt64) &&& 6148914691236517205)) &&& 3689348814741910323) + ((((a0 - (((a0.toUInt64 >>> ((1 : Int32).toInt64.toUInt64 &&& Int64.toUInt64 63)).toInt64) &&& 6148914691236517205)).toUInt64 >>> ((2 : Int32).toInt64.toUInt64 &&& Int64.toUInt64 63)).toInt64) &&& 3689348814741910323)).toUInt64 >>> ((4 : Int32).toInt64.toUInt64 &&& Int64.toUInt64 63)).toInt64)) &&& 1085102592571150095) + (((((((a0 - (((a0.toUInt64 >>> ((1 : Int32).toInt64.toUInt64 &&& Int64.toUInt64 63)).toInt64) &&& 6148914691236517205)) &&& 3689348814741910323) + ((((a0 - (((a0.toUInt64 >>> ((1 : Int32).toInt64.toUInt64 &&& Int64.toUInt64 63)).toInt64) &&& 6148914691236517205)).toUInt64 >>> ((2 : Int32).toInt64.toUInt64 &&& Int64.toUInt64 63)).toInt64) &&& 3689348814741910323)) + (((((a0 - (((a0.toUInt64 >>> ((1 : Int32).toInt64.toUInt64 &&& Int64.toUInt64 63)).toInt64) &&& 6148914691236517205)) &&& 3689348814741910323) + ((((a0 - (((a0.toUInt64 >>> ((1 : Int32).toInt64.toUInt64 &&& Int64.toUInt64 63)).toInt64) &&& 6148914691236517205)).toUInt64 >>> ((2 : Int32).toInt64.toUInt64 &&& Int64.toUInt64 63)).toInt64) &&& 3689348814741910323)).toUInt64 >>> ((4 : Int32).toInt64.toUInt64 &&& Int64.toUInt64 63)).toInt64)) &&& 1085102592571150095).toUInt64 >>> ((8 : Int32).toInt64.toUInt64 &&& Int64.toUInt64 63)).toInt64)) + ((((((((a0 - (((a0.toUInt64 >>> ((1 : Int32).toInt64.toUInt64 &&& Int64.toUInt64 63)).toInt64) &&& 6148914691236517205)) &&& 3689348814741910323) + ((((a0 - (((a0.toUInt64 >>> ((1 : Int32).toInt64.toUInt64 &&& Int64.toUInt64 63)).toInt64) &&& 6148914691236517205)).toUInt64 >>> ((2 : Int32).toInt64.toUInt64 &&& Int64.toUInt64 63)).toInt64) &&& 3689348814741910323)) + (((((a0 - (((a0.toUInt64 >>> ((1 : Int32).toInt64.toUInt64 &&& Int64.toUInt64 63)).toInt64) &&& 6148914691236517205)) &&& 3689348814741910323) + ((((a0 - (((a0.toUInt64 >>> ((1 : Int32).toInt64.toUInt64 &&& Int64.toUInt64 63)).toInt64) &&& 6148914691236517205)).toUInt64 >>> ((2 : Int32).toInt64.toUInt64 &&& Int64.toUInt64 63)).toInt64) &&& 3689348814741910323)).toUInt64 >>> ((4 : Int32).toInt64.toUInt64 &&& Int64.toUInt64 63)).toInt64)) &&& 1085102592571150095) + (((((((a0 - (((a0.toUInt64 >>> ((1 : Int32).toInt64.toUInt64 &&& Int64.toUInt64 63)).toInt64) &&& 6148914691236517205)) &&& 3689348814741910323) + ((((a0 - (((a0.toUInt64 >>> ((1 : Int32).toInt64.toUInt64 &&& Int64.toUInt64 63)).toInt64) &&& 6148914691236517205)).toUInt64 >>> ((2 : Int32).toInt64.toUInt64 &&& Int64.toUInt64 63)).toInt64) &&& 3689348814741910323)) + (((((a0 - (((a0.toUInt64 >>> ((1 : Int32).toInt64.toUInt64 &&& Int64.toUInt64 63)).toInt64) &&& 6148914691236517205)) &&& 3689348814741910323) + ((((a0 - (((a0.toUInt64 >>> ((1 : Int32).toInt64.toUInt64 &&& Int64.toUInt64 63)).toInt64) &&& 6148914691236517205)).toUInt64 >>> ((2 : Int32).toInt64.toUInt64 &&& Int64.toUInt64 63)).toInt64) &&& 3689348814741910323)).toUInt64 >>> ((4 : Int32).toInt64.toUInt64 &&& Int64.toUInt64 63)).toInt64)) &&& 1085102592571150095).toUInt64 >>> ((8 : Int32).toInt64.toUInt64 &&& Int64.toUInt64 63)).toInt64)).toUInt64 >>> ((16 : Int32).toInt64.toUInt64 &&& Int64.toUInt64 63)).toInt64)))]) hx hb dJ13_bitCount_95d88_47 rfl hl (by decide) rfl (fun ls hl => ?_)
  refine lv_lload_n hx hb dJ13_bitCount_95d88_48 rfl (lv_at hl 0 rfl) ?_
  refine lv_lload_n hx hb dJ13_bitCount_95d88_49 rfl (lv_at hl 0 rfl) ?_
  refine lv_bipush (v := 32) hx hb dJ13_bitCount_95d88_50 (by decide) ?_
  refine lv_lushr hx hb dJ13_bitCount_95d88_52 rfl ?_
  refine lv_ladd hx hb dJ13_bitCount_95d88_53 ?_
  refine lv_lstore_n (i := 0) (lv' := [(0, .long ((((((((a0 - (((a0.toUInt64 >>> ((1 : Int32).toInt64.toUInt64 &&& Int64.toUInt64 63)).toInt64) &&& 6148914691236517205)) &&& 3689348814741910323) + ((((a0 - (((a0.toUInt64 >>> ((1 : Int32).toInt64.toUInt64 &&& Int64.toUInt64 63)).toInt64) &&& 6148914691236517205)).toUInt64 >>> ((2 : Int32).toInt64.toUInt64 &&& Int64.toUInt64 63)).toInt64) &&& 3689348814741910323)) + (((((a0 - (((a0.toUInt64 >>> ((1 : Int32).toInt64.toUInt64 &&& Int64.toUInt64 63)).toInt64) &&& 6148914691236517205)) &&& 3689348814741910323) + ((((a0 - (((a0.toUInt64 >>> ((1 : Int32).toInt64.toUInt64 &&& Int64.toUInt64 63)).toInt64) &&& 6148914691236517205)).toUInt64 >>> ((2 : Int32).toInt64.toUInt64 &&& Int64.toUInt64 63)).toInt64) &&& 3689348814741910323)).toUInt64 >>> ((4 : Int32).toInt64.toUInt64 &&& Int64.toUInt64 63)).toInt64)) &&& 1085102592571150095) + (((((((a0 - (((a0.toUInt64 >>> ((1 : Int32).toInt64.toUInt64 &&& Int64.toUInt64 63)).toInt64) &&& 6148914691236517205)) &&& 3689348814741910323) + ((((a0 - (((a0.toUInt64 >>> ((1 : Int32).toInt64.toUInt64 &&& Int64.toUInt64 63)).toInt64) &&& 6148914691236517205)).toUInt64 >>> ((2 : Int32).toInt64.toUInt64 &&& Int64.toUInt64 63)).toInt64) &&& 3689348814741910323)) + (((((a0 - (((a0.toUInt64 >>> ((1 : Int32).toInt64.toUInt64 &&& Int64.toUInt64 63)).toInt64) &&& 6148914691236517205)) &&& 3689348814741910323) + ((((a0 - (((a0.toUInt64 >>> ((1 : Int32).toInt64.toUInt64 &&& Int64.toUInt64 63)).toInt64) &&& 6148914691236517205)).toUInt64 >>> ((2 : Int32).toInt64.toUInt64 &&& Int64.toUInt64 63)).toInt64) &&& 3689348814741910323)).toUInt64 >>> ((4 : Int32).toInt64.toUInt64 &&& Int64.toUInt64 63)).toInt64)) &&& 1085102592571150095).toUInt64 >>> ((8 : Int32).toInt64.toUInt64 &&& Int64.toUInt64 63)).toInt64)) + ((((((((a0 - (((a0.toUInt64 >>> ((1 : Int32).toInt64.toUInt64 &&& Int64.toUInt64 63)).toInt64) &&& 6148914691236517205)) &&& 3689348814741910323) + ((((a0 - (((a0.toUInt64 >>> ((1 : Int32).toInt64.toUInt64 &&& Int64.toUInt64 63)).toInt64) &&& 6148914691236517205)).toUInt64 >>> ((2 : Int32).toInt64.toUInt64 &&& Int64.toUInt64 63)).toInt64) &&& 3689348814741910323)) + (((((a0 - (((a0.toUInt64 >>> ((1 : Int32).toInt64.toUInt64 &&& Int64.toUInt64 63)).toInt64) &&& 6148914691236517205)) &&& 3689348814741910323) + ((((a0 - (((a0.toUInt64 >>> ((1 : Int32).toInt64.toUInt64 &&& Int64.toUInt64 63)).toInt64) &&& 6148914691236517205)).toUInt64 >>> ((2 : Int32).toInt64.toUInt64 &&& Int64.toUInt64 63)).toInt64) &&& 3689348814741910323)).toUInt64 >>> ((4 : Int32).toInt64.toUInt64 &&& Int64.toUInt64 63)).toInt64)) &&& 1085102592571150095) + (((((((a0 - (((a0.toUInt64 >>> ((1 : Int32).toInt64.toUInt64 &&& Int64.toUInt64 63)).toInt64) &&& 6148914691236517205)) &&& 3689348814741910323) + ((((a0 - (((a0.toUInt64 >>> ((1 : Int32).toInt64.toUInt64 &&& Int64.toUInt64 63)).toInt64) &&& 6148914691236517205)).toUInt64 >>> ((2 : Int32).toInt64.toUInt64 &&& Int64.toUInt64 63)).toInt64) &&& 3689348814741910323)) + (((((a0 - (((a0.toUInt64 >>> ((1 : Int32).toInt64.toUInt64 &&& Int64.toUInt64 63)).toInt64) &&& 6148914691236517205)) &&& 3689348814741910323) + ((((a0 - (((a0.toUInt64 >>> ((1 : Int32).toInt64.toUInt64 &&& Int64.toUInt64 63)).toInt64) &&& 6148914691236517205)).toUInt64 >>> ((2 : Int32).toInt64.toUInt64 &&& Int64.toUInt64 63)).toInt64) &&& 3689348814741910323)).toUInt64 >>> ((4 : Int32).toInt64.toUInt64 &&& Int64.toUInt64 63)).toInt64)) &&& 1085102592571150095).toUInt64 >>> ((8 : Int32).toInt64.toUInt64 &&& Int64.toUInt64 63)).toInt64)).toUInt64 >>> ((16 : Int32).toInt64.toUInt64 &&& Int64.toUInt64 63)).toInt64)) + (((((((((a0 - (((a0.toUInt64 >>> ((1 : Int32).toInt64.toUInt64 &&& Int64.toUInt64 63)).toInt64) &&& 6148914691236517205)) &&& 3689348814741910323) + ((((a0 - (((a0.toUInt64 >>> ((1 : Int32).toInt64.toUInt64 &&& Int64.toUInt64 63)).toInt64) &&& 6148914691236517205)).toUInt64 >>> ((2 : Int32).toInt64.toUInt64 &&& Int64.toUInt64 63)).toInt64) &&& 3689348814741910323)) + (((((a0 - (((a0.toUInt64 >>> ((1 : Int32).toInt64.toUInt64 &&& Int64.toUInt64 63)).toInt64) &&& 6148914691236517205)) &&& 3689348814741910323) + ((((a0 - (((a0.toUInt64 >>> ((1 : Int32).toInt64.toUInt64 &&& Int64.toUInt64 63)).toInt64) &&& 6148914691236517205)).toUInt64 >>> ((2 : Int32).toInt64.toUInt64 &&& Int64.toUInt64 63)).toInt64) &&& 3689348814741910323)).toUInt64 >>> ((4 : Int32).toInt64.toUInt64 &&& Int64.toUInt64 63)).toInt64)) &&& 1085102592571150095) + (((((((a0 - (((a0.toUInt64 >>> ((1 : Int32).toInt64.toUInt64 &&& Int64.toUInt64 63)).toInt64) &&& 6148914691236517205)) &&& 3689348814741910323) + ((((a0 - (((a0.toUInt64 >>> ((1 : Int32).toInt64.toUInt64 &&& Int64.toUInt64 63)).toInt64) &&& 6148914691236517205)).toUInt64 >>> ((2 : Int32).toInt64.toUInt64 &&& Int64.toUInt64 63)).toInt64) &&& 3689348814741910323)) + (((((a0 - (((a0.toUInt64 >>> ((1 : Int32).toInt64.toUInt64 &&& Int64.toUInt64 63)).toInt64) &&& 6148914691236517205)) &&& 3689348814741910323) + ((((a0 - (((a0.toUInt64 >>> ((1 : Int32).toInt64.toUInt64 &&& Int64.toUInt64 63)).toInt64) &&& 6148914691236517205)).toUInt64 >>> ((2 : Int32).toInt64.toUInt64 &&& Int64.toUInt64 63)).toInt64) &&& 3689348814741910323)).toUInt64 >>> ((4 : Int32).toInt64.toUInt64 &&& Int64.toUInt64 63)).toInt64)) &&& 1085102592571150095).toUInt64 >>> ((8 : Int32).toInt64.toUInt64 &&& Int64.toUInt64 63)).toInt64)) + ((((((((a0 - (((a0.toUInt64 >>> ((1 : Int32).toInt64.toUInt64 &&& Int64.toUInt64 63)).toInt64) &&& 6148914691236517205)) &&& 3689348814741910323) + ((((a0 - (((a0.toUInt64 >>> ((1 : Int32).toInt64.toUInt64 &&& Int64.toUInt64 63)).toInt64) &&& 6148914691236517205)).toUInt64 >>> ((2 : Int32).toInt64.toUInt64 &&& Int64.toUInt64 63)).toInt64) &&& 3689348814741910323)) + (((((a0 - (((a0.toUInt64 >>> ((1 : Int32).toInt64.toUInt64 &&& Int64.toUInt64 63)).toInt64) &&& 6148914691236517205)) &&& 3689348814741910323) + ((((a0 - (((a0.toUInt64 >>> ((1 : Int32).toInt64.toUInt64 &&& Int64.toUInt64 63)).toInt64) &&& 6148914691236517205)).toUInt64 >>> ((2 : Int32).toInt64.toUInt64 &&& Int64.toUInt64 63)).toInt64) &&& 3689348814741910323)).toUInt64 >>> ((4 : Int32).toInt64.toUInt64 &&& Int64.toUInt64 63)).toInt64)) &&& 1085102592571150095) + (((((((a0 - (((a0.toUInt64 >>> ((1 : Int32).toInt64.toUInt64 &&& Int64.toUInt64 63)).toInt64) &&& 6148914691236517205)) &&& 3689348814741910323) + ((((a0 - (((a0.toUInt64 >>> ((1 : Int32).toInt64.toUInt64 &&& Int64.toUInt64 63)).toInt64) &&& 6148914691236517205)).toUInt64 >>> ((2 : Int32).toInt64.toUInt64 &&& Int64.toUInt64 63)).toInt64) &&& 3689348814741910323)) + (((((a0 - (((a0.toUInt64 >>> ((1 : Int32).toInt64.toUInt64 &&& Int64.toUInt64 63)).toInt64) &&& 6148914691236517205)) &&& 3689348814741910323) + ((((a0 - (((a0.toUInt64 >>> ((1 : Int32).toInt64.toUInt64 &&& Int64.toUInt64 63)).toInt64) &&& 6148914691236517205)).toUInt64 >>> ((2 : Int32).toInt64.toUInt64 &&& Int64.toUInt64 63)).toInt64) &&& 3689348814741910323)).toUInt64 >>> ((4 : Int32).toInt64.toUInt64 &&& Int64.toUInt64 63)).toInt64)) &&& 1085102592571150095).toUInt64 >>> ((8 : Int32).toInt64.toUInt64 &&& Int64.toUInt64 63)).toInt64)).toUInt64 >>> ((16 : Int32).toInt64.toUInt64 &&& Int64.toUInt64 63)).toInt64)).toUInt64 >>> ((32 : Int32).toInt64.toUInt64 &&& Int64.toUInt64 63)).toInt64)))]) hx hb dJ13_bitCount_95d88_54 rfl hl (by decide) rfl (fun ls hl => ?_)
  refine lv_lload_n hx hb dJ13_bitCount_95d88_55 rfl (lv_at hl 0 rfl) ?_
  refine lv_l2i hx hb dJ13_bitCount_95d88_56 rfl ?_
  refine lv_bipush (v := 127) hx hb dJ13_bitCount_95d88_57 (by decide) ?_
  refine lv_iand hx hb dJ13_bitCount_95d88_59 ?_
  obtain rfl := Option.some.inj hs
  exact re_i F M dJ13_bitCount_95d88_60
abbrev rm_X9_contactsWithWhy : Room := { frames := 1, cells := 0, slots := 0, locals := 21 }
theorem mf_X9_contactsWithWhy : MV 9 yX9_contactsWithWhy cX9_contactsWithWhy 9 (some .int) 1 RX9 := ⟨t_953, t_952, tS_73, t_13, ⟨by decide +kernel, by decide +kernel, by decide +kernel⟩, rfl, by decide⟩
def s_X9_contactsWithWhy_L30 (N : Nat) : Nat → Int32 → Int32 → Option Nat → Int32 → Int32 → Option Nat → Int32 → IH → Option (Int32)
  | 0, _, _, _, _, _, _, _, _ => none
  | n + 1, x1, x2, x3, x4, x5, x6, x7, h => (gI h 4 1 x6).bind fun v5 => if v5 ≤ x7 then some x2 else (cV h 4 x6 fun a12 => s_X4_contactAt h a12 x7).bind fun v7 => ((if v7 = none then some x2 else (gI h 2 9 v7).bind fun v9 => if v9 = x1 then some (x2 + 1) else some x2) : Option (Int32)).bind fun q11 => s_X9_contactsWithWhy_L30 N n x1 q11 x3 x4 x5 x6 (x7 + 1) h
def s_X9_contactsWithWhy_L14 (N : Nat) : Nat → Int32 → Int32 → Option Nat → Int32 → Int32 → IH → Option (Int32)
  | 0, _, _, _, _, _, _ => none
  | n + 1, x1, x2, x3, x4, x5, h => if x4 ≤ x5 then some x2 else (aR h 4 x3 x5).bind fun v4 => (s_X9_contactsWithWhy_L30 N N x1 x2 x3 x4 x5 v4 0 h).bind fun q13 => s_X9_contactsWithWhy_L14 N n x1 q13 x3 x4 (x5 + 1) h
def s_X9_contactsWithWhy (N : Nat) (h : IH) (th : Nat) (a0 : Int32) : Option (Int32) := (gR h 9 5 (some th)).bind fun v1 => (lnO h v1).bind fun v2 => (s_X9_contactsWithWhy_L14 N N a0 0 v1 v2 0 h).bind fun q14 => some q14
set_option maxHeartbeats 4000000 in
set_option maxRecDepth 100000 in
theorem w_X9_contactsWithWhy_L30 {p : Program} {l : Launch} {e : Env} {s : State} {m : MethodId} {args : Array Value} {below : List Frame} {meth : Method} {c : Code} {D : va_G} {cy : Nat → ClassId} {A : Nat → Prop} {H0 : Heap} {N : Nat} {x1 : Int32} {x3 : Option Nat} {x4 : Int32} {x5 : Int32} {x6 : Option Nat} {h : IH} {qF : Int32} (F : Fx p s m args meth c D cy A H0 yX9_contactsWithWhy cX9_contactsWithWhy 9 (some .int)) : ∀ (n : Nat) (x2 : Int32) (x7 : Int32) (ls : Array Slot) (H : Heap) (locs : List Loc) (q : Int32), s_X9_contactsWithWhy_L30 N n x1 x2 x3 x4 x5 x6 x7 h = some q → lv_has ls 9 [(1, .int x1), (2, .int x2), (3, va_rf x3), (4, .int x4), (5, .int x5), (6, va_rf x6), (7, .int x7)] → Mo D cy A H0 h H locs → (∀ (t : Int32) (ls : Array Slot) (H : Heap) (locs : List Loc), q = t → lv_has ls 9 [(1, .int x1), (2, .int t), (3, va_rf x3), (4, .int x4), (5, .int x5)] → Mo D cy A H0 h H locs → W p l e rm_X9_contactsWithWhy s m args below meth c H locs 0 0 (MQ below (QR D cy h A (some (.int qF))) args s 0 0 A) (F0 m 72 ls [])) → (∀ v : Int32, False → v = qF) → W p l e rm_X9_contactsWithWhy s m args below meth c H locs 0 0 (MQ below (QR D cy h A (some (.int qF))) args s 0 0 A) (F0 m 30 ls []) := by
  intro n
  induction n with
  | zero => intro x2 x7 ls H locs q hs; rw [s_X9_contactsWithWhy_L30.eq_1] at hs; cases hs
  | succ n ih =>
    intro x2 x7 ls H locs q hs hl M kx kr
    obtain ⟨hx, hb, hr, hml, hown, hlk, hts, hK, hN, hA, hH⟩ := id F
    rw [s_X9_contactsWithWhy_L30.eq_2] at hs
    refine lv_iload hx hb dX9_contactsWithWhy_30 (lv_at hl 6 rfl) ?_
    refine lo_aload hx hb dX9_contactsWithWhy_32 (lv_at hl 5 rfl) ?_
    obtain ⟨v5, g_v5, hs⟩ := bd hs
    refine ro_gIN F M fg_4_1 tN_173 g_v5 dX9_contactsWithWhy_34 ?_
    refine lv_icmp_ge (tgt := 72) hx hb dX9_contactsWithWhy_37 (by decide) (fun c6 => ?_) (fun c6 => ?_)
    · rw [if_pos c6] at hs
      exact kx x2 _ _ _ (Option.some.inj hs).symm (lv_sub hl [0, 1, 2, 3, 4] rfl) M
    · rw [if_neg c6] at hs
      refine lo_aload hx hb dX9_contactsWithWhy_40 (lv_at hl 5 rfl) ?_
      refine lv_iload hx hb dX9_contactsWithWhy_42 (lv_at hl 6 rfl) ?_
      obtain ⟨v7, g_v7, hs⟩ := bd hs
      obtain ⟨a12, e_a12, k_a12, g_v7⟩ := cV_some g_v7
      refine ca_VNa (bq := a12) (As := [.int x7]) (rest := []) F M (c_X4_contactAt g_v7) mf_X4_contactAt tN_954 k_a12 rfl ⟨by decide, by decide⟩ ⟨rfl, rfl⟩ ⟨Nat.zero_le _, Nat.zero_le _⟩ hl.1 (by rw [e_a12]; rfl) (by decide) dX9_contactsWithWhy_44 (fun H locs M => ?_)
      refine lo_astore (i := 8) (lv' := [(8, va_rf v7), (1, .int x1), (2, .int x2), (3, va_rf x3), (4, .int x4), (5, .int x5), (6, va_rf x6), (7, .int x7)]) hx hb dX9_contactsWithWhy_47 hl (by decide) rfl (fun ls hl => ?_)
      refine lo_aload hx hb dX9_contactsWithWhy_49 (lv_at hl 0 rfl) ?_
      obtain ⟨q11, hsq11, hs⟩ := bd hs
      have KJ66 : ∀ (ls : Array Slot) (H : Heap) (locs : List Loc), lv_has ls 9 [(1, .int x1), (2, .int q11), (3, va_rf x3), (4, .int x4), (5, .int x5), (6, va_rf x6), (7, .int x7)] → Mo D cy A H0 h H locs → W p l e rm_X9_contactsWithWhy s m args below meth c H locs 0 0 (MQ below (QR D cy h A (some (.int qF))) args s 0 0 A) (F0 m 66 ls []) := by
        intro ls H locs hl M
        refine lv_iinc (v := x7 + 1) (lv' := [(7, .int (x7 + 1)), (1, .int x1), (2, .int q11), (3, va_rf x3), (4, .int x4), (5, .int x5), (6, va_rf x6)]) hx hb dX9_contactsWithWhy_66 hl (k := 6) rfl rfl (by decide) (by simp [cat_rf, cat_i, cat_j, cat_r]) (fun ls hl => ?_)
        refine lv_goto (tgt := 30) hx hb dX9_contactsWithWhy_69 (by decide) ?_
        exact ih q11 (x7 + 1) _ _ _ _ hs (lv_sub hl [1, 2, 3, 4, 5, 6, 0] rfl) M kx kr
      clear hs
      have hs := hsq11
      refine lo_ifnull (tgt := 66) hx hb dX9_contactsWithWhy_51 (by decide) (fun c8 => ?_) (fun c8 => ?_)
      · rw [if_pos c8] at hs
        obtain rfl := Option.some.inj hs
        exact KJ66 _ _ _ (lv_sub hl [1, 2, 3, 4, 5, 6, 7] rfl) M
      · rw [if_neg c8] at hs
        refine lo_aload hx hb dX9_contactsWithWhy_54 (lv_at hl 0 rfl) ?_
        obtain ⟨v9, g_v9, hs⟩ := bd hs
        refine ro_gIN F M fg_2_9 tN_129 g_v9 dX9_contactsWithWhy_56 ?_
        refine lv_iload_n hx hb dX9_contactsWithWhy_59 rfl (lv_at hl 1 rfl) ?_
        refine lv_icmp_ne (tgt := 66) hx hb dX9_contactsWithWhy_60 (by decide) (fun c10 => ?_) (fun c10 => ?_)
        · rw [if_neg c10] at hs
          obtain rfl := Option.some.inj hs
          exact KJ66 _ _ _ (lv_sub hl [1, 2, 3, 4, 5, 6, 7] rfl) M
        · rw [if_pos c10] at hs
          refine lv_iinc (v := x2 + 1) (lv' := [(2, .int (x2 + 1)), (8, va_rf v7), (1, .int x1), (3, va_rf x3), (4, .int x4), (5, .int x5), (6, va_rf x6), (7, .int x7)]) hx hb dX9_contactsWithWhy_63 hl (k := 2) rfl rfl (by decide) rfl (fun ls hl => ?_)
          obtain rfl := Option.some.inj hs
          exact KJ66 _ _ _ (lv_sub hl [2, 0, 3, 4, 5, 6, 7] rfl) M
set_option maxHeartbeats 4000000 in
set_option maxRecDepth 100000 in
theorem w_X9_contactsWithWhy_L14 {p : Program} {l : Launch} {e : Env} {s : State} {m : MethodId} {args : Array Value} {below : List Frame} {meth : Method} {c : Code} {D : va_G} {cy : Nat → ClassId} {A : Nat → Prop} {H0 : Heap} {N : Nat} {x1 : Int32} {x3 : Option Nat} {x4 : Int32} {h : IH} {qF : Int32} (F : Fx p s m args meth c D cy A H0 yX9_contactsWithWhy cX9_contactsWithWhy 9 (some .int)) : ∀ (n : Nat) (x2 : Int32) (x5 : Int32) (ls : Array Slot) (H : Heap) (locs : List Loc) (q : Int32), s_X9_contactsWithWhy_L14 N n x1 x2 x3 x4 x5 h = some q → lv_has ls 9 [(1, .int x1), (2, .int x2), (3, va_rf x3), (4, .int x4), (5, .int x5)] → Mo D cy A H0 h H locs → (∀ (t : Int32) (ls : Array Slot) (H : Heap) (locs : List Loc), q = t → lv_has ls 9 [(2, .int t)] → Mo D cy A H0 h H locs → W p l e rm_X9_contactsWithWhy s m args below meth c H locs 0 0 (MQ below (QR D cy h A (some (.int qF))) args s 0 0 A) (F0 m 78 ls [])) → (∀ v : Int32, False → v = qF) → W p l e rm_X9_contactsWithWhy s m args below meth c H locs 0 0 (MQ below (QR D cy h A (some (.int qF))) args s 0 0 A) (F0 m 14 ls []) := by
  intro n
  induction n with
  | zero => intro x2 x5 ls H locs q hs; rw [s_X9_contactsWithWhy_L14.eq_1] at hs; cases hs
  | succ n ih =>
    intro x2 x5 ls H locs q hs hl M kx kr
    obtain ⟨hx, hb, hr, hml, hown, hlk, hts, hK, hN, hA, hH⟩ := id F
    rw [s_X9_contactsWithWhy_L14.eq_2] at hs
    refine lv_iload hx hb dX9_contactsWithWhy_14 (lv_at hl 4 rfl) ?_
    refine lv_iload hx hb dX9_contactsWithWhy_16 (lv_at hl 3 rfl) ?_
    refine lv_icmp_ge (tgt := 78) hx hb dX9_contactsWithWhy_18 (by decide) (fun c3 => ?_) (fun c3 => ?_)
    · rw [if_pos c3] at hs
      exact kx x2 _ _ _ (Option.some.inj hs).symm (lv_sub hl [1] rfl) M
    · rw [if_neg c3] at hs
      refine lo_aload_n hx hb dX9_contactsWithWhy_21 rfl (lv_at hl 2 rfl) ?_
      refine lv_iload hx hb dX9_contactsWithWhy_22 (lv_at hl 4 rfl) ?_
      obtain ⟨v4, g_v4, hs⟩ := bd hs
      refine ro_aR (k := 4) (by decide) rfl F M g_v4 dX9_contactsWithWhy_24 ?_
      refine lo_astore (i := 6) (lv' := [(6, va_rf v4), (1, .int x1), (2, .int x2), (3, va_rf x3), (4, .int x4), (5, .int x5)]) hx hb dX9_contactsWithWhy_25 hl (by decide) rfl (fun ls hl => ?_)
      refine lv_iconst (v := 0) hx hb dX9_contactsWithWhy_27 (by decide) ?_
      refine lv_istore (i := 7) (lv' := [(7, .int 0), (6, va_rf v4), (1, .int x1), (2, .int x2), (3, va_rf x3), (4, .int x4), (5, .int x5)]) hx hb dX9_contactsWithWhy_28 hl (by decide) (by simp [cat_rf, cat_i, cat_j, cat_r]) (fun ls hl => ?_)
      obtain ⟨q13, g_q13, hs⟩ := bd hs
      refine w_X9_contactsWithWhy_L30 F N x2 0 _ _ _ q13 g_q13 (lv_sub hl [2, 3, 4, 5, 6, 1, 0] rfl) M (fun t_ ls H locs eq_ hl M => ?_) (fun v eq_ => eq_.elim)
      subst eq_
      refine lv_iinc (v := x5 + 1) (lv' := [(5, .int (x5 + 1)), (1, .int x1), (2, .int q13), (3, va_rf x3), (4, .int x4)]) hx hb dX9_contactsWithWhy_72 hl (k := 4) rfl rfl (by decide) rfl (fun ls hl => ?_)
      refine lv_goto (tgt := 14) hx hb dX9_contactsWithWhy_75 (by decide) ?_
      exact ih q13 (x5 + 1) _ _ _ _ hs (lv_sub hl [1, 2, 3, 4, 0] rfl) M kx kr
set_option maxHeartbeats 4000000 in
set_option maxRecDepth 100000 in
theorem c_X9_contactsWithWhy {l : Launch} {D : va_G} {cy : Nat → ClassId} {sz N : Nat} {h : IH} {th : Nat} {a0 : Int32} {qF : Int32} (hs : s_X9_contactsWithWhy N h th a0 = some qF) : Ct l D cy yX9_contactsWithWhy cX9_contactsWithWhy 9 (some .int) rm_X9_contactsWithWhy h sz [.ref th, .int a0] h (some (.int qF)) := by
  refine ct_start (by decide +kernel) [(0, .ref th), (1, .int a0)] (Nat.le_of_ble_eq_true rfl) rfl ?_
  intro p e s m args below meth c A H0 ls F hin hsz M hl
  obtain ⟨hx, hb, hr, hml, hown, hlk, hts, hK, hN, hA, hH⟩ := id F
  generalize s.heap = H at M ⊢
  generalize ([] : List Loc) = locs at M ⊢
  unfold s_X9_contactsWithWhy at hs
  refine lv_iconst (v := 0) hx hb dX9_contactsWithWhy_0 (by decide) ?_
  refine lv_istore_n (i := 2) (lv' := [(2, .int 0), (0, .ref th), (1, .int a0)]) hx hb dX9_contactsWithWhy_1 rfl hl (by decide) rfl (fun ls hl => ?_)
  refine lv_aload_n hx hb dX9_contactsWithWhy_2 rfl (lv_at hl 1 rfl) ?_
  obtain ⟨v1, g_v1, hs⟩ := bd hs
  refine ro_gR F M fg_9_5 t_432 g_v1 dX9_contactsWithWhy_3 ?_
  refine lo_astore_n (i := 3) (lv' := [(3, va_rf v1), (2, .int 0), (0, .ref th), (1, .int a0)]) hx hb dX9_contactsWithWhy_6 rfl hl (by decide) rfl (fun ls hl => ?_)
  refine lo_aload_n hx hb dX9_contactsWithWhy_7 rfl (lv_at hl 0 rfl) ?_
  obtain ⟨v2, g_v2, hs⟩ := bd hs
  refine ro_len F M g_v2 dX9_contactsWithWhy_8 ?_
  refine lv_istore (i := 4) (lv' := [(4, .int v2), (3, va_rf v1), (2, .int 0), (0, .ref th), (1, .int a0)]) hx hb dX9_contactsWithWhy_9 hl (by decide) (by simp [cat_rf, cat_i, cat_j, cat_r]) (fun ls hl => ?_)
  refine lv_iconst (v := 0) hx hb dX9_contactsWithWhy_11 (by decide) ?_
  refine lv_istore (i := 5) (lv' := [(5, .int 0), (4, .int v2), (3, va_rf v1), (2, .int 0), (0, .ref th), (1, .int a0)]) hx hb dX9_contactsWithWhy_12 hl (by decide) rfl (fun ls hl => ?_)
  obtain ⟨q14, g_q14, hs⟩ := bd hs
  refine w_X9_contactsWithWhy_L14 F N 0 0 _ _ _ q14 g_q14 (lv_sub hl [5, 3, 2, 1, 0] rfl) M (fun t_ ls H locs eq_ hl M => ?_) (fun v eq_ => eq_.elim)
  subst eq_
  refine lv_iload_n hx hb dX9_contactsWithWhy_78 rfl (lv_at hl 0 rfl) ?_
  obtain rfl := Option.some.inj hs
  exact re_i F M dX9_contactsWithWhy_79
abbrev rm_X8_checkedSum : Room := { frames := 3, cells := 0, slots := 0, locals := 75 }
theorem mf_X8_checkedSum : MV 8 yX8_checkedSum cX8_checkedSum 14 (some .long) 2 RX8 := ⟨t_939, t_938, tS_72, t_11, ⟨by decide +kernel, by decide +kernel, by decide +kernel⟩, rfl, by decide⟩
def s_X8_checkedSum_L28 (N : Nat) : Nat → Nat → Option Nat → Int32 → Int32 → Int32 → Int32 → Option Nat → Int64 → Int32 → IH → Option ((Int64 × IH) ⊕ (Int32 × Int64 × IH))
  | 0, _, _, _, _, _, _, _, _, _, _ => none
  | n + 1, th, x1, x2, x3, x4, x5, x6, x7, x9, h => if x6 = none then some (.inr (x3, x7, h)) else (gI h 4 1 x6).bind fun v4 => if v4 ≤ x9 then some (.inr (x3, x7, h)) else (cV h 4 x6 fun a21 => s_X4_contactAt h a21 x9).bind fun v6 => ((if v6 = none then some none else (gI h 2 9 v6).bind fun v8 => if v8 = 0 then (gR h 8 0 (some th)).bind fun v10 => (gI h 2 6 v6).bind fun v11 => (cV h 7 v10 fun a13 => s_X7_at h a13 v11).bind fun v12 => some v12 else some none) : Option (Option Nat)).bind fun q14 => if q14 = none then s_X8_checkedSum_L28 N n th x1 x2 x3 x4 x5 x6 x7 (x9 + 1) h else (gR h 8 1 (some th)).bind fun v16 => (cV h 3 v16 fun a20 => s_X3_valueFor N h a20 x5 x1 q14).bind fun v17 => if (lg_cmp v17.1 1099511627776) = 0 then some (.inl (1099511627776, v17.2)) else (gI v17.2 9 1 q14).bind fun v19 => s_X8_checkedSum_L28 N n th x1 x2 (x3 + (x2 * v17.1.toInt32)) x4 x5 x6 (x7 ||| (1 <<< (v19.toInt64 &&& 63))) (x9 + 1) v17.2
def s_X8_checkedSum_L8 (N : Nat) : Nat → Nat → Option Nat → Int32 → Int32 → Int32 → Int32 → IH → Option ((Int64 × IH) ⊕ (Int32 × Int32 × IH))
  | 0, _, _, _, _, _, _, _ => none
  | n + 1, th, x1, x2, x3, x4, x5, h => if 3 ≤ x5 then some (.inr (x3, x4, h)) else (cV h 9 x1 fun a25 => s_X9_logOf h a25 x5).bind fun v2 => (s_X8_checkedSum_L28 N N th x1 x2 x3 x4 x5 v2 0 0 h).bind fun q22 => Sum.elim (fun v => some (.inl v)) (fun t23 => (s_J13_bitCount_95d88 t23.2.2 t23.2.1).bind fun v24 => s_X8_checkedSum_L8 N n th x1 x2 t23.1 (x4 + v24) (x5 + 1) t23.2.2) q22
def s_X8_checkedSum (N : Nat) (h : IH) (th : Nat) (a0 : Option Nat) (a1 : Int32) : Option (Int64 × IH) := (s_X8_checkedSum_L8 N N th a0 a1 0 0 0 h).bind fun q26 => Sum.elim (fun v => some v) (fun t27 => (gI t27.2.2 8 2 (some th)).bind fun v28 => (cV t27.2.2 9 a0 fun a30 => s_X9_contactsWithWhy N t27.2.2 a30 3).bind fun v29 => some (((t27.1 * t27.2.1) - (v28 * v29)).toInt64, t27.2.2)) q26
set_option maxHeartbeats 4000000 in
set_option maxRecDepth 100000 in
theorem w_X8_checkedSum_L28 {p : Program} {l : Launch} {e : Env} {s : State} {m : MethodId} {args : Array Value} {below : List Frame} {meth : Method} {c : Code} {D : va_G} {cy : Nat → ClassId} {A : Nat → Prop} {H0 : Heap} {N th : Nat} {x1 : Option Nat} {x2 : Int32} {x4 : Int32} {x5 : Int32} {x6 : Option Nat} {qF : Int64 × IH} (F : Fx p s m args meth c D cy A H0 yX8_checkedSum cX8_checkedSum 14 (some .long)) : ∀ (n : Nat) (x3 : Int32) (x7 : Int64) (x9 : Int32) (h : IH) (ls : Array Slot) (H : Heap) (locs : List Loc) (q : (Int64 × IH) ⊕ (Int32 × Int64 × IH)), s_X8_checkedSum_L28 N n th x1 x2 x3 x4 x5 x6 x7 x9 h = some q → lv_has ls 14 [(0, .ref th), (1, va_rf x1), (2, .int x2), (3, .int x3), (4, .int x4), (5, .int x5), (6, va_rf x6), (7, .long x7), (9, .int x9)] → Mo D cy A H0 h H locs → (∀ (t : Int32 × Int64 × IH) (ls : Array Slot) (H : Heap) (locs : List Loc), q = .inr t → lv_has ls 14 [(0, .ref th), (1, va_rf x1), (2, .int x2), (3, .int t.1), (4, .int x4), (5, .int x5), (7, .long t.2.1)] → Mo D cy A H0 t.2.2 H locs → W p l e rm_X8_checkedSum s m args below meth c H locs 0 0 (MQ below (QR D cy qF.2 A (some (.long qF.1))) args s 0 0 A) (F0 m 144 ls [])) → (∀ v, q = .inl v → v = qF) → W p l e rm_X8_checkedSum s m args below meth c H locs 0 0 (MQ below (QR D cy qF.2 A (some (.long qF.1))) args s 0 0 A) (F0 m 28 ls []) := by
  intro n
  induction n with
  | zero => intro x3 x7 x9 h ls H locs q hs; rw [s_X8_checkedSum_L28.eq_1] at hs; cases hs
  | succ n ih =>
    intro x3 x7 x9 h ls H locs q hs hl M kx kr
    obtain ⟨hx, hb, hr, hml, hown, hlk, hts, hK, hN, hA, hH⟩ := id F
    rw [s_X8_checkedSum_L28.eq_2] at hs
    refine lo_aload hx hb dX8_checkedSum_28 (lv_at hl 6 rfl) ?_
    refine lo_ifnull (tgt := 144) hx hb dX8_checkedSum_30 (by decide) (fun c3 => ?_) (fun c3 => ?_)
    · rw [if_pos c3] at hs
      exact kx (x3, x7, h) _ _ _ (Option.some.inj hs).symm (lv_sub hl [0, 1, 2, 3, 4, 5, 7] rfl) M
    · rw [if_neg c3] at hs
      refine lv_iload hx hb dX8_checkedSum_33 (lv_at hl 8 rfl) ?_
      refine lo_aload hx hb dX8_checkedSum_35 (lv_at hl 6 rfl) ?_
      obtain ⟨v4, g_v4, hs⟩ := bd hs
      refine ro_gIN F M fg_4_1 tN_170 g_v4 dX8_checkedSum_37 ?_
      refine lv_icmp_ge (tgt := 144) hx hb dX8_checkedSum_40 (by decide) (fun c5 => ?_) (fun c5 => ?_)
      · rw [if_pos c5] at hs
        exact kx (x3, x7, h) _ _ _ (Option.some.inj hs).symm (lv_sub hl [0, 1, 2, 3, 4, 5, 7] rfl) M
      · rw [if_neg c5] at hs
        refine lo_aload hx hb dX8_checkedSum_43 (lv_at hl 6 rfl) ?_
        refine lv_iload hx hb dX8_checkedSum_45 (lv_at hl 8 rfl) ?_
        obtain ⟨v6, g_v6, hs⟩ := bd hs
        obtain ⟨a21, e_a21, k_a21, g_v6⟩ := cV_some g_v6
        refine ca_VNa (bq := a21) (As := [.int x9]) (rest := []) F M (c_X4_contactAt g_v6) mf_X4_contactAt tN_941 k_a21 rfl ⟨by decide, by decide⟩ ⟨rfl, rfl⟩ ⟨Nat.zero_le _, Nat.zero_le _⟩ hl.1 (by rw [e_a21]; rfl) (by decide) dX8_checkedSum_47 (fun H locs M => ?_)
        refine lo_astore (i := 10) (lv' := [(10, va_rf v6), (0, .ref th), (1, va_rf x1), (2, .int x2), (3, .int x3), (4, .int x4), (5, .int x5), (6, va_rf x6), (7, .long x7), (9, .int x9)]) hx hb dX8_checkedSum_50 hl (by decide) rfl (fun ls hl => ?_)
        refine lo_aload hx hb dX8_checkedSum_52 (lv_at hl 0 rfl) ?_
        obtain ⟨q14, hsq14, hs⟩ := bd hs
        have KJ81 : ∀ (ls : Array Slot) (H : Heap) (locs : List Loc), lv_has ls 14 [(0, .ref th), (1, va_rf x1), (2, .int x2), (3, .int x3), (4, .int x4), (5, .int x5), (6, va_rf x6), (7, .long x7), (9, .int x9)] → Mo D cy A H0 h H locs → W p l e rm_X8_checkedSum s m args below meth c H locs 0 0 (MQ below (QR D cy qF.2 A (some (.long qF.1))) args s 0 0 A) (F0 m 81 ls [va_rf q14]) := by
          intro ls H locs hl M
          refine lo_astore (i := 11) (lv' := [(11, va_rf q14), (0, .ref th), (1, va_rf x1), (2, .int x2), (3, .int x3), (4, .int x4), (5, .int x5), (6, va_rf x6), (7, .long x7), (9, .int x9)]) hx hb dX8_checkedSum_81 hl (by decide) rfl (fun ls hl => ?_)
          refine lo_aload hx hb dX8_checkedSum_83 (lv_at hl 0 rfl) ?_
          refine lo_ifnonnull (tgt := 91) hx hb dX8_checkedSum_85 (by decide) (fun c15 => ?_) (fun c15 => ?_)
          · rw [if_neg c15] at hs
            refine lv_aload_n hx hb dX8_checkedSum_91 rfl (lv_at hl 1 rfl) ?_
            obtain ⟨v16, g_v16, hs⟩ := bd hs
            refine ro_gR F M fg_8_1 t_319 g_v16 dX8_checkedSum_92 ?_
            refine lv_iload hx hb dX8_checkedSum_95 (lv_at hl 6 rfl) ?_
            refine lo_aload_n hx hb dX8_checkedSum_97 rfl (lv_at hl 2 rfl) ?_
            refine lo_aload hx hb dX8_checkedSum_98 (lv_at hl 0 rfl) ?_
            obtain ⟨v17, g_v17, hs⟩ := bd hs
            obtain ⟨a20, e_a20, k_a20, g_v17⟩ := cV_some g_v17
            refine ca_VNl (bq := a20) (As := [.int x5, va_rf x1, va_rf q14]) (rest := []) F M (c_X3_valueFor g_v17) mf_X3_valueFor tN_942 k_a20 rfl ⟨by decide, by decide⟩ ⟨rfl, rfl⟩ ⟨Nat.zero_le _, Nat.zero_le _⟩ hl.1 (by rw [e_a20]; rfl) (by decide) dX8_checkedSum_100 (fun H locs M => ?_)
            refine lv_lstore (i := 12) (lv' := [(12, .long v17.1), (11, va_rf q14), (0, .ref th), (1, va_rf x1), (2, .int x2), (3, .int x3), (4, .int x4), (5, .int x5), (6, va_rf x6), (7, .long x7), (9, .int x9)]) hx hb dX8_checkedSum_103 hl (by decide) (by simp [cat_rf, cat_i, cat_j, cat_r]) (fun ls hl => ?_)
            refine lv_lload hx hb dX8_checkedSum_105 (lv_at hl 0 rfl) ?_
            refine lv_ldc2 (v := 1099511627776) hx hb hown (hts _ (List.mem_cons_of_mem _ t_943)) dX8_checkedSum_107 ?_
            refine W.lcmp hx hb dX8_checkedSum_110 ?_
            refine lv_if_ne (tgt := 118) hx hb dX8_checkedSum_111 (by decide) (fun c18 => ?_) (fun c18 => ?_)
            · rw [if_neg c18] at hs
              refine lv_iload_n hx hb dX8_checkedSum_118 rfl (lv_at hl 5 rfl) ?_
              refine lv_iload_n hx hb dX8_checkedSum_119 rfl (lv_at hl 4 rfl) ?_
              refine lv_lload hx hb dX8_checkedSum_120 (lv_at hl 0 rfl) ?_
              refine lv_l2i hx hb dX8_checkedSum_122 rfl ?_
              refine lv_imul hx hb dX8_checkedSum_123 ?_
              refine lv_iadd hx hb dX8_checkedSum_124 ?_
              refine lv_istore_n (i := 3) (lv' := [(3, .int (x3 + (x2 * v17.1.toInt32))), (12, .long v17.1), (11, va_rf q14), (0, .ref th), (1, va_rf x1), (2, .int x2), (4, .int x4), (5, .int x5), (6, va_rf x6), (7, .long x7), (9, .int x9)]) hx hb dX8_checkedSum_125 rfl hl (by decide) rfl (fun ls hl => ?_)
              refine lv_lload hx hb dX8_checkedSum_126 (lv_at hl 9 rfl) ?_
              refine lv_lconst (v := 1) hx hb dX8_checkedSum_128 (by decide) ?_
              refine lo_aload hx hb dX8_checkedSum_129 (lv_at hl 2 rfl) ?_
              obtain ⟨v19, g_v19, hs⟩ := bd hs
              refine ro_gIN F M fg_9_1 tN_425 g_v19 dX8_checkedSum_131 ?_
              refine lv_lshl hx hb dX8_checkedSum_134 rfl ?_
              refine lv_lor hx hb dX8_checkedSum_135 ?_
              refine lv_lstore (i := 7) (lv' := [(7, .long (x7 ||| (1 <<< (v19.toInt64 &&& 63)))), (3, .int (x3 + (x2 * v17.1.toInt32))), (12, .long v17.1), (11, va_rf q14), (0, .ref th), (1, va_rf x1), (2, .int x2), (4, .int x4), (5, .int x5), (6, va_rf x6), (9, .int x9)]) hx hb dX8_checkedSum_136 hl (by decide) (by simp [cat_rf, cat_i, cat_j, cat_r]) (fun ls hl => ?_)
              refine lv_iinc (v := x9 + 1) (lv' := [(9, .int (x9 + 1)), (7, .long (x7 ||| (1 <<< (v19.toInt64 &&& 63)))), (3, .int (x3 + (x2 * v17.1.toInt32))), (12, .long v17.1), (11, va_rf q14), (0, .ref th), (1, va_rf x1), (2, .int x2), (4, .int x4), (5, .int x5), (6, va_rf x6)]) hx hb dX8_checkedSum_138 hl (k := 10) rfl rfl (by decide) rfl (fun ls hl => ?_)
              refine lv_goto (tgt := 28) hx hb dX8_checkedSum_141 (by decide) ?_
              exact ih (x3 + (x2 * v17.1.toInt32)) (x7 ||| (1 <<< (v19.toInt64 &&& 63))) (x9 + 1) v17.2 _ _ _ _ hs (lv_sub hl [5, 6, 7, 2, 8, 9, 10, 1, 0] rfl) M kx kr
            · rw [if_pos c18] at hs
              refine lv_ldc2 (v := 1099511627776) hx hb hown (hts _ (List.mem_cons_of_mem _ t_943)) dX8_checkedSum_114 ?_
              obtain rfl := kr _ (Option.some.inj hs).symm
              exact re_l F M dX8_checkedSum_117
          · rw [if_pos c15] at hs
            refine lv_goto (tgt := 138) hx hb dX8_checkedSum_88 (by decide) ?_
            refine lv_iinc (v := x9 + 1) (lv' := [(9, .int (x9 + 1)), (11, va_rf q14), (0, .ref th), (1, va_rf x1), (2, .int x2), (3, .int x3), (4, .int x4), (5, .int x5), (6, va_rf x6), (7, .long x7)]) hx hb dX8_checkedSum_138 hl (k := 9) rfl rfl (by decide) rfl (fun ls hl => ?_)
            refine lv_goto (tgt := 28) hx hb dX8_checkedSum_141 (by decide) ?_
            exact ih x3 x7 (x9 + 1) h _ _ _ _ hs (lv_sub hl [2, 3, 4, 5, 6, 7, 8, 9, 0] rfl) M kx kr
        clear hs
        have hs := hsq14
        refine lo_ifnull (tgt := 80) hx hb dX8_checkedSum_54 (by decide) (fun c7 => ?_) (fun c7 => ?_)
        · rw [if_pos c7] at hs
          refine lv_null hx hb dX8_checkedSum_80 ?_
          obtain rfl := Option.some.inj hs
          exact KJ81 _ _ _ (lv_sub hl [1, 2, 3, 4, 5, 6, 7, 8, 9] rfl) M
        · rw [if_neg c7] at hs
          refine lo_aload hx hb dX8_checkedSum_57 (lv_at hl 0 rfl) ?_
          obtain ⟨v8, g_v8, hs⟩ := bd hs
          refine ro_gIN F M fg_2_9 tN_127 g_v8 dX8_checkedSum_59 ?_
          refine lv_if_ne (tgt := 80) hx hb dX8_checkedSum_62 (by decide) (fun c9 => ?_) (fun c9 => ?_)
          · rw [if_neg c9] at hs
            refine lv_null hx hb dX8_checkedSum_80 ?_
            obtain rfl := Option.some.inj hs
            exact KJ81 _ _ _ (lv_sub hl [1, 2, 3, 4, 5, 6, 7, 8, 9] rfl) M
          · rw [if_pos c9] at hs
            refine lv_aload_n hx hb dX8_checkedSum_65 rfl (lv_at hl 1 rfl) ?_
            obtain ⟨v10, g_v10, hs⟩ := bd hs
            refine ro_gR F M fg_8_0 t_318 g_v10 dX8_checkedSum_66 ?_
            refine lo_aload hx hb dX8_checkedSum_69 (lv_at hl 0 rfl) ?_
            obtain ⟨v11, g_v11, hs⟩ := bd hs
            refine ro_gIN F M fg_2_6 tN_120 g_v11 dX8_checkedSum_71 ?_
            obtain ⟨v12, g_v12, hs⟩ := bd hs
            obtain ⟨a13, e_a13, k_a13, g_v12⟩ := cV_some g_v12
            refine ca_VNa (bq := a13) (As := [.int v11]) (rest := []) F M (c_X7_at g_v12) mf_X7_at tN_931 k_a13 rfl ⟨by decide, by decide⟩ ⟨rfl, rfl⟩ ⟨Nat.zero_le _, Nat.zero_le _⟩ hl.1 (by rw [e_a13]; rfl) (by decide) dX8_checkedSum_74 (fun H locs M => ?_)
            refine lv_goto (tgt := 81) hx hb dX8_checkedSum_77 (by decide) ?_
            obtain rfl := Option.some.inj hs
            exact KJ81 _ _ _ (lv_sub hl [1, 2, 3, 4, 5, 6, 7, 8, 9] rfl) M
set_option maxHeartbeats 4000000 in
set_option maxRecDepth 100000 in
theorem w_X8_checkedSum_L8 {p : Program} {l : Launch} {e : Env} {s : State} {m : MethodId} {args : Array Value} {below : List Frame} {meth : Method} {c : Code} {D : va_G} {cy : Nat → ClassId} {A : Nat → Prop} {H0 : Heap} {N th : Nat} {x1 : Option Nat} {x2 : Int32} {qF : Int64 × IH} (F : Fx p s m args meth c D cy A H0 yX8_checkedSum cX8_checkedSum 14 (some .long)) : ∀ (n : Nat) (x3 : Int32) (x4 : Int32) (x5 : Int32) (h : IH) (ls : Array Slot) (H : Heap) (locs : List Loc) (q : (Int64 × IH) ⊕ (Int32 × Int32 × IH)), s_X8_checkedSum_L8 N n th x1 x2 x3 x4 x5 h = some q → lv_has ls 14 [(0, .ref th), (1, va_rf x1), (2, .int x2), (3, .int x3), (4, .int x4), (5, .int x5)] → Mo D cy A H0 h H locs → (∀ (t : Int32 × Int32 × IH) (ls : Array Slot) (H : Heap) (locs : List Loc), q = .inr t → lv_has ls 14 [(0, .ref th), (1, va_rf x1), (3, .int t.1), (4, .int t.2.1)] → Mo D cy A H0 t.2.2 H locs → W p l e rm_X8_checkedSum s m args below meth c H locs 0 0 (MQ below (QR D cy qF.2 A (some (.long qF.1))) args s 0 0 A) (F0 m 160 ls [])) → (∀ v, q = .inl v → v = qF) → W p l e rm_X8_checkedSum s m args below meth c H locs 0 0 (MQ below (QR D cy qF.2 A (some (.long qF.1))) args s 0 0 A) (F0 m 8 ls []) := by
  intro n
  induction n with
  | zero => intro x3 x4 x5 h ls H locs q hs; rw [s_X8_checkedSum_L8.eq_1] at hs; cases hs
  | succ n ih =>
    intro x3 x4 x5 h ls H locs q hs hl M kx kr
    obtain ⟨hx, hb, hr, hml, hown, hlk, hts, hK, hN, hA, hH⟩ := id F
    rw [s_X8_checkedSum_L8.eq_2] at hs
    refine lv_iload hx hb dX8_checkedSum_8 (lv_at hl 5 rfl) ?_
    refine lv_iconst (v := 3) hx hb dX8_checkedSum_10 (by decide) ?_
    refine lv_icmp_ge (tgt := 160) hx hb dX8_checkedSum_11 (by decide) (fun c1 => ?_) (fun c1 => ?_)
    · rw [if_pos c1] at hs
      exact kx (x3, x4, h) _ _ _ (Option.some.inj hs).symm (lv_sub hl [0, 1, 3, 4] rfl) M
    · rw [if_neg c1] at hs
      refine lo_aload_n hx hb dX8_checkedSum_14 rfl (lv_at hl 1 rfl) ?_
      refine lv_iload hx hb dX8_checkedSum_15 (lv_at hl 5 rfl) ?_
      obtain ⟨v2, g_v2, hs⟩ := bd hs
      obtain ⟨a25, e_a25, k_a25, g_v2⟩ := cV_some g_v2
      refine ca_VNa (bq := a25) (As := [.int x5]) (rest := []) F M (c_X9_logOf g_v2) mf_X9_logOf tN_940 k_a25 rfl ⟨by decide, by decide⟩ ⟨rfl, rfl⟩ ⟨Nat.zero_le _, Nat.zero_le _⟩ hl.1 (by rw [e_a25]; rfl) (by decide) dX8_checkedSum_17 (fun H locs M => ?_)
      refine lo_astore (i := 6) (lv' := [(6, va_rf v2), (0, .ref th), (1, va_rf x1), (2, .int x2), (3, .int x3), (4, .int x4), (5, .int x5)]) hx hb dX8_checkedSum_20 hl (by decide) rfl (fun ls hl => ?_)
      refine lv_lconst (v := 0) hx hb dX8_checkedSum_22 (by decide) ?_
      refine lv_lstore (i := 7) (lv' := [(7, .long 0), (6, va_rf v2), (0, .ref th), (1, va_rf x1), (2, .int x2), (3, .int x3), (4, .int x4), (5, .int x5)]) hx hb dX8_checkedSum_23 hl (by decide) (by simp [cat_rf, cat_i, cat_j, cat_r]) (fun ls hl => ?_)
      refine lv_iconst (v := 0) hx hb dX8_checkedSum_25 (by decide) ?_
      refine lv_istore (i := 9) (lv' := [(9, .int 0), (7, .long 0), (6, va_rf v2), (0, .ref th), (1, va_rf x1), (2, .int x2), (3, .int x3), (4, .int x4), (5, .int x5)]) hx hb dX8_checkedSum_26 hl (by decide) rfl (fun ls hl => ?_)
      obtain ⟨q22, g_q22, hs⟩ := bd hs
      refine w_X8_checkedSum_L28 F N x3 0 0 h _ _ _ q22 g_q22 (lv_sub hl [3, 4, 5, 6, 7, 8, 2, 1, 0] rfl) M (fun t23 ls H locs eq_ hl M => ?_) (fun v eq_ => ?_)
      · subst eq_
        have hs := se_r hs
        refine lv_iload hx hb dX8_checkedSum_144 (lv_at hl 4 rfl) ?_
        refine lv_lload hx hb dX8_checkedSum_146 (lv_at hl 6 rfl) ?_
        obtain ⟨v24, g_v24, hs⟩ := bd hs
        refine ca_Si (As := [.long t23.2.1]) (rest := [.int x4]) F M (c_J13_bitCount_95d88 g_v24) mf_J13_bitCount_95d88 t_944 rfl ⟨by decide, by decide⟩ ⟨rfl, rfl⟩ ⟨Nat.zero_le _, Nat.zero_le _⟩ hl.1 rfl (by simp [cat_rf, cat_i, cat_j, cat_r]) dX8_checkedSum_148 (fun H locs M => ?_)
        refine lv_iadd hx hb dX8_checkedSum_151 ?_
        refine lv_istore (i := 4) (lv' := [(4, .int (x4 + v24)), (0, .ref th), (1, va_rf x1), (2, .int x2), (3, .int t23.1), (5, .int x5), (7, .long t23.2.1)]) hx hb dX8_checkedSum_152 hl (by decide) rfl (fun ls hl => ?_)
        refine lv_iinc (v := x5 + 1) (lv' := [(5, .int (x5 + 1)), (4, .int (x4 + v24)), (0, .ref th), (1, va_rf x1), (2, .int x2), (3, .int t23.1), (7, .long t23.2.1)]) hx hb dX8_checkedSum_154 hl (k := 5) rfl rfl (by decide) rfl (fun ls hl => ?_)
        refine lv_goto (tgt := 8) hx hb dX8_checkedSum_157 (by decide) ?_
        exact ih t23.1 (x4 + v24) (x5 + 1) t23.2.2 _ _ _ _ hs (lv_sub hl [2, 3, 4, 5, 1, 0] rfl) M kx kr
      · subst eq_
        have hs := se_l hs
        exact kr _ (Option.some.inj hs).symm
set_option maxHeartbeats 4000000 in
set_option maxRecDepth 100000 in
theorem c_X8_checkedSum {l : Launch} {D : va_G} {cy : Nat → ClassId} {sz N : Nat} {h : IH} {th : Nat} {a0 : Option Nat} {a1 : Int32} {qF : Int64 × IH} (hs : s_X8_checkedSum N h th a0 a1 = some qF) : Ct l D cy yX8_checkedSum cX8_checkedSum 14 (some .long) rm_X8_checkedSum h sz [.ref th, va_rf a0, .int a1] qF.2 (some (.long qF.1)) := by
  refine ct_start (by decide +kernel) [(0, .ref th), (1, va_rf a0), (2, .int a1)] (by simp [lg_sl, cat_rf, cat_i, cat_j, cat_r]) (by simp [lv_args, cat_rf, cat_i, cat_j, cat_r]) ?_
  intro p e s m args below meth c A H0 ls F hin hsz M hl
  obtain ⟨hx, hb, hr, hml, hown, hlk, hts, hK, hN, hA, hH⟩ := id F
  generalize s.heap = H at M ⊢
  generalize ([] : List Loc) = locs at M ⊢
  unfold s_X8_checkedSum at hs
  refine lv_iconst (v := 0) hx hb dX8_checkedSum_0 (by decide) ?_
  refine lv_istore_n (i := 3) (lv' := [(3, .int 0), (0, .ref th), (1, va_rf a0), (2, .int a1)]) hx hb dX8_checkedSum_1 rfl hl (by decide) rfl (fun ls hl => ?_)
  refine lv_iconst (v := 0) hx hb dX8_checkedSum_2 (by decide) ?_
  refine lv_istore (i := 4) (lv' := [(4, .int 0), (3, .int 0), (0, .ref th), (1, va_rf a0), (2, .int a1)]) hx hb dX8_checkedSum_3 hl (by decide) rfl (fun ls hl => ?_)
  refine lv_iconst (v := 0) hx hb dX8_checkedSum_5 (by decide) ?_
  refine lv_istore (i := 5) (lv' := [(5, .int 0), (4, .int 0), (3, .int 0), (0, .ref th), (1, va_rf a0), (2, .int a1)]) hx hb dX8_checkedSum_6 hl (by decide) rfl (fun ls hl => ?_)
  obtain ⟨q26, g_q26, hs⟩ := bd hs
  refine w_X8_checkedSum_L8 F N 0 0 0 h _ _ _ q26 g_q26 (lv_sub hl [3, 4, 5, 2, 1, 0] rfl) M (fun t27 ls H locs eq_ hl M => ?_) (fun v eq_ => ?_)
  · subst eq_
    have hs := se_r hs
    refine lv_iload_n hx hb dX8_checkedSum_160 rfl (lv_at hl 2 rfl) ?_
    refine lv_iload hx hb dX8_checkedSum_161 (lv_at hl 3 rfl) ?_
    refine lv_imul hx hb dX8_checkedSum_163 ?_
    refine lv_aload_n hx hb dX8_checkedSum_164 rfl (lv_at hl 0 rfl) ?_
    obtain ⟨v28, g_v28, hs⟩ := bd hs
    refine ro_gI F M fg_8_2 t_320 g_v28 dX8_checkedSum_165 ?_
    refine lo_aload_n hx hb dX8_checkedSum_168 rfl (lv_at hl 1 rfl) ?_
    refine lv_iconst (v := 3) hx hb dX8_checkedSum_169 (by decide) ?_
    obtain ⟨v29, g_v29, hs⟩ := bd hs
    obtain ⟨a30, e_a30, k_a30, g_v29⟩ := cV_some g_v29
    refine ca_VNi (bq := a30) (As := [.int 3]) (rest := [.int v28, .int (t27.1 * t27.2.1)]) F M (c_X9_contactsWithWhy g_v29) mf_X9_contactsWithWhy tN_950 k_a30 rfl ⟨by decide, by decide⟩ ⟨rfl, rfl⟩ ⟨Nat.zero_le _, Nat.zero_le _⟩ hl.1 (by rw [e_a30]; rfl) (by simp [cat_rf, cat_i, cat_j, cat_r]) dX8_checkedSum_170 (fun H locs M => ?_)
    refine lv_imul hx hb dX8_checkedSum_173 ?_
    refine lv_isub hx hb dX8_checkedSum_174 ?_
    refine lv_i2l hx hb dX8_checkedSum_175 rfl ?_
    obtain rfl := Option.some.inj hs
    exact re_l F M dX8_checkedSum_176
  · subst eq_
    have hs := se_l hs
    exact (Option.some.inj hs)
abbrev rm_X8_twoThirds : Room := { frames := 0, cells := 0, slots := 0, locals := 0 }
theorem mf_X8_twoThirds : MS yX8_twoThirds cX8_twoThirds 1 (some .int) 1 := ⟨t_957, t_956, t_11, ⟨by decide +kernel, by decide +kernel, by decide +kernel⟩⟩
def s_X8_twoThirds (h : IH) (a0 : Int32) : Option (Int32) := some ((a0 * 2) / 3)
set_option maxHeartbeats 4000000 in
set_option maxRecDepth 100000 in
theorem c_X8_twoThirds {l : Launch} {D : va_G} {cy : Nat → ClassId} {sz : Nat} {h : IH} {a0 : Int32} {qF : Int32} (hs : s_X8_twoThirds h a0 = some qF) : Ct l D cy yX8_twoThirds cX8_twoThirds 1 (some .int) rm_X8_twoThirds h sz [.int a0] h (some (.int qF)) := by
  refine ct_start (by decide +kernel) [(0, .int a0)] (Nat.le_of_ble_eq_true rfl) rfl ?_
  intro p e s m args below meth c A H0 ls F hin hsz M hl
  obtain ⟨hx, hb, hr, hml, hown, hlk, hts, hK, hN, hA, hH⟩ := id F
  generalize s.heap = H at M ⊢
  generalize ([] : List Loc) = locs at M ⊢
  unfold s_X8_twoThirds at hs
  refine lv_iload_n hx hb dX8_twoThirds_0 rfl (lv_at hl 0 rfl) ?_
  refine lv_iconst (v := 2) hx hb dX8_twoThirds_1 (by decide) ?_
  refine lv_imul hx hb dX8_twoThirds_2 ?_
  refine lv_iconst (v := 3) hx hb dX8_twoThirds_3 (by decide) ?_
  refine lv_idiv hx hb dX8_twoThirds_4 (by decide) ?_
  obtain rfl := Option.some.inj hs
  exact re_i F M dX8_twoThirds_5
abbrev rm_X8_ownTotal : Room := { frames := 4, cells := 0, slots := 0, locals := 108 }
theorem mf_X8_ownTotal : MV 8 yX8_ownTotal cX8_ownTotal 4 (some .long) 1 RX8 := ⟨t_935, t_934, tS_71, t_11, ⟨by decide +kernel, by decide +kernel, by decide +kernel⟩, rfl, by decide⟩
def s_X8_ownTotal (N : Nat) (h : IH) (th : Nat) (a0 : Option Nat) : Option (Int64 × IH) := (gI h 9 0 a0).bind fun v1 => ((if v1 = 2 then some 2 else some 1) : Option (Int32)).bind fun q3 => (cV h 8 (some th) fun a12 => s_X8_checkedSum N h a12 a0 q3).bind fun v4 => if (lg_cmp v4.1 1099511627776) = 0 then some (1099511627776, v4.2) else (gI v4.2 9 0 a0).bind fun v6 => if v6 = 0 then some (v4.1, v4.2) else if v6 = 1 then (s_X8_twoThirds v4.2 v4.1.toInt32).bind fun v10 => some (v10.toInt64, v4.2) else if v6 = 2 then (s_X8_twoThirds v4.2 v4.1.toInt32).bind fun v11 => some ((v11 + 50).toInt64, v4.2) else some (0, v4.2)
set_option maxHeartbeats 4000000 in
set_option maxRecDepth 100000 in
theorem c_X8_ownTotal {l : Launch} {D : va_G} {cy : Nat → ClassId} {sz N : Nat} {h : IH} {th : Nat} {a0 : Option Nat} {qF : Int64 × IH} (hs : s_X8_ownTotal N h th a0 = some qF) : Ct l D cy yX8_ownTotal cX8_ownTotal 4 (some .long) rm_X8_ownTotal h sz [.ref th, va_rf a0] qF.2 (some (.long qF.1)) := by
  refine ct_start (by decide +kernel) [(0, .ref th), (1, va_rf a0)] (by simp [lg_sl, cat_rf, cat_i, cat_j, cat_r]) (by simp [lv_args, cat_rf, cat_i, cat_j, cat_r]) ?_
  intro p e s m args below meth c A H0 ls F hin hsz M hl
  obtain ⟨hx, hb, hr, hml, hown, hlk, hts, hK, hN, hA, hH⟩ := id F
  generalize s.heap = H at M ⊢
  generalize ([] : List Loc) = locs at M ⊢
  unfold s_X8_ownTotal at hs
  refine lv_aload_n hx hb dX8_ownTotal_0 rfl (lv_at hl 0 rfl) ?_
  refine lo_aload_n hx hb dX8_ownTotal_1 rfl (lv_at hl 1 rfl) ?_
  refine lo_aload_n hx hb dX8_ownTotal_2 rfl (lv_at hl 1 rfl) ?_
  obtain ⟨v1, g_v1, hs⟩ := bd hs
  refine ro_gIN F M fg_9_0 tN_421 g_v1 dX8_ownTotal_3 ?_
  refine lv_iconst (v := 2) hx hb dX8_ownTotal_6 (by decide) ?_
  obtain ⟨q3, hsq3, hs⟩ := bd hs
  have KJ15 : ∀ (ls : Array Slot) (H : Heap) (locs : List Loc), lv_has ls 4 [(1, va_rf a0)] → Mo D cy A H0 h H locs → W p l e rm_X8_ownTotal s m args below meth c H locs 0 0 (MQ below (QR D cy qF.2 A (some (.long qF.1))) args s 0 0 A) (F0 m 15 ls [.int q3, va_rf a0, .ref th]) := by
    intro ls H locs hl M
    obtain ⟨v4, g_v4, hs⟩ := bd hs
    obtain ⟨a12, e_a12, k_a12, g_v4⟩ := cV_some g_v4
    obtain rfl := Option.some.inj e_a12
    refine ca_Vl (bq := th) (As := [va_rf a0, .int q3]) (rest := []) F M (c_X8_checkedSum g_v4) mf_X8_checkedSum t_936 k_a12 rfl ⟨by decide, by decide⟩ ⟨rfl, rfl⟩ ⟨Nat.zero_le _, Nat.zero_le _⟩ hl.1 rfl (by decide) dX8_ownTotal_15 (fun H locs M => ?_)
    refine lv_lstore_n (i := 2) (lv' := [(2, .long v4.1), (1, va_rf a0)]) hx hb dX8_ownTotal_18 rfl hl (by decide) (by simp [cat_rf, cat_i, cat_j, cat_r]) (fun ls hl => ?_)
    refine lv_lload_n hx hb dX8_ownTotal_19 rfl (lv_at hl 0 rfl) ?_
    refine lv_ldc2 (v := 1099511627776) hx hb hown (hts _ (List.mem_cons_of_mem _ t_943)) dX8_ownTotal_20 ?_
    refine W.lcmp hx hb dX8_ownTotal_23 ?_
    refine lv_if_ne (tgt := 31) hx hb dX8_ownTotal_24 (by decide) (fun c5 => ?_) (fun c5 => ?_)
    · rw [if_neg c5] at hs
      refine lo_aload_n hx hb dX8_ownTotal_31 rfl (lv_at hl 1 rfl) ?_
      obtain ⟨v6, g_v6, hs⟩ := bd hs
      refine ro_gIN F M fg_9_0 tN_421 g_v6 dX8_ownTotal_32 ?_
      by_cases c7 : v6 = 0
      · rw [if_pos c7] at hs
        refine lv_tableIn (tgt := 60) hx hb dX8_ownTotal_35 (by rw [c7]; decide) (by rw [c7]; decide) (by rw [c7]; rfl) (by decide) ?_
        refine lv_lload_n hx hb dX8_ownTotal_60 rfl (lv_at hl 0 rfl) ?_
        obtain rfl := Option.some.inj hs
        exact re_l F M dX8_ownTotal_61
      rw [if_neg c7] at hs
      by_cases c8 : v6 = 1
      · rw [if_pos c8] at hs
        refine lv_tableIn (tgt := 62) hx hb dX8_ownTotal_35 (by rw [c8]; decide) (by rw [c8]; decide) (by rw [c8]; rfl) (by decide) ?_
        refine lv_lload_n hx hb dX8_ownTotal_62 rfl (lv_at hl 0 rfl) ?_
        refine lv_l2i hx hb dX8_ownTotal_63 rfl ?_
        obtain ⟨v10, g_v10, hs⟩ := bd hs
        refine ca_Si (As := [.int v4.1.toInt32]) (rest := []) F M (c_X8_twoThirds g_v10) mf_X8_twoThirds t_955 rfl ⟨by decide, by decide⟩ ⟨rfl, rfl⟩ ⟨Nat.zero_le _, Nat.zero_le _⟩ hl.1 rfl (by decide) dX8_ownTotal_64 (fun H locs M => ?_)
        refine lv_i2l hx hb dX8_ownTotal_67 rfl ?_
        obtain rfl := Option.some.inj hs
        exact re_l F M dX8_ownTotal_68
      rw [if_neg c8] at hs
      by_cases c9 : v6 = 2
      · rw [if_pos c9] at hs
        refine lv_tableIn (tgt := 69) hx hb dX8_ownTotal_35 (by rw [c9]; decide) (by rw [c9]; decide) (by rw [c9]; rfl) (by decide) ?_
        refine lv_lload_n hx hb dX8_ownTotal_69 rfl (lv_at hl 0 rfl) ?_
        refine lv_l2i hx hb dX8_ownTotal_70 rfl ?_
        obtain ⟨v11, g_v11, hs⟩ := bd hs
        refine ca_Si (As := [.int v4.1.toInt32]) (rest := []) F M (c_X8_twoThirds g_v11) mf_X8_twoThirds t_955 rfl ⟨by decide, by decide⟩ ⟨rfl, rfl⟩ ⟨Nat.zero_le _, Nat.zero_le _⟩ hl.1 rfl (by decide) dX8_ownTotal_71 (fun H locs M => ?_)
        refine lv_bipush (v := 50) hx hb dX8_ownTotal_74 (by decide) ?_
        refine lv_iadd hx hb dX8_ownTotal_76 ?_
        refine lv_i2l hx hb dX8_ownTotal_77 rfl ?_
        obtain rfl := Option.some.inj hs
        exact re_l F M dX8_ownTotal_78
      rw [if_neg c9] at hs
      refine lv_tableOut (tgt := 79) hx hb dX8_ownTotal_35 (by have := ne_ti (k := 0) (n := 0) rfl c7; have := ne_ti (k := 1) (n := 1) rfl c8; have := ne_ti (k := 2) (n := 2) rfl c9; omega) (by decide) ?_
      refine lv_lconst (v := 0) hx hb dX8_ownTotal_79 (by decide) ?_
      obtain rfl := Option.some.inj hs
      exact re_l F M dX8_ownTotal_80
    · rw [if_pos c5] at hs
      refine lv_ldc2 (v := 1099511627776) hx hb hown (hts _ (List.mem_cons_of_mem _ t_943)) dX8_ownTotal_27 ?_
      obtain rfl := Option.some.inj hs
      exact re_l F M dX8_ownTotal_30
  clear hs
  have hs := hsq3
  refine lv_icmp_ne (tgt := 14) hx hb dX8_ownTotal_7 (by decide) (fun c2 => ?_) (fun c2 => ?_)
  · rw [if_neg c2] at hs
    refine lv_iconst (v := 1) hx hb dX8_ownTotal_14 (by decide) ?_
    obtain rfl := Option.some.inj hs
    exact KJ15 _ _ _ (lv_sub hl [1] rfl) M
  · rw [if_pos c2] at hs
    refine lv_iconst (v := 2) hx hb dX8_ownTotal_10 (by decide) ?_
    refine lv_goto (tgt := 15) hx hb dX8_ownTotal_11 (by decide) ?_
    obtain rfl := Option.some.inj hs
    exact KJ15 _ _ _ (lv_sub hl [1] rfl) M
abbrev rm_X8_totalOf : Room := { frames := 5, cells := 0, slots := 0, locals := 131 }
theorem mf_X8_totalOf : MV 8 yX8_totalOf cX8_totalOf 7 (some .long) 1 RX8 := ⟨t_930, t_929, tS_70, t_11, ⟨by decide +kernel, by decide +kernel, by decide +kernel⟩, rfl, by decide⟩
def s_X8_totalOf_L4 (N : Nat) : Nat → Nat → Int32 → Int32 → Int32 → IH → Option ((Int64 × IH) ⊕ (Int32 × IH))
  | 0, _, _, _, _, _ => none
  | n + 1, th, x1, x2, x3, h => (gR h 8 0 (some th)).bind fun v1 => (gI h 7 1 v1).bind fun v2 => if v2 ≤ x3 then some (.inr (x2, h)) else (gR h 8 0 (some th)).bind fun v4 => (cV h 7 v4 fun a16 => s_X7_at h a16 x3).bind fun v5 => if v5 = none then s_X8_totalOf_L4 N n th x1 x2 (x3 + 1) h else if x3 = x1 then (cV h 8 (some th) fun a10 => s_X8_ownTotal N h a10 v5).bind fun v8 => if (lg_cmp v8.1 1099511627776) = 0 then some (.inl (1099511627776, v8.2)) else s_X8_totalOf_L4 N n th x1 (x2 + v8.1.toInt32) (x3 + 1) v8.2 else (gI h 9 6 v5).bind fun v11 => if v11 = x1 then (cV h 8 (some th) fun a15 => s_X8_ownTotal N h a15 v5).bind fun v13 => if (lg_cmp v13.1 1099511627776) = 0 then some (.inl (1099511627776, v13.2)) else s_X8_totalOf_L4 N n th x1 (x2 + v13.1.toInt32) (x3 + 1) v13.2 else s_X8_totalOf_L4 N n th x1 x2 (x3 + 1) h
def s_X8_totalOf (N : Nat) (h : IH) (th : Nat) (a0 : Int32) : Option (Int64 × IH) := (s_X8_totalOf_L4 N N th a0 0 0 h).bind fun q17 => Sum.elim (fun v => some v) (fun t18 => some (t18.1.toInt64, t18.2)) q17
set_option maxHeartbeats 4000000 in
set_option maxRecDepth 100000 in
theorem w_X8_totalOf_L4 {p : Program} {l : Launch} {e : Env} {s : State} {m : MethodId} {args : Array Value} {below : List Frame} {meth : Method} {c : Code} {D : va_G} {cy : Nat → ClassId} {A : Nat → Prop} {H0 : Heap} {N th : Nat} {x1 : Int32} {qF : Int64 × IH} (F : Fx p s m args meth c D cy A H0 yX8_totalOf cX8_totalOf 7 (some .long)) : ∀ (n : Nat) (x2 : Int32) (x3 : Int32) (h : IH) (ls : Array Slot) (H : Heap) (locs : List Loc) (q : (Int64 × IH) ⊕ (Int32 × IH)), s_X8_totalOf_L4 N n th x1 x2 x3 h = some q → lv_has ls 7 [(0, .ref th), (1, .int x1), (2, .int x2), (3, .int x3)] → Mo D cy A H0 h H locs → (∀ (t : Int32 × IH) (ls : Array Slot) (H : Heap) (locs : List Loc), q = .inr t → lv_has ls 7 [(2, .int t.1)] → Mo D cy A H0 t.2 H locs → W p l e rm_X8_totalOf s m args below meth c H locs 0 0 (MQ below (QR D cy qF.2 A (some (.long qF.1))) args s 0 0 A) (F0 m 80 ls [])) → (∀ v, q = .inl v → v = qF) → W p l e rm_X8_totalOf s m args below meth c H locs 0 0 (MQ below (QR D cy qF.2 A (some (.long qF.1))) args s 0 0 A) (F0 m 4 ls []) := by
  intro n
  induction n with
  | zero => intro x2 x3 h ls H locs q hs; rw [s_X8_totalOf_L4.eq_1] at hs; cases hs
  | succ n ih =>
    intro x2 x3 h ls H locs q hs hl M kx kr
    obtain ⟨hx, hb, hr, hml, hown, hlk, hts, hK, hN, hA, hH⟩ := id F
    rw [s_X8_totalOf_L4.eq_2] at hs
    refine lv_iload_n hx hb dX8_totalOf_4 rfl (lv_at hl 3 rfl) ?_
    refine lv_aload_n hx hb dX8_totalOf_5 rfl (lv_at hl 0 rfl) ?_
    obtain ⟨v1, g_v1, hs⟩ := bd hs
    refine ro_gR F M fg_8_0 t_318 g_v1 dX8_totalOf_6 ?_
    obtain ⟨v2, g_v2, hs⟩ := bd hs
    refine ro_gIN F M fg_7_1 tN_70 g_v2 dX8_totalOf_9 ?_
    refine lv_icmp_ge (tgt := 80) hx hb dX8_totalOf_12 (by decide) (fun c3 => ?_) (fun c3 => ?_)
    · rw [if_pos c3] at hs
      exact kx (x2, h) _ _ _ (Option.some.inj hs).symm (lv_sub hl [2] rfl) M
    · rw [if_neg c3] at hs
      refine lv_aload_n hx hb dX8_totalOf_15 rfl (lv_at hl 0 rfl) ?_
      obtain ⟨v4, g_v4, hs⟩ := bd hs
      refine ro_gR F M fg_8_0 t_318 g_v4 dX8_totalOf_16 ?_
      refine lv_iload_n hx hb dX8_totalOf_19 rfl (lv_at hl 3 rfl) ?_
      obtain ⟨v5, g_v5, hs⟩ := bd hs
      obtain ⟨a16, e_a16, k_a16, g_v5⟩ := cV_some g_v5
      refine ca_VNa (bq := a16) (As := [.int x3]) (rest := []) F M (c_X7_at g_v5) mf_X7_at tN_931 k_a16 rfl ⟨by decide, by decide⟩ ⟨rfl, rfl⟩ ⟨Nat.zero_le _, Nat.zero_le _⟩ hl.1 (by rw [e_a16]; rfl) (by decide) dX8_totalOf_20 (fun H locs M => ?_)
      refine lo_astore (i := 4) (lv' := [(4, va_rf v5), (0, .ref th), (1, .int x1), (2, .int x2), (3, .int x3)]) hx hb dX8_totalOf_23 hl (by decide) rfl (fun ls hl => ?_)
      refine lo_aload hx hb dX8_totalOf_25 (lv_at hl 0 rfl) ?_
      refine lo_ifnull (tgt := 74) hx hb dX8_totalOf_27 (by decide) (fun c6 => ?_) (fun c6 => ?_)
      · rw [if_pos c6] at hs
        refine lv_iinc (v := x3 + 1) (lv' := [(3, .int (x3 + 1)), (4, va_rf v5), (0, .ref th), (1, .int x1), (2, .int x2)]) hx hb dX8_totalOf_74 hl (k := 4) rfl rfl (by decide) rfl (fun ls hl => ?_)
        refine lv_goto (tgt := 4) hx hb dX8_totalOf_77 (by decide) ?_
        exact ih x2 (x3 + 1) h _ _ _ _ hs (lv_sub hl [2, 3, 4, 0] rfl) M kx kr
      · rw [if_neg c6] at hs
        refine lv_iload_n hx hb dX8_totalOf_30 rfl (lv_at hl 4 rfl) ?_
        refine lv_iload_n hx hb dX8_totalOf_31 rfl (lv_at hl 2 rfl) ?_
        refine lv_icmp_eq (tgt := 47) hx hb dX8_totalOf_32 (by decide) (fun c7 => ?_) (fun c7 => ?_)
        · rw [if_pos c7] at hs
          refine lv_aload_n hx hb dX8_totalOf_47 rfl (lv_at hl 1 rfl) ?_
          refine lo_aload hx hb dX8_totalOf_48 (lv_at hl 0 rfl) ?_
          obtain ⟨v8, g_v8, hs⟩ := bd hs
          obtain ⟨a10, e_a10, k_a10, g_v8⟩ := cV_some g_v8
          obtain rfl := Option.some.inj e_a10
          refine ca_Vl (bq := th) (As := [va_rf v5]) (rest := []) F M (c_X8_ownTotal g_v8) mf_X8_ownTotal t_932 k_a10 rfl ⟨by decide, by decide⟩ ⟨rfl, rfl⟩ ⟨Nat.zero_le _, Nat.zero_le _⟩ hl.1 rfl (by decide) dX8_totalOf_50 (fun H locs M => ?_)
          refine lv_lstore (i := 5) (lv' := [(5, .long v8.1), (4, va_rf v5), (0, .ref th), (1, .int x1), (2, .int x2), (3, .int x3)]) hx hb dX8_totalOf_53 hl (by decide) (by simp [cat_rf, cat_i, cat_j, cat_r]) (fun ls hl => ?_)
          refine lv_lload hx hb dX8_totalOf_55 (lv_at hl 0 rfl) ?_
          refine lv_ldc2 (v := 1099511627776) hx hb hown (hts _ (List.mem_cons_of_mem _ t_943)) dX8_totalOf_57 ?_
          refine W.lcmp hx hb dX8_totalOf_60 ?_
          refine lv_if_ne (tgt := 68) hx hb dX8_totalOf_61 (by decide) (fun c9 => ?_) (fun c9 => ?_)
          · rw [if_neg c9] at hs
            refine lv_iload_n hx hb dX8_totalOf_68 rfl (lv_at hl 4 rfl) ?_
            refine lv_lload hx hb dX8_totalOf_69 (lv_at hl 0 rfl) ?_
            refine lv_l2i hx hb dX8_totalOf_71 rfl ?_
            refine lv_iadd hx hb dX8_totalOf_72 ?_
            refine lv_istore_n (i := 2) (lv' := [(2, .int (x2 + v8.1.toInt32)), (5, .long v8.1), (4, va_rf v5), (0, .ref th), (1, .int x1), (3, .int x3)]) hx hb dX8_totalOf_73 rfl hl (by decide) rfl (fun ls hl => ?_)
            refine lv_iinc (v := x3 + 1) (lv' := [(3, .int (x3 + 1)), (2, .int (x2 + v8.1.toInt32)), (5, .long v8.1), (4, va_rf v5), (0, .ref th), (1, .int x1)]) hx hb dX8_totalOf_74 hl (k := 5) rfl rfl (by decide) rfl (fun ls hl => ?_)
            refine lv_goto (tgt := 4) hx hb dX8_totalOf_77 (by decide) ?_
            exact ih (x2 + v8.1.toInt32) (x3 + 1) v8.2 _ _ _ _ hs (lv_sub hl [4, 5, 1, 0] rfl) M kx kr
          · rw [if_pos c9] at hs
            refine lv_ldc2 (v := 1099511627776) hx hb hown (hts _ (List.mem_cons_of_mem _ t_943)) dX8_totalOf_64 ?_
            obtain rfl := kr _ (Option.some.inj hs).symm
            exact re_l F M dX8_totalOf_67
        · rw [if_neg c7] at hs
          refine lo_aload hx hb dX8_totalOf_35 (lv_at hl 0 rfl) ?_
          obtain ⟨v11, g_v11, hs⟩ := bd hs
          refine ro_gIN F M fg_9_6 tN_434 g_v11 dX8_totalOf_37 ?_
          refine lv_iload_n hx hb dX8_totalOf_40 rfl (lv_at hl 2 rfl) ?_
          refine lv_icmp_eq (tgt := 47) hx hb dX8_totalOf_41 (by decide) (fun c12 => ?_) (fun c12 => ?_)
          · rw [if_pos c12] at hs
            refine lv_aload_n hx hb dX8_totalOf_47 rfl (lv_at hl 1 rfl) ?_
            refine lo_aload hx hb dX8_totalOf_48 (lv_at hl 0 rfl) ?_
            obtain ⟨v13, g_v13, hs⟩ := bd hs
            obtain ⟨a15, e_a15, k_a15, g_v13⟩ := cV_some g_v13
            obtain rfl := Option.some.inj e_a15
            refine ca_Vl (bq := th) (As := [va_rf v5]) (rest := []) F M (c_X8_ownTotal g_v13) mf_X8_ownTotal t_932 k_a15 rfl ⟨by decide, by decide⟩ ⟨rfl, rfl⟩ ⟨Nat.zero_le _, Nat.zero_le _⟩ hl.1 rfl (by decide) dX8_totalOf_50 (fun H locs M => ?_)
            refine lv_lstore (i := 5) (lv' := [(5, .long v13.1), (4, va_rf v5), (0, .ref th), (1, .int x1), (2, .int x2), (3, .int x3)]) hx hb dX8_totalOf_53 hl (by decide) (by simp [cat_rf, cat_i, cat_j, cat_r]) (fun ls hl => ?_)
            refine lv_lload hx hb dX8_totalOf_55 (lv_at hl 0 rfl) ?_
            refine lv_ldc2 (v := 1099511627776) hx hb hown (hts _ (List.mem_cons_of_mem _ t_943)) dX8_totalOf_57 ?_
            refine W.lcmp hx hb dX8_totalOf_60 ?_
            refine lv_if_ne (tgt := 68) hx hb dX8_totalOf_61 (by decide) (fun c14 => ?_) (fun c14 => ?_)
            · rw [if_neg c14] at hs
              refine lv_iload_n hx hb dX8_totalOf_68 rfl (lv_at hl 4 rfl) ?_
              refine lv_lload hx hb dX8_totalOf_69 (lv_at hl 0 rfl) ?_
              refine lv_l2i hx hb dX8_totalOf_71 rfl ?_
              refine lv_iadd hx hb dX8_totalOf_72 ?_
              refine lv_istore_n (i := 2) (lv' := [(2, .int (x2 + v13.1.toInt32)), (5, .long v13.1), (4, va_rf v5), (0, .ref th), (1, .int x1), (3, .int x3)]) hx hb dX8_totalOf_73 rfl hl (by decide) rfl (fun ls hl => ?_)
              refine lv_iinc (v := x3 + 1) (lv' := [(3, .int (x3 + 1)), (2, .int (x2 + v13.1.toInt32)), (5, .long v13.1), (4, va_rf v5), (0, .ref th), (1, .int x1)]) hx hb dX8_totalOf_74 hl (k := 5) rfl rfl (by decide) rfl (fun ls hl => ?_)
              refine lv_goto (tgt := 4) hx hb dX8_totalOf_77 (by decide) ?_
              exact ih (x2 + v13.1.toInt32) (x3 + 1) v13.2 _ _ _ _ hs (lv_sub hl [4, 5, 1, 0] rfl) M kx kr
            · rw [if_pos c14] at hs
              refine lv_ldc2 (v := 1099511627776) hx hb hown (hts _ (List.mem_cons_of_mem _ t_943)) dX8_totalOf_64 ?_
              obtain rfl := kr _ (Option.some.inj hs).symm
              exact re_l F M dX8_totalOf_67
          · rw [if_neg c12] at hs
            refine lv_goto (tgt := 74) hx hb dX8_totalOf_44 (by decide) ?_
            refine lv_iinc (v := x3 + 1) (lv' := [(3, .int (x3 + 1)), (4, va_rf v5), (0, .ref th), (1, .int x1), (2, .int x2)]) hx hb dX8_totalOf_74 hl (k := 4) rfl rfl (by decide) rfl (fun ls hl => ?_)
            refine lv_goto (tgt := 4) hx hb dX8_totalOf_77 (by decide) ?_
            exact ih x2 (x3 + 1) h _ _ _ _ hs (lv_sub hl [2, 3, 4, 0] rfl) M kx kr
set_option maxHeartbeats 4000000 in
set_option maxRecDepth 100000 in
theorem c_X8_totalOf {l : Launch} {D : va_G} {cy : Nat → ClassId} {sz N : Nat} {h : IH} {th : Nat} {a0 : Int32} {qF : Int64 × IH} (hs : s_X8_totalOf N h th a0 = some qF) : Ct l D cy yX8_totalOf cX8_totalOf 7 (some .long) rm_X8_totalOf h sz [.ref th, .int a0] qF.2 (some (.long qF.1)) := by
  refine ct_start (by decide +kernel) [(0, .ref th), (1, .int a0)] (Nat.le_of_ble_eq_true rfl) rfl ?_
  intro p e s m args below meth c A H0 ls F hin hsz M hl
  obtain ⟨hx, hb, hr, hml, hown, hlk, hts, hK, hN, hA, hH⟩ := id F
  generalize s.heap = H at M ⊢
  generalize ([] : List Loc) = locs at M ⊢
  unfold s_X8_totalOf at hs
  refine lv_iconst (v := 0) hx hb dX8_totalOf_0 (by decide) ?_
  refine lv_istore_n (i := 2) (lv' := [(2, .int 0), (0, .ref th), (1, .int a0)]) hx hb dX8_totalOf_1 rfl hl (by decide) rfl (fun ls hl => ?_)
  refine lv_iconst (v := 0) hx hb dX8_totalOf_2 (by decide) ?_
  refine lv_istore_n (i := 3) (lv' := [(3, .int 0), (2, .int 0), (0, .ref th), (1, .int a0)]) hx hb dX8_totalOf_3 rfl hl (by decide) rfl (fun ls hl => ?_)
  obtain ⟨q17, g_q17, hs⟩ := bd hs
  refine w_X8_totalOf_L4 F N 0 0 h _ _ _ q17 g_q17 (lv_sub hl [2, 3, 1, 0] rfl) M (fun t18 ls H locs eq_ hl M => ?_) (fun v eq_ => ?_)
  · subst eq_
    have hs := se_r hs
    refine lv_iload_n hx hb dX8_totalOf_80 rfl (lv_at hl 0 rfl) ?_
    refine lv_i2l hx hb dX8_totalOf_81 rfl ?_
    obtain rfl := Option.some.inj hs
    exact re_l F M dX8_totalOf_82
  · subst eq_
    have hs := se_l hs
    exact (Option.some.inj hs)
abbrev rm_X11_total : Room := { frames := 6, cells := 0, slots := 0, locals := 157 }
theorem mf_X11_total : MV 11 yX11_total cX11_total 3 (some .int) 1 RX11 := ⟨t_926, t_924, t_925, t_1, ⟨by decide +kernel, by decide +kernel, by decide +kernel⟩, rfl, by decide⟩
def s_X11_total (N : Nat) (h : IH) (th : Nat) (a0 : Int32) : Option (Int32 × IH) := (gR h 11 4 (some th)).bind fun v1 => (cV h 0 v1 fun a12 => s_X0_refresh N h a12 ).bind fun v2 => (cV v2 11 (some th) fun a11 => s_X11_askedStation v2 a11 a0).bind fun v3 => ((if v3.1 = none then some (0, v3.2) else (gR v3.2 11 5 (some th)).bind fun v5 => (cV v3.2 8 v5 fun a7 => s_X8_totalOf N v3.2 a7 a0).bind fun v6 => some (v6.1, v6.2)) : Option (Int64 × IH)).bind fun q8 => (cV q8.2 11 (some th) fun a10 => s_X11_answeredSum q8.2 a10 q8.1).bind fun v9 => some (v9.1.toInt32, v9.2)
set_option maxHeartbeats 4000000 in
set_option maxRecDepth 100000 in
theorem c_X11_total {l : Launch} {D : va_G} {cy : Nat → ClassId} {sz N : Nat} {h : IH} {th : Nat} {a0 : Int32} {qF : Int32 × IH} (hs : s_X11_total N h th a0 = some qF) : Ct l D cy yX11_total cX11_total 3 (some .int) rm_X11_total h sz [.ref th, .int a0] qF.2 (some (.int qF.1)) := by
  refine ct_start (by decide +kernel) [(0, .ref th), (1, .int a0)] (Nat.le_of_ble_eq_true rfl) rfl ?_
  intro p e s m args below meth c A H0 ls F hin hsz M hl
  obtain ⟨hx, hb, hr, hml, hown, hlk, hts, hK, hN, hA, hH⟩ := id F
  generalize s.heap = H at M ⊢
  generalize ([] : List Loc) = locs at M ⊢
  unfold s_X11_total at hs
  refine lv_aload_n hx hb dX11_total_0 rfl (lv_at hl 0 rfl) ?_
  obtain ⟨v1, g_v1, hs⟩ := bd hs
  refine ro_gR F M fg_11_4 t_334 g_v1 dX11_total_1 ?_
  obtain ⟨v2, g_v2, hs⟩ := bd hs
  obtain ⟨a12, e_a12, k_a12, g_v2⟩ := cV_some g_v2
  refine ca_VNv (bq := a12) (As := []) (rest := []) F M (c_X0_refresh g_v2) mf_X0_refresh tN_714 k_a12 rfl ⟨by decide, by decide⟩ ⟨rfl, rfl⟩ ⟨Nat.zero_le _, Nat.zero_le _⟩ hl.1 (by rw [e_a12]; rfl) (by decide) dX11_total_4 (fun H locs M => ?_)
  refine lv_aload_n hx hb dX11_total_7 rfl (lv_at hl 0 rfl) ?_
  refine lv_iload_n hx hb dX11_total_8 rfl (lv_at hl 1 rfl) ?_
  obtain ⟨v3, g_v3, hs⟩ := bd hs
  obtain ⟨a11, e_a11, k_a11, g_v3⟩ := cV_some g_v3
  obtain rfl := Option.some.inj e_a11
  refine ca_Va (bq := th) (As := [.int a0]) (rest := []) F M (c_X11_askedStation g_v3) mf_X11_askedStation t_657 k_a11 rfl ⟨by decide, by decide⟩ ⟨rfl, rfl⟩ ⟨Nat.zero_le _, Nat.zero_le _⟩ hl.1 rfl (by decide) dX11_total_9 (fun H locs M => ?_)
  refine lo_astore_n (i := 2) (lv' := [(2, va_rf v3.1), (0, .ref th), (1, .int a0)]) hx hb dX11_total_12 rfl hl (by decide) rfl (fun ls hl => ?_)
  refine lv_aload_n hx hb dX11_total_13 rfl (lv_at hl 1 rfl) ?_
  refine lo_aload_n hx hb dX11_total_14 rfl (lv_at hl 0 rfl) ?_
  obtain ⟨q8, hsq8, hs⟩ := bd hs
  have KJ30 : ∀ (ls : Array Slot) (H : Heap) (locs : List Loc), lv_has ls 3 [] → Mo D cy A H0 q8.2 H locs → W p l e rm_X11_total s m args below meth c H locs 0 0 (MQ below (QR D cy qF.2 A (some (.int qF.1))) args s 0 0 A) (F0 m 30 ls [.long q8.1, .ref th]) := by
    intro ls H locs hl M
    obtain ⟨v9, g_v9, hs⟩ := bd hs
    obtain ⟨a10, e_a10, k_a10, g_v9⟩ := cV_some g_v9
    obtain rfl := Option.some.inj e_a10
    refine ca_Vl (bq := th) (As := [.long q8.1]) (rest := []) F M (c_X11_answeredSum g_v9) mf_X11_answeredSum t_918 k_a10 rfl ⟨by decide, by decide⟩ ⟨rfl, rfl⟩ ⟨Nat.zero_le _, Nat.zero_le _⟩ hl.1 rfl (by decide) dX11_total_30 (fun H locs M => ?_)
    refine lv_l2i hx hb dX11_total_33 rfl ?_
    obtain rfl := Option.some.inj hs
    exact re_i F M dX11_total_34
  clear hs
  have hs := hsq8
  refine lo_ifnonnull (tgt := 22) hx hb dX11_total_15 (by decide) (fun c4 => ?_) (fun c4 => ?_)
  · rw [if_neg c4] at hs
    refine lv_aload_n hx hb dX11_total_22 rfl (lv_at hl 1 rfl) ?_
    obtain ⟨v5, g_v5, hs⟩ := bd hs
    refine ro_gR F M fg_11_5 t_335 g_v5 dX11_total_23 ?_
    refine lv_iload_n hx hb dX11_total_26 rfl (lv_at hl 2 rfl) ?_
    obtain ⟨v6, g_v6, hs⟩ := bd hs
    obtain ⟨a7, e_a7, k_a7, g_v6⟩ := cV_some g_v6
    refine ca_VNl (bq := a7) (As := [.int a0]) (rest := [.ref th]) F M (c_X8_totalOf g_v6) mf_X8_totalOf tN_927 k_a7 rfl ⟨by decide, by decide⟩ ⟨rfl, rfl⟩ ⟨Nat.zero_le _, Nat.zero_le _⟩ hl.1 (by rw [e_a7]; rfl) (by simp [cat_rf, cat_i, cat_j, cat_r]) dX11_total_27 (fun H locs M => ?_)
    obtain rfl := Option.some.inj hs
    exact KJ30 _ _ _ (lv_sub hl [] rfl) M
  · rw [if_pos c4] at hs
    refine lv_lconst (v := 0) hx hb dX11_total_18 (by decide) ?_
    refine lv_goto (tgt := 30) hx hb dX11_total_19 (by decide) ?_
    obtain rfl := Option.some.inj hs
    exact KJ30 _ _ _ (lv_sub hl [] rfl) M
abbrev rm_J9_max_f86c9 : Room := { frames := 0, cells := 0, slots := 0, locals := 0 }
theorem mf_J9_max_f86c9 : MS yJ9_max_f86c9 cJ9_max_f86c9 4 (some .long) 2 := ⟨t_970, t_969, t_18, ⟨by decide +kernel, by decide +kernel, by decide +kernel⟩⟩
def s_J9_max_f86c9 (h : IH) (a0 : Int64) (a1 : Int64) : Option (Int64) := ((if (lg_cmp a0 a1) < 0 then some a1 else some a0) : Option (Int64)).bind fun q2 => some q2
set_option maxHeartbeats 4000000 in
set_option maxRecDepth 100000 in
theorem c_J9_max_f86c9 {l : Launch} {D : va_G} {cy : Nat → ClassId} {sz : Nat} {h : IH} {a0 : Int64} {a1 : Int64} {qF : Int64} (hs : s_J9_max_f86c9 h a0 a1 = some qF) : Ct l D cy yJ9_max_f86c9 cJ9_max_f86c9 4 (some .long) rm_J9_max_f86c9 h sz [.long a0, .long a1] h (some (.long qF)) := by
  refine ct_startF (by decide +kernel) [(0, .long a0), (2, .long a1)] (Nat.le_of_ble_eq_true rfl) rfl ?_
  intro p e s m args below meth c A H0 ls F hin hsz M hl
  obtain ⟨hx, hb, hr, hml, hown, hlk, hts, hK, hN, hA, hH⟩ := id F
  generalize s.heap = H at M ⊢
  generalize ([] : List Loc) = locs at M ⊢
  unfold s_J9_max_f86c9 at hs
  refine lv_lload_n hx hb dJ9_max_f86c9_0 rfl (lv_at hl 0 rfl) ?_
  refine lv_lload_n hx hb dJ9_max_f86c9_1 rfl (lv_at hl 1 rfl) ?_
  refine W.lcmp hx hb dJ9_max_f86c9_2 ?_
  obtain ⟨q2, hsq2, hs⟩ := bd hs
  have KJ11 : ∀ (ls : Array Slot) (H : Heap) (locs : List Loc), lv_has ls 4 [] → Mo D cy A H0 h H locs → W p l e rm_J9_max_f86c9 s m args below meth c H locs 0 0 (MQ below (QR D cy h A (some (.long qF))) args s 0 0 A) (F0 m 11 ls [.long q2]) := by
    intro ls H locs hl M
    obtain rfl := Option.some.inj hs
    exact re_l F M dJ9_max_f86c9_11
  clear hs
  have hs := hsq2
  refine lv_if_lt (tgt := 10) hx hb dJ9_max_f86c9_3 (by decide) (fun c1 => ?_) (fun c1 => ?_)
  · rw [if_pos c1] at hs
    refine lv_lload_n hx hb dJ9_max_f86c9_10 rfl (lv_at hl 1 rfl) ?_
    obtain rfl := Option.some.inj hs
    exact KJ11 _ _ _ (lv_sub hl [] rfl) M
  · rw [if_neg c1] at hs
    refine lv_lload_n hx hb dJ9_max_f86c9_6 rfl (lv_at hl 0 rfl) ?_
    refine lv_goto (tgt := 11) hx hb dJ9_max_f86c9_7 (by decide) ?_
    obtain rfl := Option.some.inj hs
    exact KJ11 _ _ _ (lv_sub hl [] rfl) M
abbrev rm_X9_spanOfContacts : Room := { frames := 1, cells := 0, slots := 0, locals := 23 }
theorem mf_X9_spanOfContacts : MV 9 yX9_spanOfContacts cX9_spanOfContacts 11 (some .long) 0 RX9 := ⟨t_965, t_964, tS_74, t_13, ⟨by decide +kernel, by decide +kernel, by decide +kernel⟩, rfl, by decide⟩
def s_X9_spanOfContacts_L37 (N : Nat) : Nat → Int64 → Int64 → Option Nat → Int32 → Int32 → Option Nat → Int32 → IH → Option (Int64 × Int64)
  | 0, _, _, _, _, _, _, _, _ => none
  | n + 1, x1, x3, x5, x6, x7, x8, x9, h => (gI h 4 1 x8).bind fun v5 => if v5 ≤ x9 then some (x1, x3) else (cV h 4 x8 fun a14 => s_X4_contactAt h a14 x9).bind fun v7 => ((if v7 = none then some (x1, x3) else (gL h 2 1 v7).bind fun v9 => (s_J9_min_f86c9 h x1 v9).bind fun v10 => (gL h 2 1 v7).bind fun v11 => (s_J9_max_f86c9 h x3 v11).bind fun v12 => some (v10, v12)) : Option (Int64 × Int64)).bind fun q13 => s_X9_spanOfContacts_L37 N n q13.1 q13.2 x5 x6 x7 x8 (x9 + 1) h
def s_X9_spanOfContacts_L20 (N : Nat) : Nat → Int64 → Int64 → Option Nat → Int32 → Int32 → IH → Option (Int64 × Int64)
  | 0, _, _, _, _, _, _ => none
  | n + 1, x1, x3, x5, x6, x7, h => if x6 ≤ x7 then some (x1, x3) else (aR h 4 x5 x7).bind fun v4 => (s_X9_spanOfContacts_L37 N N x1 x3 x5 x6 x7 v4 0 h).bind fun q15 => s_X9_spanOfContacts_L20 N n q15.1 q15.2 x5 x6 (x7 + 1) h
def s_X9_spanOfContacts (N : Nat) (h : IH) (th : Nat) : Option (Int64) := (gR h 9 5 (some th)).bind fun v1 => (lnO h v1).bind fun v2 => (s_X9_spanOfContacts_L20 N N 1099511627776 0 v1 v2 0 h).bind fun q16 => ((if (lg_cmp q16.1 1099511627776) = 0 then some 0 else some (q16.2 - q16.1)) : Option (Int64)).bind fun q18 => some q18
set_option maxHeartbeats 4000000 in
set_option maxRecDepth 100000 in
theorem w_X9_spanOfContacts_L37 {p : Program} {l : Launch} {e : Env} {s : State} {m : MethodId} {args : Array Value} {below : List Frame} {meth : Method} {c : Code} {D : va_G} {cy : Nat → ClassId} {A : Nat → Prop} {H0 : Heap} {N : Nat} {x5 : Option Nat} {x6 : Int32} {x7 : Int32} {x8 : Option Nat} {h : IH} {qF : Int64} (F : Fx p s m args meth c D cy A H0 yX9_spanOfContacts cX9_spanOfContacts 11 (some .long)) : ∀ (n : Nat) (x1 : Int64) (x3 : Int64) (x9 : Int32) (ls : Array Slot) (H : Heap) (locs : List Loc) (q : Int64 × Int64), s_X9_spanOfContacts_L37 N n x1 x3 x5 x6 x7 x8 x9 h = some q → lv_has ls 11 [(1, .long x1), (3, .long x3), (5, va_rf x5), (6, .int x6), (7, .int x7), (8, va_rf x8), (9, .int x9)] → Mo D cy A H0 h H locs → (∀ (t : Int64 × Int64) (ls : Array Slot) (H : Heap) (locs : List Loc), q = t → lv_has ls 11 [(1, .long t.1), (3, .long t.2), (5, va_rf x5), (6, .int x6), (7, .int x7)] → Mo D cy A H0 h H locs → W p l e rm_X9_spanOfContacts s m args below meth c H locs 0 0 (MQ below (QR D cy h A (some (.long qF))) args s 0 0 A) (F0 m 87 ls [])) → (∀ v : Int64, False → v = qF) → W p l e rm_X9_spanOfContacts s m args below meth c H locs 0 0 (MQ below (QR D cy h A (some (.long qF))) args s 0 0 A) (F0 m 37 ls []) := by
  intro n
  induction n with
  | zero => intro x1 x3 x9 ls H locs q hs; rw [s_X9_spanOfContacts_L37.eq_1] at hs; cases hs
  | succ n ih =>
    intro x1 x3 x9 ls H locs q hs hl M kx kr
    obtain ⟨hx, hb, hr, hml, hown, hlk, hts, hK, hN, hA, hH⟩ := id F
    rw [s_X9_spanOfContacts_L37.eq_2] at hs
    refine lv_iload hx hb dX9_spanOfContacts_37 (lv_at hl 6 rfl) ?_
    refine lo_aload hx hb dX9_spanOfContacts_39 (lv_at hl 5 rfl) ?_
    obtain ⟨v5, g_v5, hs⟩ := bd hs
    refine ro_gIN F M fg_4_1 tN_173 g_v5 dX9_spanOfContacts_41 ?_
    refine lv_icmp_ge (tgt := 87) hx hb dX9_spanOfContacts_44 (by decide) (fun c6 => ?_) (fun c6 => ?_)
    · rw [if_pos c6] at hs
      exact kx (x1, x3) _ _ _ (Option.some.inj hs).symm (lv_sub hl [0, 1, 2, 3, 4] rfl) M
    · rw [if_neg c6] at hs
      refine lo_aload hx hb dX9_spanOfContacts_47 (lv_at hl 5 rfl) ?_
      refine lv_iload hx hb dX9_spanOfContacts_49 (lv_at hl 6 rfl) ?_
      obtain ⟨v7, g_v7, hs⟩ := bd hs
      obtain ⟨a14, e_a14, k_a14, g_v7⟩ := cV_some g_v7
      refine ca_VNa (bq := a14) (As := [.int x9]) (rest := []) F M (c_X4_contactAt g_v7) mf_X4_contactAt tN_954 k_a14 rfl ⟨by decide, by decide⟩ ⟨rfl, rfl⟩ ⟨Nat.zero_le _, Nat.zero_le _⟩ hl.1 (by rw [e_a14]; rfl) (by decide) dX9_spanOfContacts_51 (fun H locs M => ?_)
      refine lo_astore (i := 10) (lv' := [(10, va_rf v7), (1, .long x1), (3, .long x3), (5, va_rf x5), (6, .int x6), (7, .int x7), (8, va_rf x8), (9, .int x9)]) hx hb dX9_spanOfContacts_54 hl (by decide) rfl (fun ls hl => ?_)
      refine lo_aload hx hb dX9_spanOfContacts_56 (lv_at hl 0 rfl) ?_
      obtain ⟨q13, hsq13, hs⟩ := bd hs
      have KJ81 : ∀ (ls : Array Slot) (H : Heap) (locs : List Loc), lv_has ls 11 [(1, .long q13.1), (3, .long q13.2), (5, va_rf x5), (6, .int x6), (7, .int x7), (8, va_rf x8), (9, .int x9)] → Mo D cy A H0 h H locs → W p l e rm_X9_spanOfContacts s m args below meth c H locs 0 0 (MQ below (QR D cy h A (some (.long qF))) args s 0 0 A) (F0 m 81 ls []) := by
        intro ls H locs hl M
        refine lv_iinc (v := x9 + 1) (lv' := [(9, .int (x9 + 1)), (1, .long q13.1), (3, .long q13.2), (5, va_rf x5), (6, .int x6), (7, .int x7), (8, va_rf x8)]) hx hb dX9_spanOfContacts_81 hl (k := 6) rfl rfl (by decide) (by simp [cat_rf, cat_i, cat_j, cat_r]) (fun ls hl => ?_)
        refine lv_goto (tgt := 37) hx hb dX9_spanOfContacts_84 (by decide) ?_
        exact ih q13.1 q13.2 (x9 + 1) _ _ _ _ hs (lv_sub hl [1, 2, 3, 4, 5, 6, 0] rfl) M kx kr
      clear hs
      have hs := hsq13
      refine lo_ifnull (tgt := 81) hx hb dX9_spanOfContacts_58 (by decide) (fun c8 => ?_) (fun c8 => ?_)
      · rw [if_pos c8] at hs
        obtain rfl := Option.some.inj hs
        exact KJ81 _ _ _ (lv_sub hl [1, 2, 3, 4, 5, 6, 7] rfl) M
      · rw [if_neg c8] at hs
        refine lv_lload_n hx hb dX9_spanOfContacts_61 rfl (lv_at hl 1 rfl) ?_
        refine lo_aload hx hb dX9_spanOfContacts_62 (lv_at hl 0 rfl) ?_
        obtain ⟨v9, g_v9, hs⟩ := bd hs
        refine ro_gLN F M fg_2_1 tN_96 g_v9 dX9_spanOfContacts_64 ?_
        obtain ⟨v10, g_v10, hs⟩ := bd hs
        refine ca_Sl (As := [.long x1, .long v9]) (rest := []) F M (c_J9_min_f86c9 g_v10) mf_J9_min_f86c9 t_967 rfl ⟨by decide, by decide⟩ ⟨rfl, rfl⟩ ⟨Nat.zero_le _, Nat.zero_le _⟩ hl.1 rfl (by decide) dX9_spanOfContacts_67 (fun H locs M => ?_)
        refine lv_lstore_n (i := 1) (lv' := [(1, .long v10), (10, va_rf v7), (3, .long x3), (5, va_rf x5), (6, .int x6), (7, .int x7), (8, va_rf x8), (9, .int x9)]) hx hb dX9_spanOfContacts_70 rfl hl (by decide) rfl (fun ls hl => ?_)
        refine lv_lload_n hx hb dX9_spanOfContacts_71 rfl (lv_at hl 2 rfl) ?_
        refine lo_aload hx hb dX9_spanOfContacts_72 (lv_at hl 1 rfl) ?_
        obtain ⟨v11, g_v11, hs⟩ := bd hs
        refine ro_gLN F M fg_2_1 tN_96 g_v11 dX9_spanOfContacts_74 ?_
        obtain ⟨v12, g_v12, hs⟩ := bd hs
        refine ca_Sl (As := [.long x3, .long v11]) (rest := []) F M (c_J9_max_f86c9 g_v12) mf_J9_max_f86c9 t_968 rfl ⟨by decide, by decide⟩ ⟨rfl, rfl⟩ ⟨Nat.zero_le _, Nat.zero_le _⟩ hl.1 rfl (by decide) dX9_spanOfContacts_77 (fun H locs M => ?_)
        refine lv_lstore_n (i := 3) (lv' := [(3, .long v12), (1, .long v10), (10, va_rf v7), (5, va_rf x5), (6, .int x6), (7, .int x7), (8, va_rf x8), (9, .int x9)]) hx hb dX9_spanOfContacts_80 rfl hl (by decide) rfl (fun ls hl => ?_)
        obtain rfl := Option.some.inj hs
        exact KJ81 _ _ _ (lv_sub hl [1, 0, 3, 4, 5, 6, 7] rfl) M
set_option maxHeartbeats 4000000 in
set_option maxRecDepth 100000 in
theorem w_X9_spanOfContacts_L20 {p : Program} {l : Launch} {e : Env} {s : State} {m : MethodId} {args : Array Value} {below : List Frame} {meth : Method} {c : Code} {D : va_G} {cy : Nat → ClassId} {A : Nat → Prop} {H0 : Heap} {N : Nat} {x5 : Option Nat} {x6 : Int32} {h : IH} {qF : Int64} (F : Fx p s m args meth c D cy A H0 yX9_spanOfContacts cX9_spanOfContacts 11 (some .long)) : ∀ (n : Nat) (x1 : Int64) (x3 : Int64) (x7 : Int32) (ls : Array Slot) (H : Heap) (locs : List Loc) (q : Int64 × Int64), s_X9_spanOfContacts_L20 N n x1 x3 x5 x6 x7 h = some q → lv_has ls 11 [(1, .long x1), (3, .long x3), (5, va_rf x5), (6, .int x6), (7, .int x7)] → Mo D cy A H0 h H locs → (∀ (t : Int64 × Int64) (ls : Array Slot) (H : Heap) (locs : List Loc), q = t → lv_has ls 11 [(1, .long t.1), (3, .long t.2)] → Mo D cy A H0 h H locs → W p l e rm_X9_spanOfContacts s m args below meth c H locs 0 0 (MQ below (QR D cy h A (some (.long qF))) args s 0 0 A) (F0 m 93 ls [])) → (∀ v : Int64, False → v = qF) → W p l e rm_X9_spanOfContacts s m args below meth c H locs 0 0 (MQ below (QR D cy h A (some (.long qF))) args s 0 0 A) (F0 m 20 ls []) := by
  intro n
  induction n with
  | zero => intro x1 x3 x7 ls H locs q hs; rw [s_X9_spanOfContacts_L20.eq_1] at hs; cases hs
  | succ n ih =>
    intro x1 x3 x7 ls H locs q hs hl M kx kr
    obtain ⟨hx, hb, hr, hml, hown, hlk, hts, hK, hN, hA, hH⟩ := id F
    rw [s_X9_spanOfContacts_L20.eq_2] at hs
    refine lv_iload hx hb dX9_spanOfContacts_20 (lv_at hl 4 rfl) ?_
    refine lv_iload hx hb dX9_spanOfContacts_22 (lv_at hl 3 rfl) ?_
    refine lv_icmp_ge (tgt := 93) hx hb dX9_spanOfContacts_24 (by decide) (fun c3 => ?_) (fun c3 => ?_)
    · rw [if_pos c3] at hs
      exact kx (x1, x3) _ _ _ (Option.some.inj hs).symm (lv_sub hl [0, 1] rfl) M
    · rw [if_neg c3] at hs
      refine lo_aload hx hb dX9_spanOfContacts_27 (lv_at hl 2 rfl) ?_
      refine lv_iload hx hb dX9_spanOfContacts_29 (lv_at hl 4 rfl) ?_
      obtain ⟨v4, g_v4, hs⟩ := bd hs
      refine ro_aR (k := 4) (by decide) rfl F M g_v4 dX9_spanOfContacts_31 ?_
      refine lo_astore (i := 8) (lv' := [(8, va_rf v4), (1, .long x1), (3, .long x3), (5, va_rf x5), (6, .int x6), (7, .int x7)]) hx hb dX9_spanOfContacts_32 hl (by decide) rfl (fun ls hl => ?_)
      refine lv_iconst (v := 0) hx hb dX9_spanOfContacts_34 (by decide) ?_
      refine lv_istore (i := 9) (lv' := [(9, .int 0), (8, va_rf v4), (1, .long x1), (3, .long x3), (5, va_rf x5), (6, .int x6), (7, .int x7)]) hx hb dX9_spanOfContacts_35 hl (by decide) (by simp [cat_rf, cat_i, cat_j, cat_r]) (fun ls hl => ?_)
      obtain ⟨q15, g_q15, hs⟩ := bd hs
      refine w_X9_spanOfContacts_L37 F N x1 x3 0 _ _ _ q15 g_q15 (lv_sub hl [2, 3, 4, 5, 6, 1, 0] rfl) M (fun t_ ls H locs eq_ hl M => ?_) (fun v eq_ => eq_.elim)
      subst eq_
      refine lv_iinc (v := x7 + 1) (lv' := [(7, .int (x7 + 1)), (1, .long q15.1), (3, .long q15.2), (5, va_rf x5), (6, .int x6)]) hx hb dX9_spanOfContacts_87 hl (k := 4) rfl rfl (by decide) rfl (fun ls hl => ?_)
      refine lv_goto (tgt := 20) hx hb dX9_spanOfContacts_90 (by decide) ?_
      exact ih q15.1 q15.2 (x7 + 1) _ _ _ _ hs (lv_sub hl [1, 2, 3, 4, 0] rfl) M kx kr
set_option maxHeartbeats 4000000 in
set_option maxRecDepth 100000 in
theorem c_X9_spanOfContacts {l : Launch} {D : va_G} {cy : Nat → ClassId} {sz N : Nat} {h : IH} {th : Nat} {qF : Int64} (hs : s_X9_spanOfContacts N h th = some qF) : Ct l D cy yX9_spanOfContacts cX9_spanOfContacts 11 (some .long) rm_X9_spanOfContacts h sz [.ref th] h (some (.long qF)) := by
  refine ct_start (by decide +kernel) [(0, .ref th)] (Nat.le_of_ble_eq_true rfl) rfl ?_
  intro p e s m args below meth c A H0 ls F hin hsz M hl
  obtain ⟨hx, hb, hr, hml, hown, hlk, hts, hK, hN, hA, hH⟩ := id F
  generalize s.heap = H at M ⊢
  generalize ([] : List Loc) = locs at M ⊢
  unfold s_X9_spanOfContacts at hs
  refine lv_ldc2 (v := 1099511627776) hx hb hown (hts _ (List.mem_cons_of_mem _ t_966)) dX9_spanOfContacts_0 ?_
  refine lv_lstore_n (i := 1) (lv' := [(1, .long 1099511627776), (0, .ref th)]) hx hb dX9_spanOfContacts_3 rfl hl (by decide) rfl (fun ls hl => ?_)
  refine lv_lconst (v := 0) hx hb dX9_spanOfContacts_4 (by decide) ?_
  refine lv_lstore_n (i := 3) (lv' := [(3, .long 0), (1, .long 1099511627776), (0, .ref th)]) hx hb dX9_spanOfContacts_5 rfl hl (by decide) rfl (fun ls hl => ?_)
  refine lv_aload_n hx hb dX9_spanOfContacts_6 rfl (lv_at hl 2 rfl) ?_
  obtain ⟨v1, g_v1, hs⟩ := bd hs
  refine ro_gR F M fg_9_5 t_432 g_v1 dX9_spanOfContacts_7 ?_
  refine lo_astore (i := 5) (lv' := [(5, va_rf v1), (3, .long 0), (1, .long 1099511627776), (0, .ref th)]) hx hb dX9_spanOfContacts_10 hl (by decide) rfl (fun ls hl => ?_)
  refine lo_aload hx hb dX9_spanOfContacts_12 (lv_at hl 0 rfl) ?_
  obtain ⟨v2, g_v2, hs⟩ := bd hs
  refine ro_len F M g_v2 dX9_spanOfContacts_14 ?_
  refine lv_istore (i := 6) (lv' := [(6, .int v2), (5, va_rf v1), (3, .long 0), (1, .long 1099511627776), (0, .ref th)]) hx hb dX9_spanOfContacts_15 hl (by decide) (by simp [cat_rf, cat_i, cat_j, cat_r]) (fun ls hl => ?_)
  refine lv_iconst (v := 0) hx hb dX9_spanOfContacts_17 (by decide) ?_
  refine lv_istore (i := 7) (lv' := [(7, .int 0), (6, .int v2), (5, va_rf v1), (3, .long 0), (1, .long 1099511627776), (0, .ref th)]) hx hb dX9_spanOfContacts_18 hl (by decide) rfl (fun ls hl => ?_)
  obtain ⟨q16, g_q16, hs⟩ := bd hs
  refine w_X9_spanOfContacts_L20 F N 1099511627776 0 0 _ _ _ q16 g_q16 (lv_sub hl [4, 3, 2, 1, 0] rfl) M (fun t_ ls H locs eq_ hl M => ?_) (fun v eq_ => eq_.elim)
  subst eq_
  refine lv_lload_n hx hb dX9_spanOfContacts_93 rfl (lv_at hl 0 rfl) ?_
  refine lv_ldc2 (v := 1099511627776) hx hb hown (hts _ (List.mem_cons_of_mem _ t_966)) dX9_spanOfContacts_94 ?_
  refine W.lcmp hx hb dX9_spanOfContacts_97 ?_
  obtain ⟨q18, hsq18, hs⟩ := bd hs
  have KJ108 : ∀ (ls : Array Slot) (H : Heap) (locs : List Loc), lv_has ls 11 [] → Mo D cy A H0 h H locs → W p l e rm_X9_spanOfContacts s m args below meth c H locs 0 0 (MQ below (QR D cy h A (some (.long qF))) args s 0 0 A) (F0 m 108 ls [.long q18]) := by
    intro ls H locs hl M
    obtain rfl := Option.some.inj hs
    exact re_l F M dX9_spanOfContacts_108
  clear hs
  have hs := hsq18
  refine lv_if_ne (tgt := 105) hx hb dX9_spanOfContacts_98 (by decide) (fun c17 => ?_) (fun c17 => ?_)
  · rw [if_neg c17] at hs
    refine lv_lload_n hx hb dX9_spanOfContacts_105 rfl (lv_at hl 1 rfl) ?_
    refine lv_lload_n hx hb dX9_spanOfContacts_106 rfl (lv_at hl 0 rfl) ?_
    refine lv_lsub hx hb dX9_spanOfContacts_107 ?_
    obtain rfl := Option.some.inj hs
    exact KJ108 _ _ _ (lv_sub hl [] rfl) M
  · rw [if_pos c17] at hs
    refine lv_lconst (v := 0) hx hb dX9_spanOfContacts_101 (by decide) ?_
    refine lv_goto (tgt := 108) hx hb dX9_spanOfContacts_102 (by decide) ?_
    obtain rfl := Option.some.inj hs
    exact KJ108 _ _ _ (lv_sub hl [] rfl) M
abbrev rm_X11_rate : Room := { frames := 6, cells := 0, slots := 0, locals := 149 }
theorem mf_X11_rate : MV 11 yX11_rate cX11_rate 5 (some .long) 1 RX11 := ⟨t_961, t_959, t_960, t_1, ⟨by decide +kernel, by decide +kernel, by decide +kernel⟩, rfl, by decide⟩
def s_X11_rate (N : Nat) (h : IH) (th : Nat) (a0 : Int32) : Option (Int64 × IH) := (gR h 11 4 (some th)).bind fun v1 => (cV h 0 v1 fun a18 => s_X0_refresh N h a18 ).bind fun v2 => (cV v2 11 (some th) fun a17 => s_X11_askedStationWithLog N v2 a17 a0).bind fun v3 => if v3.1 = none then (cV v3.2 11 (some th) fun a6 => s_X11_answered v3.2 a6 0).bind fun v5 => some (v5.1, v5.2) else (cV v3.2 9 v3.1 fun a16 => s_X9_spanOfContacts N v3.2 a16 ).bind fun v7 => if (lg_cmp v7 0) = 0 then (cV v3.2 11 (some th) fun a10 => s_X11_refused v3.2 a10 5).bind fun v9 => some (v9.1, v9.2) else (cV v3.2 9 v3.1 fun a15 => s_X9_contactsWithWhy N v3.2 a15 0).bind fun v11 => if v7 = 0 then none else (cV v3.2 11 (some th) fun a14 => s_X11_answered v3.2 a14 ((3600 * v11.toInt64) / v7)).bind fun v13 => some (v13.1, v13.2)
set_option maxHeartbeats 4000000 in
set_option maxRecDepth 100000 in
theorem c_X11_rate {l : Launch} {D : va_G} {cy : Nat → ClassId} {sz N : Nat} {h : IH} {th : Nat} {a0 : Int32} {qF : Int64 × IH} (hs : s_X11_rate N h th a0 = some qF) : Ct l D cy yX11_rate cX11_rate 5 (some .long) rm_X11_rate h sz [.ref th, .int a0] qF.2 (some (.long qF.1)) := by
  refine ct_start (by decide +kernel) [(0, .ref th), (1, .int a0)] (Nat.le_of_ble_eq_true rfl) rfl ?_
  intro p e s m args below meth c A H0 ls F hin hsz M hl
  obtain ⟨hx, hb, hr, hml, hown, hlk, hts, hK, hN, hA, hH⟩ := id F
  generalize s.heap = H at M ⊢
  generalize ([] : List Loc) = locs at M ⊢
  unfold s_X11_rate at hs
  refine lv_aload_n hx hb dX11_rate_0 rfl (lv_at hl 0 rfl) ?_
  obtain ⟨v1, g_v1, hs⟩ := bd hs
  refine ro_gR F M fg_11_4 t_334 g_v1 dX11_rate_1 ?_
  obtain ⟨v2, g_v2, hs⟩ := bd hs
  obtain ⟨a18, e_a18, k_a18, g_v2⟩ := cV_some g_v2
  refine ca_VNv (bq := a18) (As := []) (rest := []) F M (c_X0_refresh g_v2) mf_X0_refresh tN_714 k_a18 rfl ⟨by decide, by decide⟩ ⟨rfl, rfl⟩ ⟨Nat.zero_le _, Nat.zero_le _⟩ hl.1 (by rw [e_a18]; rfl) (by decide) dX11_rate_4 (fun H locs M => ?_)
  refine lv_aload_n hx hb dX11_rate_7 rfl (lv_at hl 0 rfl) ?_
  refine lv_iload_n hx hb dX11_rate_8 rfl (lv_at hl 1 rfl) ?_
  obtain ⟨v3, g_v3, hs⟩ := bd hs
  obtain ⟨a17, e_a17, k_a17, g_v3⟩ := cV_some g_v3
  obtain rfl := Option.some.inj e_a17
  refine ca_Va (bq := th) (As := [.int a0]) (rest := []) F M (c_X11_askedStationWithLog g_v3) mf_X11_askedStationWithLog t_871 k_a17 rfl ⟨by decide, by decide⟩ ⟨rfl, rfl⟩ ⟨Nat.zero_le _, Nat.zero_le _⟩ hl.1 rfl (by decide) dX11_rate_9 (fun H locs M => ?_)
  refine lo_astore_n (i := 2) (lv' := [(2, va_rf v3.1), (0, .ref th), (1, .int a0)]) hx hb dX11_rate_12 rfl hl (by decide) rfl (fun ls hl => ?_)
  refine lo_aload_n hx hb dX11_rate_13 rfl (lv_at hl 0 rfl) ?_
  refine lo_ifnonnull (tgt := 23) hx hb dX11_rate_14 (by decide) (fun c4 => ?_) (fun c4 => ?_)
  · rw [if_neg c4] at hs
    refine lo_aload_n hx hb dX11_rate_23 rfl (lv_at hl 0 rfl) ?_
    obtain ⟨v7, g_v7, hs⟩ := bd hs
    obtain ⟨a16, e_a16, k_a16, g_v7⟩ := cV_some g_v7
    refine ca_VNl (bq := a16) (As := []) (rest := []) F M (c_X9_spanOfContacts g_v7) mf_X9_spanOfContacts tN_962 k_a16 rfl ⟨by decide, by decide⟩ ⟨rfl, rfl⟩ ⟨Nat.zero_le _, Nat.zero_le _⟩ hl.1 (by rw [e_a16]; rfl) (by decide) dX11_rate_24 (fun H locs M => ?_)
    refine lv_lstore_n (i := 3) (lv' := [(3, .long v7), (2, va_rf v3.1), (0, .ref th), (1, .int a0)]) hx hb dX11_rate_27 rfl hl (by decide) (by simp [cat_rf, cat_i, cat_j, cat_r]) (fun ls hl => ?_)
    refine lv_lload_n hx hb dX11_rate_28 rfl (lv_at hl 0 rfl) ?_
    refine lv_lconst (v := 0) hx hb dX11_rate_29 (by decide) ?_
    refine W.lcmp hx hb dX11_rate_30 ?_
    refine lv_if_ne (tgt := 40) hx hb dX11_rate_31 (by decide) (fun c8 => ?_) (fun c8 => ?_)
    · rw [if_neg c8] at hs
      refine lv_aload_n hx hb dX11_rate_40 rfl (lv_at hl 2 rfl) ?_
      refine lv_ldc2 (v := 3600) hx hb hown (hts _ (List.mem_cons_of_mem _ t_971)) dX11_rate_41 ?_
      refine lo_aload_n hx hb dX11_rate_44 rfl (lv_at hl 1 rfl) ?_
      refine lv_iconst (v := 0) hx hb dX11_rate_45 (by decide) ?_
      obtain ⟨v11, g_v11, hs⟩ := bd hs
      obtain ⟨a15, e_a15, k_a15, g_v11⟩ := cV_some g_v11
      refine ca_VNi (bq := a15) (As := [.int 0]) (rest := [.long 3600, .ref th]) F M (c_X9_contactsWithWhy g_v11) mf_X9_contactsWithWhy tN_972 k_a15 rfl ⟨by decide, by decide⟩ ⟨rfl, rfl⟩ ⟨Nat.zero_le _, Nat.zero_le _⟩ hl.1 (by rw [e_a15]; rfl) (by simp [cat_rf, cat_i, cat_j, cat_r]) dX11_rate_46 (fun H locs M => ?_)
      refine lv_i2l hx hb dX11_rate_49 rfl ?_
      refine lv_lmul hx hb dX11_rate_50 ?_
      refine lv_lload_n hx hb dX11_rate_51 rfl (lv_at hl 0 rfl) ?_
      by_cases z12 : v7 = 0
      · rw [if_pos z12] at hs; cases hs
      rw [if_neg z12] at hs
      refine lv_ldiv hx hb dX11_rate_52 z12 ?_
      obtain ⟨v13, g_v13, hs⟩ := bd hs
      obtain ⟨a14, e_a14, k_a14, g_v13⟩ := cV_some g_v13
      obtain rfl := Option.some.inj e_a14
      refine ca_Vl (bq := th) (As := [.long ((3600 * v11.toInt64) / v7)]) (rest := []) F M (c_X11_answered g_v13) mf_X11_answered t_665 k_a14 rfl ⟨by decide, by decide⟩ ⟨rfl, rfl⟩ ⟨Nat.zero_le _, Nat.zero_le _⟩ hl.1 rfl (by decide) dX11_rate_53 (fun H locs M => ?_)
      obtain rfl := Option.some.inj hs
      exact re_l F M dX11_rate_56
    · rw [if_pos c8] at hs
      refine lv_aload_n hx hb dX11_rate_34 rfl (lv_at hl 2 rfl) ?_
      refine lv_iconst (v := 5) hx hb dX11_rate_35 (by decide) ?_
      obtain ⟨v9, g_v9, hs⟩ := bd hs
      obtain ⟨a10, e_a10, k_a10, g_v9⟩ := cV_some g_v9
      obtain rfl := Option.some.inj e_a10
      refine ca_Vl (bq := th) (As := [.int 5]) (rest := []) F M (c_X11_refused g_v9) mf_X11_refused t_685 k_a10 rfl ⟨by decide, by decide⟩ ⟨rfl, rfl⟩ ⟨Nat.zero_le _, Nat.zero_le _⟩ hl.1 rfl (by decide) dX11_rate_36 (fun H locs M => ?_)
      obtain rfl := Option.some.inj hs
      exact re_l F M dX11_rate_39
  · rw [if_pos c4] at hs
    refine lv_aload_n hx hb dX11_rate_17 rfl (lv_at hl 1 rfl) ?_
    refine lv_lconst (v := 0) hx hb dX11_rate_18 (by decide) ?_
    obtain ⟨v5, g_v5, hs⟩ := bd hs
    obtain ⟨a6, e_a6, k_a6, g_v5⟩ := cV_some g_v5
    obtain rfl := Option.some.inj e_a6
    refine ca_Vl (bq := th) (As := [.long 0]) (rest := []) F M (c_X11_answered g_v5) mf_X11_answered t_665 k_a6 rfl ⟨by decide, by decide⟩ ⟨rfl, rfl⟩ ⟨Nat.zero_le _, Nat.zero_le _⟩ hl.1 rfl (by decide) dX11_rate_19 (fun H locs M => ?_)
    obtain rfl := Option.some.inj hs
    exact re_l F M dX11_rate_22
abbrev rm_X9_isRanked : Room := { frames := 0, cells := 0, slots := 0, locals := 0 }
theorem mf_X9_isRanked : MV 9 yX9_isRanked cX9_isRanked 1 (some .boolean) 0 RX9 := ⟨t_980, t_979, tS_75, t_13, ⟨by decide +kernel, by decide +kernel, by decide +kernel⟩, rfl, by decide⟩
def s_X9_isRanked (h : IH) (th : Nat) : Option (Int32) := (gI h 9 0 (some th)).bind fun v1 => ((if v1 = 4 then some 0 else (gI h 9 0 (some th)).bind fun v3 => if v3 = 3 then some 0 else some 1) : Option (Int32)).bind fun q5 => if q5 = 0 ∨ q5 = 1 then some q5 else none
set_option maxHeartbeats 4000000 in
set_option maxRecDepth 100000 in
theorem c_X9_isRanked {l : Launch} {D : va_G} {cy : Nat → ClassId} {sz : Nat} {h : IH} {th : Nat} {qF : Int32} (hs : s_X9_isRanked h th = some qF) : Ct l D cy yX9_isRanked cX9_isRanked 1 (some .boolean) rm_X9_isRanked h sz [.ref th] h (some (.int qF)) := by
  refine ct_start (by decide +kernel) [(0, .ref th)] (Nat.le_of_ble_eq_true rfl) rfl ?_
  intro p e s m args below meth c A H0 ls F hin hsz M hl
  obtain ⟨hx, hb, hr, hml, hown, hlk, hts, hK, hN, hA, hH⟩ := id F
  generalize s.heap = H at M ⊢
  generalize ([] : List Loc) = locs at M ⊢
  unfold s_X9_isRanked at hs
  refine lv_aload_n hx hb dX9_isRanked_0 rfl (lv_at hl 0 rfl) ?_
  obtain ⟨v1, g_v1, hs⟩ := bd hs
  refine ro_gI F M fg_9_0 t_420 g_v1 dX9_isRanked_1 ?_
  refine lv_iconst (v := 4) hx hb dX9_isRanked_4 (by decide) ?_
  obtain ⟨q5, hsq5, hs⟩ := bd hs
  have KJ21 : ∀ (ls : Array Slot) (H : Heap) (locs : List Loc), lv_has ls 1 [] → Mo D cy A H0 h H locs → W p l e rm_X9_isRanked s m args below meth c H locs 0 0 (MQ below (QR D cy h A (some (.int qF))) args s 0 0 A) (F0 m 21 ls [.int q5]) := by
    intro ls H locs hl M
    by_cases zg : q5 = 0 ∨ q5 = 1
    · rw [if_pos zg] at hs
      obtain rfl := Option.some.inj hs
      exact re_z F M zg dX9_isRanked_21
    · rw [if_neg zg] at hs; cases hs
  clear hs
  have hs := hsq5
  refine lv_icmp_eq (tgt := 20) hx hb dX9_isRanked_5 (by decide) (fun c2 => ?_) (fun c2 => ?_)
  · rw [if_pos c2] at hs
    refine lv_iconst (v := 0) hx hb dX9_isRanked_20 (by decide) ?_
    obtain rfl := Option.some.inj hs
    exact KJ21 _ _ _ (lv_sub hl [] rfl) M
  · rw [if_neg c2] at hs
    refine lv_aload_n hx hb dX9_isRanked_8 rfl (lv_at hl 0 rfl) ?_
    obtain ⟨v3, g_v3, hs⟩ := bd hs
    refine ro_gI F M fg_9_0 t_420 g_v3 dX9_isRanked_9 ?_
    refine lv_iconst (v := 3) hx hb dX9_isRanked_12 (by decide) ?_
    refine lv_icmp_eq (tgt := 20) hx hb dX9_isRanked_13 (by decide) (fun c4 => ?_) (fun c4 => ?_)
    · rw [if_pos c4] at hs
      refine lv_iconst (v := 0) hx hb dX9_isRanked_20 (by decide) ?_
      obtain rfl := Option.some.inj hs
      exact KJ21 _ _ _ (lv_sub hl [] rfl) M
    · rw [if_neg c4] at hs
      refine lv_iconst (v := 1) hx hb dX9_isRanked_16 (by decide) ?_
      refine lv_goto (tgt := 21) hx hb dX9_isRanked_17 (by decide) ?_
      obtain rfl := Option.some.inj hs
      exact KJ21 _ _ _ (lv_sub hl [] rfl) M
abbrev rm_X11_orZero : Room := { frames := 0, cells := 0, slots := 0, locals := 0 }
theorem mf_X11_orZero : MS yX11_orZero cX11_orZero 2 (some .int) 1 := ⟨t_983, t_982, t_1, ⟨by decide +kernel, by decide +kernel, by decide +kernel⟩⟩
def s_X11_orZero (h : IH) (a0 : Int64) : Option (Int32) := ((if (lg_cmp a0 1099511627776) = 0 then some 0 else some a0.toInt32) : Option (Int32)).bind fun q2 => some q2
set_option maxHeartbeats 4000000 in
set_option maxRecDepth 100000 in
theorem c_X11_orZero {l : Launch} {D : va_G} {cy : Nat → ClassId} {sz : Nat} {h : IH} {a0 : Int64} {qF : Int32} (hs : s_X11_orZero h a0 = some qF) : Ct l D cy yX11_orZero cX11_orZero 2 (some .int) rm_X11_orZero h sz [.long a0] h (some (.int qF)) := by
  refine ct_start (by decide +kernel) [(0, .long a0)] (Nat.le_of_ble_eq_true rfl) rfl ?_
  intro p e s m args below meth c A H0 ls F hin hsz M hl
  obtain ⟨hx, hb, hr, hml, hown, hlk, hts, hK, hN, hA, hH⟩ := id F
  generalize s.heap = H at M ⊢
  generalize ([] : List Loc) = locs at M ⊢
  unfold s_X11_orZero at hs
  refine lv_lload_n hx hb dX11_orZero_0 rfl (lv_at hl 0 rfl) ?_
  refine lv_ldc2 (v := 1099511627776) hx hb hown (hts _ (List.mem_cons_of_mem _ t_922)) dX11_orZero_1 ?_
  refine W.lcmp hx hb dX11_orZero_4 ?_
  obtain ⟨q2, hsq2, hs⟩ := bd hs
  have KJ14 : ∀ (ls : Array Slot) (H : Heap) (locs : List Loc), lv_has ls 2 [] → Mo D cy A H0 h H locs → W p l e rm_X11_orZero s m args below meth c H locs 0 0 (MQ below (QR D cy h A (some (.int qF))) args s 0 0 A) (F0 m 14 ls [.int q2]) := by
    intro ls H locs hl M
    obtain rfl := Option.some.inj hs
    exact re_i F M dX11_orZero_14
  clear hs
  have hs := hsq2
  refine lv_if_ne (tgt := 12) hx hb dX11_orZero_5 (by decide) (fun c1 => ?_) (fun c1 => ?_)
  · rw [if_neg c1] at hs
    refine lv_lload_n hx hb dX11_orZero_12 rfl (lv_at hl 0 rfl) ?_
    refine lv_l2i hx hb dX11_orZero_13 rfl ?_
    obtain rfl := Option.some.inj hs
    exact KJ14 _ _ _ (lv_sub hl [] rfl) M
  · rw [if_pos c1] at hs
    refine lv_iconst (v := 0) hx hb dX11_orZero_8 (by decide) ?_
    refine lv_goto (tgt := 14) hx hb dX11_orZero_9 (by decide) ?_
    obtain rfl := Option.some.inj hs
    exact KJ14 _ _ _ (lv_sub hl [] rfl) M
