abbrev rm_X10_hasRoomFor : Room := { frames := 0, cells := 0, slots := 0, locals := 0 }
theorem mf_X10_hasRoomFor : MV 10 yX10_hasRoomFor cX10_hasRoomFor 2 (some .boolean) 1 RX10 := ⟨t_380, t_379, tS_0, t_2, ⟨by decide +kernel, by decide +kernel, by decide +kernel⟩, rfl, by decide⟩
def s_X10_hasRoomFor (h : IH) (th : Nat) (a0 : Int32) : Option (Int32) := (gI h 10 1 (some th)).bind fun v1 => ((if (1000 - v1) < a0 then some 0 else some 1) : Option (Int32)).bind fun q3 => if q3 = 0 ∨ q3 = 1 then some q3 else none
set_option maxHeartbeats 4000000 in
set_option maxRecDepth 100000 in
theorem c_X10_hasRoomFor {l : Launch} {D : va_G} {cy : Nat → ClassId} {sz : Nat} {h : IH} {th : Nat} {a0 : Int32} {qF : Int32} (hs : s_X10_hasRoomFor h th a0 = some qF) : Ct l D cy yX10_hasRoomFor cX10_hasRoomFor 2 (some .boolean) rm_X10_hasRoomFor h sz [.ref th, .int a0] h (some (.int qF)) := by
  refine ct_start (by decide +kernel) [(0, .ref th), (1, .int a0)] (Nat.le_of_ble_eq_true rfl) rfl ?_
  intro p e s m args below meth c A H0 ls F hin hsz M hl
  obtain ⟨hx, hb, hr, hml, hown, hlk, hts, hK, hN, hA, hH⟩ := id F
  generalize s.heap = H at M ⊢
  generalize ([] : List Loc) = locs at M ⊢
  unfold s_X10_hasRoomFor at hs
  refine lv_iload_n hx hb dX10_hasRoomFor_0 rfl (lv_at hl 1 rfl) ?_
  refine lv_sipush (v := 1000) hx hb dX10_hasRoomFor_1 (by decide) ?_
  refine lv_aload_n hx hb dX10_hasRoomFor_4 rfl (lv_at hl 0 rfl) ?_
  obtain ⟨v1, g_v1, hs⟩ := bd hs
  refine ro_gI F M fg_10_1 t_37 g_v1 dX10_hasRoomFor_5 ?_
  refine lv_isub hx hb dX10_hasRoomFor_8 ?_
  obtain ⟨q3, hsq3, hs⟩ := bd hs
  have KJ17 : ∀ (ls : Array Slot) (H : Heap) (locs : List Loc), lv_has ls 2 [] → Mo D cy A H0 h H locs → W p l e rm_X10_hasRoomFor s m args below meth c H locs 0 0 (MQ below (QR D cy h A (some (.int qF))) args s 0 0 A) (F0 m 17 ls [.int q3]) := by
    intro ls H locs hl M
    by_cases zg : q3 = 0 ∨ q3 = 1
    · rw [if_pos zg] at hs
      obtain rfl := Option.some.inj hs
      exact re_z F M zg dX10_hasRoomFor_17
    · rw [if_neg zg] at hs; cases hs
  clear hs
  have hs := hsq3
  refine lv_icmp_gt (tgt := 16) hx hb dX10_hasRoomFor_9 (by decide) (fun c2 => ?_) (fun c2 => ?_)
  · rw [if_pos c2] at hs
    refine lv_iconst (v := 0) hx hb dX10_hasRoomFor_16 (by decide) ?_
    obtain rfl := Option.some.inj hs
    exact KJ17 _ _ _ (lv_sub hl [] rfl) M
  · rw [if_neg c2] at hs
    refine lv_iconst (v := 1) hx hb dX10_hasRoomFor_12 (by decide) ?_
    refine lv_goto (tgt := 17) hx hb dX10_hasRoomFor_13 (by decide) ?_
    obtain rfl := Option.some.inj hs
    exact KJ17 _ _ _ (lv_sub hl [] rfl) M
abbrev rm_X10_add : Room := { frames := 0, cells := 0, slots := 0, locals := 0 }
theorem mf_X10_add : MV 10 yX10_add cX10_add 3 none 1 RX10 := ⟨t_384, t_383, tS_1, t_2, ⟨by decide +kernel, by decide +kernel, by decide +kernel⟩, rfl, by decide⟩
def s_X10_add_L3 (N : Nat) : Nat → Nat → Int32 → Int32 → IH → Option (IH)
  | 0, _, _, _, _ => none
  | n + 1, th, x1, x2, h => if x2 < 0 then some h else (gI h 10 1 (some th)).bind fun v2 => if 1000 ≤ v2 then some h else (gR h 10 0 (some th)).bind fun v4 => (gI h 10 1 (some th)).bind fun v5 => (sI h v4 v5 (((x1.toUInt32 >>> (x2.toUInt32 &&& Int32.toUInt32 31)).toInt32) &&& 255)).bind fun h6 => (gI h6 10 1 (some th)).bind fun v7 => (pI h6 10 1 (some th) (v7 + 1)).bind fun h8 => s_X10_add_L3 N n th x1 (x2 + (-8)) h8
def s_X10_add (N : Nat) (h : IH) (th : Nat) (a0 : Int32) : Option (IH) := (s_X10_add_L3 N N th a0 24 h).bind fun q9 => some q9
set_option maxHeartbeats 4000000 in
set_option maxRecDepth 100000 in
theorem w_X10_add_L3 {p : Program} {l : Launch} {e : Env} {s : State} {m : MethodId} {args : Array Value} {below : List Frame} {meth : Method} {c : Code} {D : va_G} {cy : Nat → ClassId} {A : Nat → Prop} {H0 : Heap} {N th : Nat} {x1 : Int32} {qF : IH} (F : Fx p s m args meth c D cy A H0 yX10_add cX10_add 3 none) : ∀ (n : Nat) (x2 : Int32) (h : IH) (ls : Array Slot) (H : Heap) (locs : List Loc) (q : IH), s_X10_add_L3 N n th x1 x2 h = some q → lv_has ls 3 [(0, .ref th), (1, .int x1), (2, .int x2)] → Mo D cy A H0 h H locs → (∀ (t : IH) (ls : Array Slot) (H : Heap) (locs : List Loc), q = t → lv_has ls 3 [] → Mo D cy A H0 t H locs → W p l e rm_X10_add s m args below meth c H locs 0 0 (MQ below (QR D cy qF A none) args s 0 0 A) (F0 m 49 ls [])) → (∀ v : IH, False → v = qF) → W p l e rm_X10_add s m args below meth c H locs 0 0 (MQ below (QR D cy qF A none) args s 0 0 A) (F0 m 3 ls []) := by
  intro n
  induction n with
  | zero => intro x2 h ls H locs q hs; rw [s_X10_add_L3.eq_1] at hs; cases hs
  | succ n ih =>
    intro x2 h ls H locs q hs hl M kx kr
    obtain ⟨hx, hb, hr, hml, hown, hlk, hts, hK, hN, hA, hH⟩ := id F
    rw [s_X10_add_L3.eq_2] at hs
    refine lv_iload_n hx hb dX10_add_3 rfl (lv_at hl 2 rfl) ?_
    refine lv_if_lt (tgt := 49) hx hb dX10_add_4 (by decide) (fun c1 => ?_) (fun c1 => ?_)
    · rw [if_pos c1] at hs
      exact kx h _ _ _ (Option.some.inj hs).symm (lv_sub hl [] rfl) M
    · rw [if_neg c1] at hs
      refine lv_aload_n hx hb dX10_add_7 rfl (lv_at hl 0 rfl) ?_
      obtain ⟨v2, g_v2, hs⟩ := bd hs
      refine ro_gI F M fg_10_1 t_37 g_v2 dX10_add_8 ?_
      refine lv_sipush (v := 1000) hx hb dX10_add_11 (by decide) ?_
      refine lv_icmp_ge (tgt := 49) hx hb dX10_add_14 (by decide) (fun c3 => ?_) (fun c3 => ?_)
      · rw [if_pos c3] at hs
        exact kx h _ _ _ (Option.some.inj hs).symm (lv_sub hl [] rfl) M
      · rw [if_neg c3] at hs
        refine lv_aload_n hx hb dX10_add_17 rfl (lv_at hl 0 rfl) ?_
        obtain ⟨v4, g_v4, hs⟩ := bd hs
        refine ro_gR F M fg_10_0 t_35 g_v4 dX10_add_18 ?_
        refine lv_aload_n hx hb dX10_add_21 rfl (lv_at hl 0 rfl) ?_
        obtain ⟨v5, g_v5, hs⟩ := bd hs
        refine ro_gI F M fg_10_1 t_37 g_v5 dX10_add_22 ?_
        refine lv_iload_n hx hb dX10_add_25 rfl (lv_at hl 1 rfl) ?_
        refine lv_iload_n hx hb dX10_add_26 rfl (lv_at hl 2 rfl) ?_
        refine lv_iushr hx hb dX10_add_27 rfl ?_
        refine lv_sipush (v := 255) hx hb dX10_add_28 (by decide) ?_
        refine lv_iand hx hb dX10_add_31 ?_
        obtain ⟨h6, g_h6, hs⟩ := bd hs
        refine ro_sI F M g_h6 dX10_add_32 (fun H locs M => ?_)
        refine lv_aload_n hx hb dX10_add_33 rfl (lv_at hl 0 rfl) ?_
        refine lv_dup hx hb dX10_add_34 rfl ?_
        obtain ⟨v7, g_v7, hs⟩ := bd hs
        refine ro_gI F M fg_10_1 t_37 g_v7 dX10_add_35 ?_
        refine lv_iconst (v := 1) hx hb dX10_add_38 (by decide) ?_
        refine lv_iadd hx hb dX10_add_39 ?_
        obtain ⟨h8, g_h8, hs⟩ := bd hs
        refine ro_pI F M fg_10_1 fp_10_1 rfl t_37 g_h8 dX10_add_40 (fun H locs M => ?_)
        refine lv_iinc (v := x2 + (-8)) (lv' := [(2, .int (x2 + (-8))), (0, .ref th), (1, .int x1)]) hx hb dX10_add_43 hl (k := 2) rfl rfl (by decide) rfl (fun ls hl => ?_)
        refine lv_goto (tgt := 3) hx hb dX10_add_46 (by decide) ?_
        exact ih (x2 + (-8)) h8 _ _ _ _ hs (lv_sub hl [1, 2, 0] rfl) M kx kr
set_option maxHeartbeats 4000000 in
set_option maxRecDepth 100000 in
theorem c_X10_add {l : Launch} {D : va_G} {cy : Nat → ClassId} {sz N : Nat} {h : IH} {th : Nat} {a0 : Int32} {qF : IH} (hs : s_X10_add N h th a0 = some qF) : Ct l D cy yX10_add cX10_add 3 none rm_X10_add h sz [.ref th, .int a0] qF none := by
  refine ct_start (by decide +kernel) [(0, .ref th), (1, .int a0)] (Nat.le_of_ble_eq_true rfl) rfl ?_
  intro p e s m args below meth c A H0 ls F hin hsz M hl
  obtain ⟨hx, hb, hr, hml, hown, hlk, hts, hK, hN, hA, hH⟩ := id F
  generalize s.heap = H at M ⊢
  generalize ([] : List Loc) = locs at M ⊢
  unfold s_X10_add at hs
  refine lv_bipush (v := 24) hx hb dX10_add_0 (by decide) ?_
  refine lv_istore_n (i := 2) (lv' := [(2, .int 24), (0, .ref th), (1, .int a0)]) hx hb dX10_add_2 rfl hl (by decide) rfl (fun ls hl => ?_)
  obtain ⟨q9, g_q9, hs⟩ := bd hs
  refine w_X10_add_L3 F N 24 h _ _ _ q9 g_q9 (lv_sub hl [1, 2, 0] rfl) M (fun t_ ls H locs eq_ hl M => ?_) (fun v eq_ => eq_.elim)
  subst eq_
  obtain rfl := Option.some.inj hs
  exact re_v F M dX10_add_49
abbrev rm_X11_feed : Room := { frames := 1, cells := 0, slots := 0, locals := 22 }
theorem mf_X11_feed : MV 11 yX11_feed cX11_feed 6 (some .int) 5 RX11 := ⟨t_376, t_374, t_375, t_1, ⟨by decide +kernel, by decide +kernel, by decide +kernel⟩, rfl, by decide⟩
def s_X11_feed (N : Nat) (h : IH) (th : Nat) (a0 : Int32) (a1 : Int32) (a2 : Int32) (a3 : Int32) (a4 : Int32) : Option (Int32 × IH) := (gR h 11 0 (some th)).bind fun v1 => (cV h 10 v1 fun a21 => s_X10_hasRoomFor h a21 20).bind fun v2 => if v2 = 0 then some ((-1), h) else (gR h 11 0 (some th)).bind fun v4 => (cV h 10 v4 fun a20 => s_X10_add N h a20 a0).bind fun v5 => (gR v5 11 0 (some th)).bind fun v6 => (cV v5 10 v6 fun a19 => s_X10_add N v5 a19 a1).bind fun v7 => (gR v7 11 0 (some th)).bind fun v8 => (cV v7 10 v8 fun a18 => s_X10_add N v7 a18 a2).bind fun v9 => (gR v9 11 0 (some th)).bind fun v10 => (cV v9 10 v10 fun a17 => s_X10_add N v9 a17 a3).bind fun v11 => (gR v11 11 0 (some th)).bind fun v12 => (cV v11 10 v12 fun a16 => s_X10_add N v11 a16 a4).bind fun v13 => (gR v13 11 0 (some th)).bind fun v14 => (gI v13 10 1 v14).bind fun v15 => some (v15, v13)
set_option maxHeartbeats 4000000 in
set_option maxRecDepth 100000 in
theorem c_X11_feed {l : Launch} {D : va_G} {cy : Nat → ClassId} {sz N : Nat} {h : IH} {th : Nat} {a0 : Int32} {a1 : Int32} {a2 : Int32} {a3 : Int32} {a4 : Int32} {qF : Int32 × IH} (hs : s_X11_feed N h th a0 a1 a2 a3 a4 = some qF) : Ct l D cy yX11_feed cX11_feed 6 (some .int) rm_X11_feed h sz [.ref th, .int a0, .int a1, .int a2, .int a3, .int a4] qF.2 (some (.int qF.1)) := by
  refine ct_start (by decide +kernel) [(0, .ref th), (1, .int a0), (2, .int a1), (3, .int a2), (4, .int a3), (5, .int a4)] (Nat.le_of_ble_eq_true rfl) rfl ?_
  intro p e s m args below meth c A H0 ls F hin hsz M hl
  obtain ⟨hx, hb, hr, hml, hown, hlk, hts, hK, hN, hA, hH⟩ := id F
  generalize s.heap = H at M ⊢
  generalize ([] : List Loc) = locs at M ⊢
  unfold s_X11_feed at hs
  refine lv_aload_n hx hb dX11_feed_0 rfl (lv_at hl 0 rfl) ?_
  obtain ⟨v1, g_v1, hs⟩ := bd hs
  refine ro_gR F M fg_11_0 t_330 g_v1 dX11_feed_1 ?_
  refine lv_bipush (v := 20) hx hb dX11_feed_4 (by decide) ?_
  obtain ⟨v2, g_v2, hs⟩ := bd hs
  obtain ⟨a21, e_a21, k_a21, g_v2⟩ := cV_some g_v2
  refine ca_VNi (bq := a21) (As := [.int 20]) (rest := []) F M (c_X10_hasRoomFor g_v2) mf_X10_hasRoomFor tN_377 k_a21 rfl ⟨by decide, by decide⟩ ⟨rfl, rfl⟩ ⟨Nat.zero_le _, Nat.zero_le _⟩ hl.1 (by rw [e_a21]; rfl) (by decide) dX11_feed_6 (fun H locs M => ?_)
  refine lv_if_ne (tgt := 14) hx hb dX11_feed_9 (by decide) (fun c3 => ?_) (fun c3 => ?_)
  · rw [if_neg c3] at hs
    refine lv_aload_n hx hb dX11_feed_14 rfl (lv_at hl 0 rfl) ?_
    obtain ⟨v4, g_v4, hs⟩ := bd hs
    refine ro_gR F M fg_11_0 t_330 g_v4 dX11_feed_15 ?_
    refine lv_iload_n hx hb dX11_feed_18 rfl (lv_at hl 1 rfl) ?_
    obtain ⟨v5, g_v5, hs⟩ := bd hs
    obtain ⟨a20, e_a20, k_a20, g_v5⟩ := cV_some g_v5
    refine ca_VNv (bq := a20) (As := [.int a0]) (rest := []) F M (c_X10_add g_v5) mf_X10_add tN_381 k_a20 rfl ⟨by decide, by decide⟩ ⟨rfl, rfl⟩ ⟨Nat.zero_le _, Nat.zero_le _⟩ hl.1 (by rw [e_a20]; rfl) (by decide) dX11_feed_19 (fun H locs M => ?_)
    refine lv_aload_n hx hb dX11_feed_22 rfl (lv_at hl 0 rfl) ?_
    obtain ⟨v6, g_v6, hs⟩ := bd hs
    refine ro_gR F M fg_11_0 t_330 g_v6 dX11_feed_23 ?_
    refine lv_iload_n hx hb dX11_feed_26 rfl (lv_at hl 2 rfl) ?_
    obtain ⟨v7, g_v7, hs⟩ := bd hs
    obtain ⟨a19, e_a19, k_a19, g_v7⟩ := cV_some g_v7
    refine ca_VNv (bq := a19) (As := [.int a1]) (rest := []) F M (c_X10_add g_v7) mf_X10_add tN_381 k_a19 rfl ⟨by decide, by decide⟩ ⟨rfl, rfl⟩ ⟨Nat.zero_le _, Nat.zero_le _⟩ hl.1 (by rw [e_a19]; rfl) (by decide) dX11_feed_27 (fun H locs M => ?_)
    refine lv_aload_n hx hb dX11_feed_30 rfl (lv_at hl 0 rfl) ?_
    obtain ⟨v8, g_v8, hs⟩ := bd hs
    refine ro_gR F M fg_11_0 t_330 g_v8 dX11_feed_31 ?_
    refine lv_iload_n hx hb dX11_feed_34 rfl (lv_at hl 3 rfl) ?_
    obtain ⟨v9, g_v9, hs⟩ := bd hs
    obtain ⟨a18, e_a18, k_a18, g_v9⟩ := cV_some g_v9
    refine ca_VNv (bq := a18) (As := [.int a2]) (rest := []) F M (c_X10_add g_v9) mf_X10_add tN_381 k_a18 rfl ⟨by decide, by decide⟩ ⟨rfl, rfl⟩ ⟨Nat.zero_le _, Nat.zero_le _⟩ hl.1 (by rw [e_a18]; rfl) (by decide) dX11_feed_35 (fun H locs M => ?_)
    refine lv_aload_n hx hb dX11_feed_38 rfl (lv_at hl 0 rfl) ?_
    obtain ⟨v10, g_v10, hs⟩ := bd hs
    refine ro_gR F M fg_11_0 t_330 g_v10 dX11_feed_39 ?_
    refine lv_iload hx hb dX11_feed_42 (lv_at hl 4 rfl) ?_
    obtain ⟨v11, g_v11, hs⟩ := bd hs
    obtain ⟨a17, e_a17, k_a17, g_v11⟩ := cV_some g_v11
    refine ca_VNv (bq := a17) (As := [.int a3]) (rest := []) F M (c_X10_add g_v11) mf_X10_add tN_381 k_a17 rfl ⟨by decide, by decide⟩ ⟨rfl, rfl⟩ ⟨Nat.zero_le _, Nat.zero_le _⟩ hl.1 (by rw [e_a17]; rfl) (by decide) dX11_feed_44 (fun H locs M => ?_)
    refine lv_aload_n hx hb dX11_feed_47 rfl (lv_at hl 0 rfl) ?_
    obtain ⟨v12, g_v12, hs⟩ := bd hs
    refine ro_gR F M fg_11_0 t_330 g_v12 dX11_feed_48 ?_
    refine lv_iload hx hb dX11_feed_51 (lv_at hl 5 rfl) ?_
    obtain ⟨v13, g_v13, hs⟩ := bd hs
    obtain ⟨a16, e_a16, k_a16, g_v13⟩ := cV_some g_v13
    refine ca_VNv (bq := a16) (As := [.int a4]) (rest := []) F M (c_X10_add g_v13) mf_X10_add tN_381 k_a16 rfl ⟨by decide, by decide⟩ ⟨rfl, rfl⟩ ⟨Nat.zero_le _, Nat.zero_le _⟩ hl.1 (by rw [e_a16]; rfl) (by decide) dX11_feed_53 (fun H locs M => ?_)
    refine lv_aload_n hx hb dX11_feed_56 rfl (lv_at hl 0 rfl) ?_
    obtain ⟨v14, g_v14, hs⟩ := bd hs
    refine ro_gR F M fg_11_0 t_330 g_v14 dX11_feed_57 ?_
    obtain ⟨v15, g_v15, hs⟩ := bd hs
    refine ro_gIN F M fg_10_1 tN_39 g_v15 dX11_feed_60 ?_
    obtain rfl := Option.some.inj hs
    exact re_i F M dX11_feed_63
  · rw [if_pos c3] at hs
    refine lv_iconst (v := (-1)) hx hb dX11_feed_12 (by decide) ?_
    obtain rfl := Option.some.inj hs
    exact re_i F M dX11_feed_13
abbrev rm_X11_end : Room := { frames := 0, cells := 0, slots := 0, locals := 0 }
theorem mf_X11_end : MV 11 yX11_end cX11_end 2 (some .int) 1 RX11 := ⟨t_388, t_386, t_387, t_1, ⟨by decide +kernel, by decide +kernel, by decide +kernel⟩, rfl, by decide⟩
def s_X11_end (h : IH) (th : Nat) (a0 : Int32) : Option (Int32 × IH) := if a0 < 0 then some ((-1), h) else (gR h 11 0 (some th)).bind fun v2 => (gI h 10 1 v2).bind fun v3 => if a0 ≤ v3 then (gR h 11 0 (some th)).bind fun v5 => (pI h 10 1 v5 a0).bind fun h6 => some (a0, h6) else some ((-1), h)
set_option maxHeartbeats 4000000 in
set_option maxRecDepth 100000 in
theorem c_X11_end {l : Launch} {D : va_G} {cy : Nat → ClassId} {sz : Nat} {h : IH} {th : Nat} {a0 : Int32} {qF : Int32 × IH} (hs : s_X11_end h th a0 = some qF) : Ct l D cy yX11_end cX11_end 2 (some .int) rm_X11_end h sz [.ref th, .int a0] qF.2 (some (.int qF.1)) := by
  refine ct_start (by decide +kernel) [(0, .ref th), (1, .int a0)] (Nat.le_of_ble_eq_true rfl) rfl ?_
  intro p e s m args below meth c A H0 ls F hin hsz M hl
  obtain ⟨hx, hb, hr, hml, hown, hlk, hts, hK, hN, hA, hH⟩ := id F
  generalize s.heap = H at M ⊢
  generalize ([] : List Loc) = locs at M ⊢
  unfold s_X11_end at hs
  refine lv_iload_n hx hb dX11_end_0 rfl (lv_at hl 1 rfl) ?_
  refine lv_if_lt (tgt := 15) hx hb dX11_end_1 (by decide) (fun c1 => ?_) (fun c1 => ?_)
  · rw [if_pos c1] at hs
    refine lv_iconst (v := (-1)) hx hb dX11_end_15 (by decide) ?_
    obtain rfl := Option.some.inj hs
    exact re_i F M dX11_end_16
  · rw [if_neg c1] at hs
    refine lv_iload_n hx hb dX11_end_4 rfl (lv_at hl 1 rfl) ?_
    refine lv_aload_n hx hb dX11_end_5 rfl (lv_at hl 0 rfl) ?_
    obtain ⟨v2, g_v2, hs⟩ := bd hs
    refine ro_gR F M fg_11_0 t_330 g_v2 dX11_end_6 ?_
    obtain ⟨v3, g_v3, hs⟩ := bd hs
    refine ro_gIN F M fg_10_1 tN_39 g_v3 dX11_end_9 ?_
    refine lv_icmp_le (tgt := 17) hx hb dX11_end_12 (by decide) (fun c4 => ?_) (fun c4 => ?_)
    · rw [if_pos c4] at hs
      refine lv_aload_n hx hb dX11_end_17 rfl (lv_at hl 0 rfl) ?_
      obtain ⟨v5, g_v5, hs⟩ := bd hs
      refine ro_gR F M fg_11_0 t_330 g_v5 dX11_end_18 ?_
      refine lv_iload_n hx hb dX11_end_21 rfl (lv_at hl 1 rfl) ?_
      obtain ⟨h6, g_h6, hs⟩ := bd hs
      refine ro_pIN F M fg_10_1 fp_10_1 rfl tN_39 g_h6 dX11_end_22 (fun H locs M => ?_)
      refine lv_iload_n hx hb dX11_end_25 rfl (lv_at hl 1 rfl) ?_
      obtain rfl := Option.some.inj hs
      exact re_i F M dX11_end_26
    · rw [if_neg c4] at hs
      refine lv_iconst (v := (-1)) hx hb dX11_end_15 (by decide) ?_
      obtain rfl := Option.some.inj hs
      exact re_i F M dX11_end_16
abbrev rm_X10_byteAt : Room := { frames := 0, cells := 0, slots := 0, locals := 0 }
theorem mf_X10_byteAt : MV 10 yX10_byteAt cX10_byteAt 2 (some .int) 1 RX10 := ⟨t_400, t_399, tS_3, t_2, ⟨by decide +kernel, by decide +kernel, by decide +kernel⟩, rfl, by decide⟩
def s_X10_byteAt (h : IH) (th : Nat) (a0 : Int32) : Option (Int32) := ((if a0 < 0 then some (-1) else (gI h 10 1 (some th)).bind fun v2 => if v2 ≤ a0 then some (-1) else (gR h 10 0 (some th)).bind fun v4 => (aI h v4 a0).bind fun v5 => some v5) : Option (Int32)).bind fun q6 => some q6
set_option maxHeartbeats 4000000 in
set_option maxRecDepth 100000 in
theorem c_X10_byteAt {l : Launch} {D : va_G} {cy : Nat → ClassId} {sz : Nat} {h : IH} {th : Nat} {a0 : Int32} {qF : Int32} (hs : s_X10_byteAt h th a0 = some qF) : Ct l D cy yX10_byteAt cX10_byteAt 2 (some .int) rm_X10_byteAt h sz [.ref th, .int a0] h (some (.int qF)) := by
  refine ct_start (by decide +kernel) [(0, .ref th), (1, .int a0)] (Nat.le_of_ble_eq_true rfl) rfl ?_
  intro p e s m args below meth c A H0 ls F hin hsz M hl
  obtain ⟨hx, hb, hr, hml, hown, hlk, hts, hK, hN, hA, hH⟩ := id F
  generalize s.heap = H at M ⊢
  generalize ([] : List Loc) = locs at M ⊢
  unfold s_X10_byteAt at hs
  refine lv_iload_n hx hb dX10_byteAt_0 rfl (lv_at hl 1 rfl) ?_
  obtain ⟨q6, hsq6, hs⟩ := bd hs
  have KJ22 : ∀ (ls : Array Slot) (H : Heap) (locs : List Loc), lv_has ls 2 [] → Mo D cy A H0 h H locs → W p l e rm_X10_byteAt s m args below meth c H locs 0 0 (MQ below (QR D cy h A (some (.int qF))) args s 0 0 A) (F0 m 22 ls [.int q6]) := by
    intro ls H locs hl M
    obtain rfl := Option.some.inj hs
    exact re_i F M dX10_byteAt_22
  clear hs
  have hs := hsq6
  refine lv_if_lt (tgt := 21) hx hb dX10_byteAt_1 (by decide) (fun c1 => ?_) (fun c1 => ?_)
  · rw [if_pos c1] at hs
    refine lv_iconst (v := (-1)) hx hb dX10_byteAt_21 (by decide) ?_
    obtain rfl := Option.some.inj hs
    exact KJ22 _ _ _ (lv_sub hl [] rfl) M
  · rw [if_neg c1] at hs
    refine lv_iload_n hx hb dX10_byteAt_4 rfl (lv_at hl 1 rfl) ?_
    refine lv_aload_n hx hb dX10_byteAt_5 rfl (lv_at hl 0 rfl) ?_
    obtain ⟨v2, g_v2, hs⟩ := bd hs
    refine ro_gI F M fg_10_1 t_37 g_v2 dX10_byteAt_6 ?_
    refine lv_icmp_ge (tgt := 21) hx hb dX10_byteAt_9 (by decide) (fun c3 => ?_) (fun c3 => ?_)
    · rw [if_pos c3] at hs
      refine lv_iconst (v := (-1)) hx hb dX10_byteAt_21 (by decide) ?_
      obtain rfl := Option.some.inj hs
      exact KJ22 _ _ _ (lv_sub hl [] rfl) M
    · rw [if_neg c3] at hs
      refine lv_aload_n hx hb dX10_byteAt_12 rfl (lv_at hl 0 rfl) ?_
      obtain ⟨v4, g_v4, hs⟩ := bd hs
      refine ro_gR F M fg_10_0 t_35 g_v4 dX10_byteAt_13 ?_
      refine lv_iload_n hx hb dX10_byteAt_16 rfl (lv_at hl 1 rfl) ?_
      obtain ⟨v5, g_v5, hs⟩ := bd hs
      refine ro_aI F M g_v5 dX10_byteAt_17 ?_
      refine lv_goto (tgt := 22) hx hb dX10_byteAt_18 (by decide) ?_
      obtain rfl := Option.some.inj hs
      exact KJ22 _ _ _ (lv_sub hl [] rfl) M
abbrev rm_X10_isDigit : Room := { frames := 0, cells := 0, slots := 0, locals := 0 }
theorem mf_X10_isDigit : MS yX10_isDigit cX10_isDigit 1 (some .boolean) 1 := ⟨t_403, t_402, t_2, ⟨by decide +kernel, by decide +kernel, by decide +kernel⟩⟩
def s_X10_isDigit (h : IH) (a0 : Int32) : Option (Int32) := ((if a0 < 48 then some 0 else if 57 < a0 then some 0 else some 1) : Option (Int32)).bind fun q3 => if q3 = 0 ∨ q3 = 1 then some q3 else none
set_option maxHeartbeats 4000000 in
set_option maxRecDepth 100000 in
theorem c_X10_isDigit {l : Launch} {D : va_G} {cy : Nat → ClassId} {sz : Nat} {h : IH} {a0 : Int32} {qF : Int32} (hs : s_X10_isDigit h a0 = some qF) : Ct l D cy yX10_isDigit cX10_isDigit 1 (some .boolean) rm_X10_isDigit h sz [.int a0] h (some (.int qF)) := by
  refine ct_start (by decide +kernel) [(0, .int a0)] (Nat.le_of_ble_eq_true rfl) rfl ?_
  intro p e s m args below meth c A H0 ls F hin hsz M hl
  obtain ⟨hx, hb, hr, hml, hown, hlk, hts, hK, hN, hA, hH⟩ := id F
  generalize s.heap = H at M ⊢
  generalize ([] : List Loc) = locs at M ⊢
  unfold s_X10_isDigit at hs
  refine lv_iload_n hx hb dX10_isDigit_0 rfl (lv_at hl 0 rfl) ?_
  refine lv_bipush (v := 48) hx hb dX10_isDigit_1 (by decide) ?_
  obtain ⟨q3, hsq3, hs⟩ := bd hs
  have KJ17 : ∀ (ls : Array Slot) (H : Heap) (locs : List Loc), lv_has ls 1 [] → Mo D cy A H0 h H locs → W p l e rm_X10_isDigit s m args below meth c H locs 0 0 (MQ below (QR D cy h A (some (.int qF))) args s 0 0 A) (F0 m 17 ls [.int q3]) := by
    intro ls H locs hl M
    by_cases zg : q3 = 0 ∨ q3 = 1
    · rw [if_pos zg] at hs
      obtain rfl := Option.some.inj hs
      exact re_z F M zg dX10_isDigit_17
    · rw [if_neg zg] at hs; cases hs
  clear hs
  have hs := hsq3
  refine lv_icmp_lt (tgt := 16) hx hb dX10_isDigit_3 (by decide) (fun c1 => ?_) (fun c1 => ?_)
  · rw [if_pos c1] at hs
    refine lv_iconst (v := 0) hx hb dX10_isDigit_16 (by decide) ?_
    obtain rfl := Option.some.inj hs
    exact KJ17 _ _ _ (lv_sub hl [] rfl) M
  · rw [if_neg c1] at hs
    refine lv_iload_n hx hb dX10_isDigit_6 rfl (lv_at hl 0 rfl) ?_
    refine lv_bipush (v := 57) hx hb dX10_isDigit_7 (by decide) ?_
    refine lv_icmp_gt (tgt := 16) hx hb dX10_isDigit_9 (by decide) (fun c2 => ?_) (fun c2 => ?_)
    · rw [if_pos c2] at hs
      refine lv_iconst (v := 0) hx hb dX10_isDigit_16 (by decide) ?_
      obtain rfl := Option.some.inj hs
      exact KJ17 _ _ _ (lv_sub hl [] rfl) M
    · rw [if_neg c2] at hs
      refine lv_iconst (v := 1) hx hb dX10_isDigit_12 (by decide) ?_
      refine lv_goto (tgt := 17) hx hb dX10_isDigit_13 (by decide) ?_
      obtain rfl := Option.some.inj hs
      exact KJ17 _ _ _ (lv_sub hl [] rfl) M
abbrev rm_X10_callBetween : Room := { frames := 1, cells := 0, slots := 0, locals := 21 }
theorem mf_X10_callBetween : MV 10 yX10_callBetween cX10_callBetween 7 (some .long) 2 RX10 := ⟨t_396, t_395, tS_2, t_2, ⟨by decide +kernel, by decide +kernel, by decide +kernel⟩, rfl, by decide⟩
def s_X10_callBetween_L20 (N : Nat) : Nat → Nat → Int32 → Int64 → Int32 → IH → Option ((Int64) ⊕ (Int64))
  | 0, _, _, _, _, _ => none
  | n + 1, th, x2, x3, x5, h => if x2 ≤ x5 then some (.inr x3) else (cV h 10 (some th) fun a9 => s_X10_byteAt h a9 x5).bind fun v4 => (s_X10_isDigit h v4).bind fun v5 => if v5 = 0 then if v4 < 65 then some (.inl 0) else if v4 ≤ 90 then s_X10_callBetween_L20 N n th x2 ((x3 <<< ((8 : Int32).toInt64 &&& 63)) ||| v4.toInt64) (x5 + 1) h else some (.inl 0) else s_X10_callBetween_L20 N n th x2 ((x3 <<< ((8 : Int32).toInt64 &&& 63)) ||| v4.toInt64) (x5 + 1) h
def s_X10_callBetween (N : Nat) (h : IH) (th : Nat) (a0 : Int32) (a1 : Int32) : Option (Int64) := if a1 ≤ a0 then some 0 else if (a1 - a0) ≤ 6 then (s_X10_callBetween_L20 N N th a1 0 a0 h).bind fun q10 => Sum.elim (fun v => some v) (fun t11 => some t11) q10 else some 0
set_option maxHeartbeats 4000000 in
set_option maxRecDepth 100000 in
theorem w_X10_callBetween_L20 {p : Program} {l : Launch} {e : Env} {s : State} {m : MethodId} {args : Array Value} {below : List Frame} {meth : Method} {c : Code} {D : va_G} {cy : Nat → ClassId} {A : Nat → Prop} {H0 : Heap} {N th : Nat} {x2 : Int32} {h : IH} {qF : Int64} (F : Fx p s m args meth c D cy A H0 yX10_callBetween cX10_callBetween 7 (some .long)) : ∀ (n : Nat) (x3 : Int64) (x5 : Int32) (ls : Array Slot) (H : Heap) (locs : List Loc) (q : (Int64) ⊕ (Int64)), s_X10_callBetween_L20 N n th x2 x3 x5 h = some q → lv_has ls 7 [(0, .ref th), (2, .int x2), (3, .long x3), (5, .int x5)] → Mo D cy A H0 h H locs → (∀ (t : Int64) (ls : Array Slot) (H : Heap) (locs : List Loc), q = .inr t → lv_has ls 7 [(3, .long t)] → Mo D cy A H0 h H locs → W p l e rm_X10_callBetween s m args below meth c H locs 0 0 (MQ below (QR D cy h A (some (.long qF))) args s 0 0 A) (F0 m 73 ls [])) → (∀ v, q = .inl v → v = qF) → W p l e rm_X10_callBetween s m args below meth c H locs 0 0 (MQ below (QR D cy h A (some (.long qF))) args s 0 0 A) (F0 m 20 ls []) := by
  intro n
  induction n with
  | zero => intro x3 x5 ls H locs q hs; rw [s_X10_callBetween_L20.eq_1] at hs; cases hs
  | succ n ih =>
    intro x3 x5 ls H locs q hs hl M kx kr
    obtain ⟨hx, hb, hr, hml, hown, hlk, hts, hK, hN, hA, hH⟩ := id F
    rw [s_X10_callBetween_L20.eq_2] at hs
    refine lv_iload hx hb dX10_callBetween_20 (lv_at hl 3 rfl) ?_
    refine lv_iload_n hx hb dX10_callBetween_22 rfl (lv_at hl 1 rfl) ?_
    refine lv_icmp_ge (tgt := 73) hx hb dX10_callBetween_23 (by decide) (fun c3 => ?_) (fun c3 => ?_)
    · rw [if_pos c3] at hs
      exact kx x3 _ _ _ (Option.some.inj hs).symm (lv_sub hl [2] rfl) M
    · rw [if_neg c3] at hs
      refine lv_aload_n hx hb dX10_callBetween_26 rfl (lv_at hl 0 rfl) ?_
      refine lv_iload hx hb dX10_callBetween_27 (lv_at hl 3 rfl) ?_
      obtain ⟨v4, g_v4, hs⟩ := bd hs
      obtain ⟨a9, e_a9, k_a9, g_v4⟩ := cV_some g_v4
      obtain rfl := Option.some.inj e_a9
      refine ca_Vi (bq := th) (As := [.int x5]) (rest := []) F M (c_X10_byteAt g_v4) mf_X10_byteAt t_397 k_a9 rfl ⟨by decide, by decide⟩ ⟨rfl, rfl⟩ ⟨Nat.zero_le _, Nat.zero_le _⟩ hl.1 rfl (by decide) dX10_callBetween_29 (fun H locs M => ?_)
      refine lv_istore (i := 6) (lv' := [(6, .int v4), (0, .ref th), (2, .int x2), (3, .long x3), (5, .int x5)]) hx hb dX10_callBetween_32 hl (by decide) rfl (fun ls hl => ?_)
      refine lv_iload hx hb dX10_callBetween_34 (lv_at hl 0 rfl) ?_
      obtain ⟨v5, g_v5, hs⟩ := bd hs
      refine ca_Si (As := [.int v4]) (rest := []) F M (c_X10_isDigit g_v5) mf_X10_isDigit t_401 rfl ⟨by decide, by decide⟩ ⟨rfl, rfl⟩ ⟨Nat.zero_le _, Nat.zero_le _⟩ hl.1 rfl (by decide) dX10_callBetween_36 (fun H locs M => ?_)
      refine lv_if_ne (tgt := 58) hx hb dX10_callBetween_39 (by decide) (fun c6 => ?_) (fun c6 => ?_)
      · rw [if_neg c6] at hs
        refine lv_lload_n hx hb dX10_callBetween_58 rfl (lv_at hl 3 rfl) ?_
        refine lv_bipush (v := 8) hx hb dX10_callBetween_59 (by decide) ?_
        refine lv_lshl hx hb dX10_callBetween_61 rfl ?_
        refine lv_iload hx hb dX10_callBetween_62 (lv_at hl 0 rfl) ?_
        refine lv_i2l hx hb dX10_callBetween_64 rfl ?_
        refine lv_lor hx hb dX10_callBetween_65 ?_
        refine lv_lstore_n (i := 3) (lv' := [(3, .long ((x3 <<< ((8 : Int32).toInt64 &&& 63)) ||| v4.toInt64)), (6, .int v4), (0, .ref th), (2, .int x2), (5, .int x5)]) hx hb dX10_callBetween_66 rfl hl (by decide) rfl (fun ls hl => ?_)
        refine lv_iinc (v := x5 + 1) (lv' := [(5, .int (x5 + 1)), (3, .long ((x3 <<< ((8 : Int32).toInt64 &&& 63)) ||| v4.toInt64)), (6, .int v4), (0, .ref th), (2, .int x2)]) hx hb dX10_callBetween_67 hl (k := 4) rfl rfl (by decide) rfl (fun ls hl => ?_)
        refine lv_goto (tgt := 20) hx hb dX10_callBetween_70 (by decide) ?_
        exact ih ((x3 <<< ((8 : Int32).toInt64 &&& 63)) ||| v4.toInt64) (x5 + 1) _ _ _ _ hs (lv_sub hl [3, 4, 1, 0] rfl) M kx kr
      · rw [if_pos c6] at hs
        refine lv_iload hx hb dX10_callBetween_42 (lv_at hl 0 rfl) ?_
        refine lv_bipush (v := 65) hx hb dX10_callBetween_44 (by decide) ?_
        refine lv_icmp_lt (tgt := 56) hx hb dX10_callBetween_46 (by decide) (fun c7 => ?_) (fun c7 => ?_)
        · rw [if_pos c7] at hs
          refine lv_lconst (v := 0) hx hb dX10_callBetween_56 (by decide) ?_
          obtain rfl := kr _ (Option.some.inj hs).symm
          exact re_l F M dX10_callBetween_57
        · rw [if_neg c7] at hs
          refine lv_iload hx hb dX10_callBetween_49 (lv_at hl 0 rfl) ?_
          refine lv_bipush (v := 90) hx hb dX10_callBetween_51 (by decide) ?_
          refine lv_icmp_le (tgt := 58) hx hb dX10_callBetween_53 (by decide) (fun c8 => ?_) (fun c8 => ?_)
          · rw [if_pos c8] at hs
            refine lv_lload_n hx hb dX10_callBetween_58 rfl (lv_at hl 3 rfl) ?_
            refine lv_bipush (v := 8) hx hb dX10_callBetween_59 (by decide) ?_
            refine lv_lshl hx hb dX10_callBetween_61 rfl ?_
            refine lv_iload hx hb dX10_callBetween_62 (lv_at hl 0 rfl) ?_
            refine lv_i2l hx hb dX10_callBetween_64 rfl ?_
            refine lv_lor hx hb dX10_callBetween_65 ?_
            refine lv_lstore_n (i := 3) (lv' := [(3, .long ((x3 <<< ((8 : Int32).toInt64 &&& 63)) ||| v4.toInt64)), (6, .int v4), (0, .ref th), (2, .int x2), (5, .int x5)]) hx hb dX10_callBetween_66 rfl hl (by decide) rfl (fun ls hl => ?_)
            refine lv_iinc (v := x5 + 1) (lv' := [(5, .int (x5 + 1)), (3, .long ((x3 <<< ((8 : Int32).toInt64 &&& 63)) ||| v4.toInt64)), (6, .int v4), (0, .ref th), (2, .int x2)]) hx hb dX10_callBetween_67 hl (k := 4) rfl rfl (by decide) rfl (fun ls hl => ?_)
            refine lv_goto (tgt := 20) hx hb dX10_callBetween_70 (by decide) ?_
            exact ih ((x3 <<< ((8 : Int32).toInt64 &&& 63)) ||| v4.toInt64) (x5 + 1) _ _ _ _ hs (lv_sub hl [3, 4, 1, 0] rfl) M kx kr
          · rw [if_neg c8] at hs
            refine lv_lconst (v := 0) hx hb dX10_callBetween_56 (by decide) ?_
            obtain rfl := kr _ (Option.some.inj hs).symm
            exact re_l F M dX10_callBetween_57
set_option maxHeartbeats 4000000 in
set_option maxRecDepth 100000 in
theorem c_X10_callBetween {l : Launch} {D : va_G} {cy : Nat → ClassId} {sz N : Nat} {h : IH} {th : Nat} {a0 : Int32} {a1 : Int32} {qF : Int64} (hs : s_X10_callBetween N h th a0 a1 = some qF) : Ct l D cy yX10_callBetween cX10_callBetween 7 (some .long) rm_X10_callBetween h sz [.ref th, .int a0, .int a1] h (some (.long qF)) := by
  refine ct_start (by decide +kernel) [(0, .ref th), (1, .int a0), (2, .int a1)] (Nat.le_of_ble_eq_true rfl) rfl ?_
  intro p e s m args below meth c A H0 ls F hin hsz M hl
  obtain ⟨hx, hb, hr, hml, hown, hlk, hts, hK, hN, hA, hH⟩ := id F
  generalize s.heap = H at M ⊢
  generalize ([] : List Loc) = locs at M ⊢
  unfold s_X10_callBetween at hs
  refine lv_iload_n hx hb dX10_callBetween_0 rfl (lv_at hl 2 rfl) ?_
  refine lv_iload_n hx hb dX10_callBetween_1 rfl (lv_at hl 1 rfl) ?_
  refine lv_icmp_le (tgt := 13) hx hb dX10_callBetween_2 (by decide) (fun c1 => ?_) (fun c1 => ?_)
  · rw [if_pos c1] at hs
    refine lv_lconst (v := 0) hx hb dX10_callBetween_13 (by decide) ?_
    obtain rfl := Option.some.inj hs
    exact re_l F M dX10_callBetween_14
  · rw [if_neg c1] at hs
    refine lv_iload_n hx hb dX10_callBetween_5 rfl (lv_at hl 2 rfl) ?_
    refine lv_iload_n hx hb dX10_callBetween_6 rfl (lv_at hl 1 rfl) ?_
    refine lv_isub hx hb dX10_callBetween_7 ?_
    refine lv_bipush (v := 6) hx hb dX10_callBetween_8 (by decide) ?_
    refine lv_icmp_le (tgt := 15) hx hb dX10_callBetween_10 (by decide) (fun c2 => ?_) (fun c2 => ?_)
    · rw [if_pos c2] at hs
      refine lv_lconst (v := 0) hx hb dX10_callBetween_15 (by decide) ?_
      refine lv_lstore_n (i := 3) (lv' := [(3, .long 0), (0, .ref th), (1, .int a0), (2, .int a1)]) hx hb dX10_callBetween_16 rfl hl (by decide) rfl (fun ls hl => ?_)
      refine lv_iload_n hx hb dX10_callBetween_17 rfl (lv_at hl 2 rfl) ?_
      refine lv_istore (i := 5) (lv' := [(5, .int a0), (3, .long 0), (0, .ref th), (1, .int a0), (2, .int a1)]) hx hb dX10_callBetween_18 hl (by decide) rfl (fun ls hl => ?_)
      obtain ⟨q10, g_q10, hs⟩ := bd hs
      refine w_X10_callBetween_L20 F N 0 a0 _ _ _ q10 g_q10 (lv_sub hl [2, 4, 1, 0] rfl) M (fun t11 ls H locs eq_ hl M => ?_) (fun v eq_ => ?_)
      · subst eq_
        have hs := se_r hs
        refine lv_lload_n hx hb dX10_callBetween_73 rfl (lv_at hl 0 rfl) ?_
        obtain rfl := Option.some.inj hs
        exact re_l F M dX10_callBetween_74
      · subst eq_
        have hs := se_l hs
        exact (Option.some.inj hs)
    · rw [if_neg c2] at hs
      refine lv_lconst (v := 0) hx hb dX10_callBetween_13 (by decide) ?_
      obtain rfl := Option.some.inj hs
      exact re_l F M dX10_callBetween_14
abbrev rm_X11_isBelow : Room := { frames := 0, cells := 0, slots := 0, locals := 0 }
theorem mf_X11_isBelow : MS yX11_isBelow cX11_isBelow 2 (some .boolean) 2 := ⟨t_406, t_405, t_1, ⟨by decide +kernel, by decide +kernel, by decide +kernel⟩⟩
def s_X11_isBelow (h : IH) (a0 : Int32) (a1 : Int32) : Option (Int32) := ((if a0 < 0 then some 0 else if a1 ≤ a0 then some 0 else some 1) : Option (Int32)).bind fun q3 => if q3 = 0 ∨ q3 = 1 then some q3 else none
set_option maxHeartbeats 4000000 in
set_option maxRecDepth 100000 in
theorem c_X11_isBelow {l : Launch} {D : va_G} {cy : Nat → ClassId} {sz : Nat} {h : IH} {a0 : Int32} {a1 : Int32} {qF : Int32} (hs : s_X11_isBelow h a0 a1 = some qF) : Ct l D cy yX11_isBelow cX11_isBelow 2 (some .boolean) rm_X11_isBelow h sz [.int a0, .int a1] h (some (.int qF)) := by
  refine ct_start (by decide +kernel) [(0, .int a0), (1, .int a1)] (Nat.le_of_ble_eq_true rfl) rfl ?_
  intro p e s m args below meth c A H0 ls F hin hsz M hl
  obtain ⟨hx, hb, hr, hml, hown, hlk, hts, hK, hN, hA, hH⟩ := id F
  generalize s.heap = H at M ⊢
  generalize ([] : List Loc) = locs at M ⊢
  unfold s_X11_isBelow at hs
  refine lv_iload_n hx hb dX11_isBelow_0 rfl (lv_at hl 0 rfl) ?_
  obtain ⟨q3, hsq3, hs⟩ := bd hs
  have KJ14 : ∀ (ls : Array Slot) (H : Heap) (locs : List Loc), lv_has ls 2 [] → Mo D cy A H0 h H locs → W p l e rm_X11_isBelow s m args below meth c H locs 0 0 (MQ below (QR D cy h A (some (.int qF))) args s 0 0 A) (F0 m 14 ls [.int q3]) := by
    intro ls H locs hl M
    by_cases zg : q3 = 0 ∨ q3 = 1
    · rw [if_pos zg] at hs
      obtain rfl := Option.some.inj hs
      exact re_z F M zg dX11_isBelow_14
    · rw [if_neg zg] at hs; cases hs
  clear hs
  have hs := hsq3
  refine lv_if_lt (tgt := 13) hx hb dX11_isBelow_1 (by decide) (fun c1 => ?_) (fun c1 => ?_)
  · rw [if_pos c1] at hs
    refine lv_iconst (v := 0) hx hb dX11_isBelow_13 (by decide) ?_
    obtain rfl := Option.some.inj hs
    exact KJ14 _ _ _ (lv_sub hl [] rfl) M
  · rw [if_neg c1] at hs
    refine lv_iload_n hx hb dX11_isBelow_4 rfl (lv_at hl 0 rfl) ?_
    refine lv_iload_n hx hb dX11_isBelow_5 rfl (lv_at hl 1 rfl) ?_
    refine lv_icmp_ge (tgt := 13) hx hb dX11_isBelow_6 (by decide) (fun c2 => ?_) (fun c2 => ?_)
    · rw [if_pos c2] at hs
      refine lv_iconst (v := 0) hx hb dX11_isBelow_13 (by decide) ?_
      obtain rfl := Option.some.inj hs
      exact KJ14 _ _ _ (lv_sub hl [] rfl) M
    · rw [if_neg c2] at hs
      refine lv_iconst (v := 1) hx hb dX11_isBelow_9 (by decide) ?_
      refine lv_goto (tgt := 14) hx hb dX11_isBelow_10 (by decide) ?_
      obtain rfl := Option.some.inj hs
      exact KJ14 _ _ _ (lv_sub hl [] rfl) M
abbrev rm_X7_numberOf : Room := { frames := 0, cells := 0, slots := 0, locals := 0 }
theorem mf_X7_numberOf : MV 7 yX7_numberOf cX7_numberOf 4 (some .int) 1 RX7 := ⟨t_410, t_409, tS_4, t_3, ⟨by decide +kernel, by decide +kernel, by decide +kernel⟩, rfl, by decide⟩
def s_X7_numberOf_L2 (N : Nat) : Nat → Nat → Int64 → Int32 → IH → Option ((Int32) ⊕ (Unit))
  | 0, _, _, _, _ => none
  | n + 1, th, x1, x3, h => (gI h 7 1 (some th)).bind fun v1 => if v1 ≤ x3 then some (.inr ()) else (gR h 7 0 (some th)).bind fun v3 => (aR h 5 v3 x3).bind fun v4 => (gL h 9 4 v4).bind fun v5 => if (lg_cmp v5 x1) = 0 then some (.inl x3) else s_X7_numberOf_L2 N n th x1 (x3 + 1) h
def s_X7_numberOf (N : Nat) (h : IH) (th : Nat) (a0 : Int64) : Option (Int32) := (s_X7_numberOf_L2 N N th a0 0 h).bind fun q7 => Sum.elim (fun v => some v) (fun t8 => some (-1)) q7
set_option maxHeartbeats 4000000 in
set_option maxRecDepth 100000 in
theorem w_X7_numberOf_L2 {p : Program} {l : Launch} {e : Env} {s : State} {m : MethodId} {args : Array Value} {below : List Frame} {meth : Method} {c : Code} {D : va_G} {cy : Nat → ClassId} {A : Nat → Prop} {H0 : Heap} {N th : Nat} {x1 : Int64} {h : IH} {qF : Int32} (F : Fx p s m args meth c D cy A H0 yX7_numberOf cX7_numberOf 4 (some .int)) : ∀ (n : Nat) (x3 : Int32) (ls : Array Slot) (H : Heap) (locs : List Loc) (q : (Int32) ⊕ (Unit)), s_X7_numberOf_L2 N n th x1 x3 h = some q → lv_has ls 4 [(0, .ref th), (1, .long x1), (3, .int x3)] → Mo D cy A H0 h H locs → (∀ (t : Unit) (ls : Array Slot) (H : Heap) (locs : List Loc), q = .inr t → lv_has ls 4 [] → Mo D cy A H0 h H locs → W p l e rm_X7_numberOf s m args below meth c H locs 0 0 (MQ below (QR D cy h A (some (.int qF))) args s 0 0 A) (F0 m 32 ls [])) → (∀ v, q = .inl v → v = qF) → W p l e rm_X7_numberOf s m args below meth c H locs 0 0 (MQ below (QR D cy h A (some (.int qF))) args s 0 0 A) (F0 m 2 ls []) := by
  intro n
  induction n with
  | zero => intro x3 ls H locs q hs; rw [s_X7_numberOf_L2.eq_1] at hs; cases hs
  | succ n ih =>
    intro x3 ls H locs q hs hl M kx kr
    obtain ⟨hx, hb, hr, hml, hown, hlk, hts, hK, hN, hA, hH⟩ := id F
    rw [s_X7_numberOf_L2.eq_2] at hs
    refine lv_iload_n hx hb dX7_numberOf_2 rfl (lv_at hl 2 rfl) ?_
    refine lv_aload_n hx hb dX7_numberOf_3 rfl (lv_at hl 0 rfl) ?_
    obtain ⟨v1, g_v1, hs⟩ := bd hs
    refine ro_gI F M fg_7_1 t_69 g_v1 dX7_numberOf_4 ?_
    refine lv_icmp_ge (tgt := 32) hx hb dX7_numberOf_7 (by decide) (fun c2 => ?_) (fun c2 => ?_)
    · rw [if_pos c2] at hs
      exact kx () _ _ _ (Option.some.inj hs).symm (lv_sub hl [] rfl) M
    · rw [if_neg c2] at hs
      refine lv_aload_n hx hb dX7_numberOf_10 rfl (lv_at hl 0 rfl) ?_
      obtain ⟨v3, g_v3, hs⟩ := bd hs
      refine ro_gR F M fg_7_0 t_68 g_v3 dX7_numberOf_11 ?_
      refine lv_iload_n hx hb dX7_numberOf_14 rfl (lv_at hl 2 rfl) ?_
      obtain ⟨v4, g_v4, hs⟩ := bd hs
      refine ro_aR (k := 5) (by decide) rfl F M g_v4 dX7_numberOf_15 ?_
      obtain ⟨v5, g_v5, hs⟩ := bd hs
      refine ro_gLN F M fg_9_4 tN_430 g_v5 dX7_numberOf_16 ?_
      refine lv_lload_n hx hb dX7_numberOf_19 rfl (lv_at hl 1 rfl) ?_
      refine W.lcmp hx hb dX7_numberOf_20 ?_
      refine lv_if_ne (tgt := 26) hx hb dX7_numberOf_21 (by decide) (fun c6 => ?_) (fun c6 => ?_)
      · rw [if_neg c6] at hs
        refine lv_iinc (v := x3 + 1) (lv' := [(3, .int (x3 + 1)), (0, .ref th), (1, .long x1)]) hx hb dX7_numberOf_26 hl (k := 2) rfl rfl (by decide) rfl (fun ls hl => ?_)
        refine lv_goto (tgt := 2) hx hb dX7_numberOf_29 (by decide) ?_
        exact ih (x3 + 1) _ _ _ _ hs (lv_sub hl [1, 2, 0] rfl) M kx kr
      · rw [if_pos c6] at hs
        refine lv_iload_n hx hb dX7_numberOf_24 rfl (lv_at hl 2 rfl) ?_
        obtain rfl := kr _ (Option.some.inj hs).symm
        exact re_i F M dX7_numberOf_25
set_option maxHeartbeats 4000000 in
set_option maxRecDepth 100000 in
theorem c_X7_numberOf {l : Launch} {D : va_G} {cy : Nat → ClassId} {sz N : Nat} {h : IH} {th : Nat} {a0 : Int64} {qF : Int32} (hs : s_X7_numberOf N h th a0 = some qF) : Ct l D cy yX7_numberOf cX7_numberOf 4 (some .int) rm_X7_numberOf h sz [.ref th, .long a0] h (some (.int qF)) := by
  refine ct_start (by decide +kernel) [(0, .ref th), (1, .long a0)] (Nat.le_of_ble_eq_true rfl) rfl ?_
  intro p e s m args below meth c A H0 ls F hin hsz M hl
  obtain ⟨hx, hb, hr, hml, hown, hlk, hts, hK, hN, hA, hH⟩ := id F
  generalize s.heap = H at M ⊢
  generalize ([] : List Loc) = locs at M ⊢
  unfold s_X7_numberOf at hs
  refine lv_iconst (v := 0) hx hb dX7_numberOf_0 (by decide) ?_
  refine lv_istore_n (i := 3) (lv' := [(3, .int 0), (0, .ref th), (1, .long a0)]) hx hb dX7_numberOf_1 rfl hl (by decide) rfl (fun ls hl => ?_)
  obtain ⟨q7, g_q7, hs⟩ := bd hs
  refine w_X7_numberOf_L2 F N 0 _ _ _ q7 g_q7 (lv_sub hl [1, 2, 0] rfl) M (fun t8 ls H locs eq_ hl M => ?_) (fun v eq_ => ?_)
  · subst eq_
    have hs := se_r hs
    refine lv_iconst (v := (-1)) hx hb dX7_numberOf_32 (by decide) ?_
    obtain rfl := Option.some.inj hs
    exact re_i F M dX7_numberOf_33
  · subst eq_
    have hs := se_l hs
    exact (Option.some.inj hs)
abbrev rm_X7_add : Room := { frames := 0, cells := 0, slots := 0, locals := 0 }
theorem mf_X7_add : MV 7 yX7_add cX7_add 2 (some .int) 1 RX7 := ⟨t_462, t_461, tS_5, t_3, ⟨by decide +kernel, by decide +kernel, by decide +kernel⟩, rfl, by decide⟩
def s_X7_add (h : IH) (th : Nat) (a0 : Option Nat) : Option (Int32 × IH) := (gI h 7 1 (some th)).bind fun v1 => if v1 < 12 then (gR h 7 0 (some th)).bind fun v3 => (gI h 7 1 (some th)).bind fun v4 => (sR h 5 9 v3 v4 a0).bind fun h5 => (gI h5 7 1 (some th)).bind fun v6 => (pI h5 7 1 (some th) (v6 + 1)).bind fun h7 => (gI h7 7 1 (some th)).bind fun v8 => some (v8 - 1, h7) else some ((-1), h)
set_option maxHeartbeats 4000000 in
set_option maxRecDepth 100000 in
theorem c_X7_add {l : Launch} {D : va_G} {cy : Nat → ClassId} {sz : Nat} {h : IH} {th : Nat} {a0 : Option Nat} {qF : Int32 × IH} (hs : s_X7_add h th a0 = some qF) : Ct l D cy yX7_add cX7_add 2 (some .int) rm_X7_add h sz [.ref th, va_rf a0] qF.2 (some (.int qF.1)) := by
  refine ct_start (by decide +kernel) [(0, .ref th), (1, va_rf a0)] (by simp [lg_sl, cat_rf, cat_i, cat_j, cat_r]) (by simp [lv_args, cat_rf, cat_i, cat_j, cat_r]) ?_
  intro p e s m args below meth c A H0 ls F hin hsz M hl
  obtain ⟨hx, hb, hr, hml, hown, hlk, hts, hK, hN, hA, hH⟩ := id F
  generalize s.heap = H at M ⊢
  generalize ([] : List Loc) = locs at M ⊢
  unfold s_X7_add at hs
  refine lv_aload_n hx hb dX7_add_0 rfl (lv_at hl 0 rfl) ?_
  obtain ⟨v1, g_v1, hs⟩ := bd hs
  refine ro_gI F M fg_7_1 t_69 g_v1 dX7_add_1 ?_
  refine lv_bipush (v := 12) hx hb dX7_add_4 (by decide) ?_
  refine lv_icmp_lt (tgt := 11) hx hb dX7_add_6 (by decide) (fun c2 => ?_) (fun c2 => ?_)
  · rw [if_pos c2] at hs
    refine lv_aload_n hx hb dX7_add_11 rfl (lv_at hl 0 rfl) ?_
    obtain ⟨v3, g_v3, hs⟩ := bd hs
    refine ro_gR F M fg_7_0 t_68 g_v3 dX7_add_12 ?_
    refine lv_aload_n hx hb dX7_add_15 rfl (lv_at hl 0 rfl) ?_
    obtain ⟨v4, g_v4, hs⟩ := bd hs
    refine ro_gI F M fg_7_1 t_69 g_v4 dX7_add_16 ?_
    refine lo_aload_n hx hb dX7_add_19 rfl (lv_at hl 1 rfl) ?_
    obtain ⟨h5, g_h5, hs⟩ := bd hs
    refine ro_sR (k := 5) (by decide) rfl (ci := 9) rfl (by decide) F M g_h5 dX7_add_20 (fun H locs M => ?_)
    refine lv_aload_n hx hb dX7_add_21 rfl (lv_at hl 0 rfl) ?_
    refine lv_dup hx hb dX7_add_22 rfl ?_
    obtain ⟨v6, g_v6, hs⟩ := bd hs
    refine ro_gI F M fg_7_1 t_69 g_v6 dX7_add_23 ?_
    refine lv_iconst (v := 1) hx hb dX7_add_26 (by decide) ?_
    refine lv_iadd hx hb dX7_add_27 ?_
    obtain ⟨h7, g_h7, hs⟩ := bd hs
    refine ro_pI F M fg_7_1 fp_7_1 rfl t_69 g_h7 dX7_add_28 (fun H locs M => ?_)
    refine lv_aload_n hx hb dX7_add_31 rfl (lv_at hl 0 rfl) ?_
    obtain ⟨v8, g_v8, hs⟩ := bd hs
    refine ro_gI F M fg_7_1 t_69 g_v8 dX7_add_32 ?_
    refine lv_iconst (v := 1) hx hb dX7_add_35 (by decide) ?_
    refine lv_isub hx hb dX7_add_36 ?_
    obtain rfl := Option.some.inj hs
    exact re_i F M dX7_add_37
  · rw [if_neg c2] at hs
    refine lv_iconst (v := (-1)) hx hb dX7_add_9 (by decide) ?_
    obtain rfl := Option.some.inj hs
    exact re_i F M dX7_add_10
abbrev rm_X7_at : Room := { frames := 0, cells := 0, slots := 0, locals := 0 }
theorem mf_X7_at : MV 7 yX7_at cX7_at 2 (some (.object "ContactHouse$Station")) 1 RX7 := ⟨t_470, t_469, tS_6, t_3, ⟨by decide +kernel, by decide +kernel, by decide +kernel⟩, rfl, by decide⟩
def s_X7_at (h : IH) (th : Nat) (a0 : Int32) : Option (Option Nat) := ((if a0 < 0 then some none else (gI h 7 1 (some th)).bind fun v2 => if v2 ≤ a0 then some none else (gR h 7 0 (some th)).bind fun v4 => (aR h 5 v4 a0).bind fun v5 => some v5) : Option (Option Nat)).bind fun q6 => some q6
set_option maxHeartbeats 4000000 in
set_option maxRecDepth 100000 in
theorem c_X7_at {l : Launch} {D : va_G} {cy : Nat → ClassId} {sz : Nat} {h : IH} {th : Nat} {a0 : Int32} {qF : Option Nat} (hs : s_X7_at h th a0 = some qF) : Ct l D cy yX7_at cX7_at 2 (some (.object "ContactHouse$Station")) rm_X7_at h sz [.ref th, .int a0] h (some (va_rf qF)) := by
  refine ct_start (by decide +kernel) [(0, .ref th), (1, .int a0)] (Nat.le_of_ble_eq_true rfl) rfl ?_
  intro p e s m args below meth c A H0 ls F hin hsz M hl
  obtain ⟨hx, hb, hr, hml, hown, hlk, hts, hK, hN, hA, hH⟩ := id F
  generalize s.heap = H at M ⊢
  generalize ([] : List Loc) = locs at M ⊢
  unfold s_X7_at at hs
  refine lv_iload_n hx hb dX7_at_0 rfl (lv_at hl 1 rfl) ?_
  obtain ⟨q6, hsq6, hs⟩ := bd hs
  have KJ22 : ∀ (ls : Array Slot) (H : Heap) (locs : List Loc), lv_has ls 2 [] → Mo D cy A H0 h H locs → W p l e rm_X7_at s m args below meth c H locs 0 0 (MQ below (QR D cy h A (some (va_rf qF))) args s 0 0 A) (F0 m 22 ls [va_rf q6]) := by
    intro ls H locs hl M
    obtain rfl := Option.some.inj hs
    exact re_a F M dX7_at_22
  clear hs
  have hs := hsq6
  refine lv_if_lt (tgt := 21) hx hb dX7_at_1 (by decide) (fun c1 => ?_) (fun c1 => ?_)
  · rw [if_pos c1] at hs
    refine lv_null hx hb dX7_at_21 ?_
    obtain rfl := Option.some.inj hs
    exact KJ22 _ _ _ (lv_sub hl [] rfl) M
  · rw [if_neg c1] at hs
    refine lv_iload_n hx hb dX7_at_4 rfl (lv_at hl 1 rfl) ?_
    refine lv_aload_n hx hb dX7_at_5 rfl (lv_at hl 0 rfl) ?_
    obtain ⟨v2, g_v2, hs⟩ := bd hs
    refine ro_gI F M fg_7_1 t_69 g_v2 dX7_at_6 ?_
    refine lv_icmp_ge (tgt := 21) hx hb dX7_at_9 (by decide) (fun c3 => ?_) (fun c3 => ?_)
    · rw [if_pos c3] at hs
      refine lv_null hx hb dX7_at_21 ?_
      obtain rfl := Option.some.inj hs
      exact KJ22 _ _ _ (lv_sub hl [] rfl) M
    · rw [if_neg c3] at hs
      refine lv_aload_n hx hb dX7_at_12 rfl (lv_at hl 0 rfl) ?_
      obtain ⟨v4, g_v4, hs⟩ := bd hs
      refine ro_gR F M fg_7_0 t_68 g_v4 dX7_at_13 ?_
      refine lv_iload_n hx hb dX7_at_16 rfl (lv_at hl 1 rfl) ?_
      obtain ⟨v5, g_v5, hs⟩ := bd hs
      refine ro_aR (k := 5) (by decide) rfl F M g_v5 dX7_at_17 ?_
      refine lv_goto (tgt := 22) hx hb dX7_at_18 (by decide) ?_
      obtain rfl := Option.some.inj hs
      exact KJ22 _ _ _ (lv_sub hl [] rfl) M
abbrev rm_X11_join : Room := { frames := 1, cells := 0, slots := 0, locals := 21 }
theorem mf_X11_join : MV 11 yX11_join cX11_join 5 (some .int) 2 RX11 := ⟨t_466, t_464, t_465, t_1, ⟨by decide +kernel, by decide +kernel, by decide +kernel⟩, rfl, by decide⟩
def s_X11_join (h : IH) (th : Nat) (a0 : Int32) (a1 : Int32) : Option (Int32 × IH) := (gR h 11 1 (some th)).bind fun v1 => (cV h 7 v1 fun a18 => s_X7_at h a18 a0).bind fun v2 => (gR h 11 1 (some th)).bind fun v3 => (cV h 7 v3 fun a17 => s_X7_at h a17 a1).bind fun v4 => if v2 = none then some ((-1), h) else if v4 = none then some ((-1), h) else (gI h 9 0 v2).bind fun v7 => if v7 = 4 then (gI h 9 0 v4).bind fun v9 => if v9 = 4 then some ((-2), h) else (gI h 9 6 v4).bind fun v11 => if v11 = (-1) then (pI h 9 6 v4 a0).bind fun h13 => (gI h13 9 7 v2).bind fun v14 => (pI h13 9 7 v2 (v14 + 1)).bind fun h15 => (gI h15 9 7 v2).bind fun v16 => some (v16, h15) else some ((-3), h) else some ((-1), h)
set_option maxHeartbeats 4000000 in
set_option maxRecDepth 100000 in
theorem c_X11_join {l : Launch} {D : va_G} {cy : Nat → ClassId} {sz : Nat} {h : IH} {th : Nat} {a0 : Int32} {a1 : Int32} {qF : Int32 × IH} (hs : s_X11_join h th a0 a1 = some qF) : Ct l D cy yX11_join cX11_join 5 (some .int) rm_X11_join h sz [.ref th, .int a0, .int a1] qF.2 (some (.int qF.1)) := by
  refine ct_start (by decide +kernel) [(0, .ref th), (1, .int a0), (2, .int a1)] (Nat.le_of_ble_eq_true rfl) rfl ?_
  intro p e s m args below meth c A H0 ls F hin hsz M hl
  obtain ⟨hx, hb, hr, hml, hown, hlk, hts, hK, hN, hA, hH⟩ := id F
  generalize s.heap = H at M ⊢
  generalize ([] : List Loc) = locs at M ⊢
  unfold s_X11_join at hs
  refine lv_aload_n hx hb dX11_join_0 rfl (lv_at hl 0 rfl) ?_
  obtain ⟨v1, g_v1, hs⟩ := bd hs
  refine ro_gR F M fg_11_1 t_331 g_v1 dX11_join_1 ?_
  refine lv_iload_n hx hb dX11_join_4 rfl (lv_at hl 1 rfl) ?_
  obtain ⟨v2, g_v2, hs⟩ := bd hs
  obtain ⟨a18, e_a18, k_a18, g_v2⟩ := cV_some g_v2
  refine ca_VNa (bq := a18) (As := [.int a0]) (rest := []) F M (c_X7_at g_v2) mf_X7_at tN_467 k_a18 rfl ⟨by decide, by decide⟩ ⟨rfl, rfl⟩ ⟨Nat.zero_le _, Nat.zero_le _⟩ hl.1 (by rw [e_a18]; rfl) (by decide) dX11_join_5 (fun H locs M => ?_)
  refine lo_astore_n (i := 3) (lv' := [(3, va_rf v2), (0, .ref th), (1, .int a0), (2, .int a1)]) hx hb dX11_join_8 rfl hl (by decide) rfl (fun ls hl => ?_)
  refine lv_aload_n hx hb dX11_join_9 rfl (lv_at hl 1 rfl) ?_
  obtain ⟨v3, g_v3, hs⟩ := bd hs
  refine ro_gR F M fg_11_1 t_331 g_v3 dX11_join_10 ?_
  refine lv_iload_n hx hb dX11_join_13 rfl (lv_at hl 3 rfl) ?_
  obtain ⟨v4, g_v4, hs⟩ := bd hs
  obtain ⟨a17, e_a17, k_a17, g_v4⟩ := cV_some g_v4
  refine ca_VNa (bq := a17) (As := [.int a1]) (rest := []) F M (c_X7_at g_v4) mf_X7_at tN_467 k_a17 rfl ⟨by decide, by decide⟩ ⟨rfl, rfl⟩ ⟨Nat.zero_le _, Nat.zero_le _⟩ hl.1 (by rw [e_a17]; rfl) (by decide) dX11_join_14 (fun H locs M => ?_)
  refine lo_astore (i := 4) (lv' := [(4, va_rf v4), (3, va_rf v2), (0, .ref th), (1, .int a0), (2, .int a1)]) hx hb dX11_join_17 hl (by decide) (by simp [cat_rf, cat_i, cat_j, cat_r]) (fun ls hl => ?_)
  refine lo_aload_n hx hb dX11_join_19 rfl (lv_at hl 1 rfl) ?_
  refine lo_ifnull (tgt := 36) hx hb dX11_join_20 (by decide) (fun c5 => ?_) (fun c5 => ?_)
  · rw [if_pos c5] at hs
    refine lv_iconst (v := (-1)) hx hb dX11_join_36 (by decide) ?_
    obtain rfl := Option.some.inj hs
    exact re_i F M dX11_join_37
  · rw [if_neg c5] at hs
    refine lo_aload hx hb dX11_join_23 (lv_at hl 0 rfl) ?_
    refine lo_ifnull (tgt := 36) hx hb dX11_join_25 (by decide) (fun c6 => ?_) (fun c6 => ?_)
    · rw [if_pos c6] at hs
      refine lv_iconst (v := (-1)) hx hb dX11_join_36 (by decide) ?_
      obtain rfl := Option.some.inj hs
      exact re_i F M dX11_join_37
    · rw [if_neg c6] at hs
      refine lo_aload_n hx hb dX11_join_28 rfl (lv_at hl 1 rfl) ?_
      obtain ⟨v7, g_v7, hs⟩ := bd hs
      refine ro_gIN F M fg_9_0 tN_422 g_v7 dX11_join_29 ?_
      refine lv_iconst (v := 4) hx hb dX11_join_32 (by decide) ?_
      refine lv_icmp_eq (tgt := 38) hx hb dX11_join_33 (by decide) (fun c8 => ?_) (fun c8 => ?_)
      · rw [if_pos c8] at hs
        refine lo_aload hx hb dX11_join_38 (lv_at hl 0 rfl) ?_
        obtain ⟨v9, g_v9, hs⟩ := bd hs
        refine ro_gIN F M fg_9_0 tN_422 g_v9 dX11_join_40 ?_
        refine lv_iconst (v := 4) hx hb dX11_join_43 (by decide) ?_
        refine lv_icmp_ne (tgt := 50) hx hb dX11_join_44 (by decide) (fun c10 => ?_) (fun c10 => ?_)
        · rw [if_neg c10] at hs
          refine lo_aload hx hb dX11_join_50 (lv_at hl 0 rfl) ?_
          obtain ⟨v11, g_v11, hs⟩ := bd hs
          refine ro_gIN F M fg_9_6 tN_435 g_v11 dX11_join_52 ?_
          refine lv_iconst (v := (-1)) hx hb dX11_join_55 (by decide) ?_
          refine lv_icmp_eq (tgt := 62) hx hb dX11_join_56 (by decide) (fun c12 => ?_) (fun c12 => ?_)
          · rw [if_pos c12] at hs
            refine lo_aload hx hb dX11_join_62 (lv_at hl 0 rfl) ?_
            refine lv_iload_n hx hb dX11_join_64 rfl (lv_at hl 3 rfl) ?_
            obtain ⟨h13, g_h13, hs⟩ := bd hs
            refine ro_pIN F M fg_9_6 fp_9_6 rfl tN_435 g_h13 dX11_join_65 (fun H locs M => ?_)
            refine lo_aload_n hx hb dX11_join_68 rfl (lv_at hl 1 rfl) ?_
            refine lv_dup hx hb dX11_join_69 (cat_rf _) ?_
            obtain ⟨v14, g_v14, hs⟩ := bd hs
            refine ro_gIN F M fg_9_7 tN_436 g_v14 dX11_join_70 ?_
            refine lv_iconst (v := 1) hx hb dX11_join_73 (by decide) ?_
            refine lv_iadd hx hb dX11_join_74 ?_
            obtain ⟨h15, g_h15, hs⟩ := bd hs
            refine ro_pIN F M fg_9_7 fp_9_7 rfl tN_436 g_h15 dX11_join_75 (fun H locs M => ?_)
            refine lo_aload_n hx hb dX11_join_78 rfl (lv_at hl 1 rfl) ?_
            obtain ⟨v16, g_v16, hs⟩ := bd hs
            refine ro_gIN F M fg_9_7 tN_436 g_v16 dX11_join_79 ?_
            obtain rfl := Option.some.inj hs
            exact re_i F M dX11_join_82
          · rw [if_neg c12] at hs
            refine lv_bipush (v := (-3)) hx hb dX11_join_59 (by decide) ?_
            obtain rfl := Option.some.inj hs
            exact re_i F M dX11_join_61
        · rw [if_pos c10] at hs
          refine lv_bipush (v := (-2)) hx hb dX11_join_47 (by decide) ?_
          obtain rfl := Option.some.inj hs
          exact re_i F M dX11_join_49
      · rw [if_neg c8] at hs
        refine lv_iconst (v := (-1)) hx hb dX11_join_36 (by decide) ?_
        obtain rfl := Option.some.inj hs
        exact re_i F M dX11_join_37
abbrev rm_X10_lineEnd : Room := { frames := 1, cells := 0, slots := 0, locals := 21 }
theorem mf_X10_lineEnd : MV 10 yX10_lineEnd cX10_lineEnd 3 (some .int) 1 RX10 := ⟨t_482, t_481, tS_8, t_2, ⟨by decide +kernel, by decide +kernel, by decide +kernel⟩, rfl, by decide⟩
def s_X10_lineEnd_L2 (N : Nat) : Nat → Nat → Int32 → IH → Option (Int32)
  | 0, _, _, _ => none
  | n + 1, th, x2, h => (gI h 10 1 (some th)).bind fun v1 => if v1 ≤ x2 then some x2 else (cV h 10 (some th) fun a5 => s_X10_byteAt h a5 x2).bind fun v3 => if v3 = 10 then some x2 else s_X10_lineEnd_L2 N n th (x2 + 1) h
def s_X10_lineEnd (N : Nat) (h : IH) (th : Nat) (a0 : Int32) : Option (Int32) := (s_X10_lineEnd_L2 N N th a0 h).bind fun q6 => some q6
set_option maxHeartbeats 4000000 in
set_option maxRecDepth 100000 in
theorem w_X10_lineEnd_L2 {p : Program} {l : Launch} {e : Env} {s : State} {m : MethodId} {args : Array Value} {below : List Frame} {meth : Method} {c : Code} {D : va_G} {cy : Nat → ClassId} {A : Nat → Prop} {H0 : Heap} {N th : Nat} {h : IH} {qF : Int32} (F : Fx p s m args meth c D cy A H0 yX10_lineEnd cX10_lineEnd 3 (some .int)) : ∀ (n : Nat) (x2 : Int32) (ls : Array Slot) (H : Heap) (locs : List Loc) (q : Int32), s_X10_lineEnd_L2 N n th x2 h = some q → lv_has ls 3 [(0, .ref th), (2, .int x2)] → Mo D cy A H0 h H locs → (∀ (t : Int32) (ls : Array Slot) (H : Heap) (locs : List Loc), q = t → lv_has ls 3 [(2, .int t)] → Mo D cy A H0 h H locs → W p l e rm_X10_lineEnd s m args below meth c H locs 0 0 (MQ below (QR D cy h A (some (.int qF))) args s 0 0 A) (F0 m 26 ls [])) → (∀ v : Int32, False → v = qF) → W p l e rm_X10_lineEnd s m args below meth c H locs 0 0 (MQ below (QR D cy h A (some (.int qF))) args s 0 0 A) (F0 m 2 ls []) := by
  intro n
  induction n with
  | zero => intro x2 ls H locs q hs; rw [s_X10_lineEnd_L2.eq_1] at hs; cases hs
  | succ n ih =>
    intro x2 ls H locs q hs hl M kx kr
    obtain ⟨hx, hb, hr, hml, hown, hlk, hts, hK, hN, hA, hH⟩ := id F
    rw [s_X10_lineEnd_L2.eq_2] at hs
    refine lv_iload_n hx hb dX10_lineEnd_2 rfl (lv_at hl 1 rfl) ?_
    refine lv_aload_n hx hb dX10_lineEnd_3 rfl (lv_at hl 0 rfl) ?_
    obtain ⟨v1, g_v1, hs⟩ := bd hs
    refine ro_gI F M fg_10_1 t_37 g_v1 dX10_lineEnd_4 ?_
    refine lv_icmp_ge (tgt := 26) hx hb dX10_lineEnd_7 (by decide) (fun c2 => ?_) (fun c2 => ?_)
    · rw [if_pos c2] at hs
      exact kx x2 _ _ _ (Option.some.inj hs).symm (lv_sub hl [1] rfl) M
    · rw [if_neg c2] at hs
      refine lv_aload_n hx hb dX10_lineEnd_10 rfl (lv_at hl 0 rfl) ?_
      refine lv_iload_n hx hb dX10_lineEnd_11 rfl (lv_at hl 1 rfl) ?_
      obtain ⟨v3, g_v3, hs⟩ := bd hs
      obtain ⟨a5, e_a5, k_a5, g_v3⟩ := cV_some g_v3
      obtain rfl := Option.some.inj e_a5
      refine ca_Vi (bq := th) (As := [.int x2]) (rest := []) F M (c_X10_byteAt g_v3) mf_X10_byteAt t_397 k_a5 rfl ⟨by decide, by decide⟩ ⟨rfl, rfl⟩ ⟨Nat.zero_le _, Nat.zero_le _⟩ hl.1 rfl (by decide) dX10_lineEnd_12 (fun H locs M => ?_)
      refine lv_bipush (v := 10) hx hb dX10_lineEnd_15 (by decide) ?_
      refine lv_icmp_eq (tgt := 26) hx hb dX10_lineEnd_17 (by decide) (fun c4 => ?_) (fun c4 => ?_)
      · rw [if_pos c4] at hs
        exact kx x2 _ _ _ (Option.some.inj hs).symm (lv_sub hl [1] rfl) M
      · rw [if_neg c4] at hs
        refine lv_iinc (v := x2 + 1) (lv' := [(2, .int (x2 + 1)), (0, .ref th)]) hx hb dX10_lineEnd_20 hl (k := 1) rfl rfl (by decide) rfl (fun ls hl => ?_)
        refine lv_goto (tgt := 2) hx hb dX10_lineEnd_23 (by decide) ?_
        exact ih (x2 + 1) _ _ _ _ hs (lv_sub hl [1, 0] rfl) M kx kr
set_option maxHeartbeats 4000000 in
set_option maxRecDepth 100000 in
theorem c_X10_lineEnd {l : Launch} {D : va_G} {cy : Nat → ClassId} {sz N : Nat} {h : IH} {th : Nat} {a0 : Int32} {qF : Int32} (hs : s_X10_lineEnd N h th a0 = some qF) : Ct l D cy yX10_lineEnd cX10_lineEnd 3 (some .int) rm_X10_lineEnd h sz [.ref th, .int a0] h (some (.int qF)) := by
  refine ct_start (by decide +kernel) [(0, .ref th), (1, .int a0)] (Nat.le_of_ble_eq_true rfl) rfl ?_
  intro p e s m args below meth c A H0 ls F hin hsz M hl
  obtain ⟨hx, hb, hr, hml, hown, hlk, hts, hK, hN, hA, hH⟩ := id F
  generalize s.heap = H at M ⊢
  generalize ([] : List Loc) = locs at M ⊢
  unfold s_X10_lineEnd at hs
  refine lv_iload_n hx hb dX10_lineEnd_0 rfl (lv_at hl 1 rfl) ?_
  refine lv_istore_n (i := 2) (lv' := [(2, .int a0), (0, .ref th), (1, .int a0)]) hx hb dX10_lineEnd_1 rfl hl (by decide) rfl (fun ls hl => ?_)
  obtain ⟨q6, g_q6, hs⟩ := bd hs
  refine w_X10_lineEnd_L2 F N a0 _ _ _ q6 g_q6 (lv_sub hl [1, 0] rfl) M (fun t_ ls H locs eq_ hl M => ?_) (fun v eq_ => eq_.elim)
  subst eq_
  refine lv_iload_n hx hb dX10_lineEnd_26 rfl (lv_at hl 0 rfl) ?_
  obtain rfl := Option.some.inj hs
  exact re_i F M dX10_lineEnd_27
abbrev rm_X10_startWords : Room := { frames := 0, cells := 0, slots := 0, locals := 0 }
theorem mf_X10_startWords : MV 10 yX10_startWords cX10_startWords 3 none 2 RX10 := ⟨t_486, t_485, tS_9, t_2, ⟨by decide +kernel, by decide +kernel, by decide +kernel⟩, rfl, by decide⟩
def s_X10_startWords (h : IH) (th : Nat) (a0 : Int32) (a1 : Int32) : Option (IH) := (pI h 10 2 (some th) a0).bind fun h1 => (pI h1 10 3 (some th) a1).bind fun h2 => some h2
set_option maxHeartbeats 4000000 in
set_option maxRecDepth 100000 in
theorem c_X10_startWords {l : Launch} {D : va_G} {cy : Nat → ClassId} {sz : Nat} {h : IH} {th : Nat} {a0 : Int32} {a1 : Int32} {qF : IH} (hs : s_X10_startWords h th a0 a1 = some qF) : Ct l D cy yX10_startWords cX10_startWords 3 none rm_X10_startWords h sz [.ref th, .int a0, .int a1] qF none := by
  refine ct_start (by decide +kernel) [(0, .ref th), (1, .int a0), (2, .int a1)] (Nat.le_of_ble_eq_true rfl) rfl ?_
  intro p e s m args below meth c A H0 ls F hin hsz M hl
  obtain ⟨hx, hb, hr, hml, hown, hlk, hts, hK, hN, hA, hH⟩ := id F
  generalize s.heap = H at M ⊢
  generalize ([] : List Loc) = locs at M ⊢
  unfold s_X10_startWords at hs
  refine lv_aload_n hx hb dX10_startWords_0 rfl (lv_at hl 0 rfl) ?_
  refine lv_iload_n hx hb dX10_startWords_1 rfl (lv_at hl 1 rfl) ?_
  obtain ⟨h1, g_h1, hs⟩ := bd hs
  refine ro_pI F M fg_10_2 fp_10_2 rfl t_40 g_h1 dX10_startWords_2 (fun H locs M => ?_)
  refine lv_aload_n hx hb dX10_startWords_5 rfl (lv_at hl 0 rfl) ?_
  refine lv_iload_n hx hb dX10_startWords_6 rfl (lv_at hl 2 rfl) ?_
  obtain ⟨h2, g_h2, hs⟩ := bd hs
  refine ro_pI F M fg_10_3 fp_10_3 rfl t_41 g_h2 dX10_startWords_7 (fun H locs M => ?_)
  obtain rfl := Option.some.inj hs
  exact re_v F M dX10_startWords_10
abbrev rm_X10_nextWord : Room := { frames := 1, cells := 0, slots := 0, locals := 21 }
theorem mf_X10_nextWord : MV 10 yX10_nextWord cX10_nextWord 2 (some .boolean) 0 RX10 := ⟨t_494, t_493, tS_11, t_2, ⟨by decide +kernel, by decide +kernel, by decide +kernel⟩, rfl, by decide⟩
def s_X10_nextWord_L5 (N : Nat) : Nat → Nat → Int32 → IH → Option (Int32)
  | 0, _, _, _ => none
  | n + 1, th, x1, h => (gI h 10 3 (some th)).bind fun v2 => if v2 ≤ x1 then some x1 else (cV h 10 (some th) fun a6 => s_X10_byteAt h a6 x1).bind fun v4 => if v4 = 32 then s_X10_nextWord_L5 N n th (x1 + 1) h else some x1
def s_X10_nextWord_L34 (N : Nat) : Nat → Nat → Int32 → IH → Option (Int32)
  | 0, _, _, _ => none
  | n + 1, th, x1, h => (gI h 10 3 (some th)).bind fun v9 => if v9 ≤ x1 then some x1 else (cV h 10 (some th) fun a13 => s_X10_byteAt h a13 x1).bind fun v11 => if v11 = 32 then some x1 else s_X10_nextWord_L34 N n th (x1 + 1) h
def s_X10_nextWord (N : Nat) (h : IH) (th : Nat) : Option (Int32 × IH) := (gI h 10 2 (some th)).bind fun v1 => (s_X10_nextWord_L5 N N th v1 h).bind fun q7 => (pI h 10 4 (some th) q7).bind fun h8 => (s_X10_nextWord_L34 N N th q7 h8).bind fun q14 => (gI h8 10 4 (some th)).bind fun v15 => (pI h8 10 5 (some th) (q14 - v15)).bind fun h16 => (pI h16 10 2 (some th) q14).bind fun h17 => (gI h17 10 5 (some th)).bind fun v18 => ((if v18 ≤ 0 then some 0 else some 1) : Option (Int32)).bind fun q20 => if q20 = 0 ∨ q20 = 1 then some (q20, h17) else none
set_option maxHeartbeats 4000000 in
set_option maxRecDepth 100000 in
theorem w_X10_nextWord_L5 {p : Program} {l : Launch} {e : Env} {s : State} {m : MethodId} {args : Array Value} {below : List Frame} {meth : Method} {c : Code} {D : va_G} {cy : Nat → ClassId} {A : Nat → Prop} {H0 : Heap} {N th : Nat} {h : IH} {qF : Int32 × IH} (F : Fx p s m args meth c D cy A H0 yX10_nextWord cX10_nextWord 2 (some .boolean)) : ∀ (n : Nat) (x1 : Int32) (ls : Array Slot) (H : Heap) (locs : List Loc) (q : Int32), s_X10_nextWord_L5 N n th x1 h = some q → lv_has ls 2 [(0, .ref th), (1, .int x1)] → Mo D cy A H0 h H locs → (∀ (t : Int32) (ls : Array Slot) (H : Heap) (locs : List Loc), q = t → lv_has ls 2 [(0, .ref th), (1, .int t)] → Mo D cy A H0 h H locs → W p l e rm_X10_nextWord s m args below meth c H locs 0 0 (MQ below (QR D cy qF.2 A (some (.int qF.1))) args s 0 0 A) (F0 m 29 ls [])) → (∀ v : Int32 × IH, False → v = qF) → W p l e rm_X10_nextWord s m args below meth c H locs 0 0 (MQ below (QR D cy qF.2 A (some (.int qF.1))) args s 0 0 A) (F0 m 5 ls []) := by
  intro n
  induction n with
  | zero => intro x1 ls H locs q hs; rw [s_X10_nextWord_L5.eq_1] at hs; cases hs
  | succ n ih =>
    intro x1 ls H locs q hs hl M kx kr
    obtain ⟨hx, hb, hr, hml, hown, hlk, hts, hK, hN, hA, hH⟩ := id F
    rw [s_X10_nextWord_L5.eq_2] at hs
    refine lv_iload_n hx hb dX10_nextWord_5 rfl (lv_at hl 1 rfl) ?_
    refine lv_aload_n hx hb dX10_nextWord_6 rfl (lv_at hl 0 rfl) ?_
    obtain ⟨v2, g_v2, hs⟩ := bd hs
    refine ro_gI F M fg_10_3 t_41 g_v2 dX10_nextWord_7 ?_
    refine lv_icmp_ge (tgt := 29) hx hb dX10_nextWord_10 (by decide) (fun c3 => ?_) (fun c3 => ?_)
    · rw [if_pos c3] at hs
      exact kx x1 _ _ _ (Option.some.inj hs).symm (lv_sub hl [0, 1] rfl) M
    · rw [if_neg c3] at hs
      refine lv_aload_n hx hb dX10_nextWord_13 rfl (lv_at hl 0 rfl) ?_
      refine lv_iload_n hx hb dX10_nextWord_14 rfl (lv_at hl 1 rfl) ?_
      obtain ⟨v4, g_v4, hs⟩ := bd hs
      obtain ⟨a6, e_a6, k_a6, g_v4⟩ := cV_some g_v4
      obtain rfl := Option.some.inj e_a6
      refine ca_Vi (bq := th) (As := [.int x1]) (rest := []) F M (c_X10_byteAt g_v4) mf_X10_byteAt t_397 k_a6 rfl ⟨by decide, by decide⟩ ⟨rfl, rfl⟩ ⟨Nat.zero_le _, Nat.zero_le _⟩ hl.1 rfl (by decide) dX10_nextWord_15 (fun H locs M => ?_)
      refine lv_bipush (v := 32) hx hb dX10_nextWord_18 (by decide) ?_
      refine lv_icmp_ne (tgt := 29) hx hb dX10_nextWord_20 (by decide) (fun c5 => ?_) (fun c5 => ?_)
      · rw [if_neg c5] at hs
        exact kx x1 _ _ _ (Option.some.inj hs).symm (lv_sub hl [0, 1] rfl) M
      · rw [if_pos c5] at hs
        refine lv_iinc (v := x1 + 1) (lv' := [(1, .int (x1 + 1)), (0, .ref th)]) hx hb dX10_nextWord_23 hl (k := 1) rfl rfl (by decide) rfl (fun ls hl => ?_)
        refine lv_goto (tgt := 5) hx hb dX10_nextWord_26 (by decide) ?_
        exact ih (x1 + 1) _ _ _ _ hs (lv_sub hl [1, 0] rfl) M kx kr
set_option maxHeartbeats 4000000 in
set_option maxRecDepth 100000 in
theorem w_X10_nextWord_L34 {p : Program} {l : Launch} {e : Env} {s : State} {m : MethodId} {args : Array Value} {below : List Frame} {meth : Method} {c : Code} {D : va_G} {cy : Nat → ClassId} {A : Nat → Prop} {H0 : Heap} {N th : Nat} {h : IH} {qF : Int32 × IH} (F : Fx p s m args meth c D cy A H0 yX10_nextWord cX10_nextWord 2 (some .boolean)) : ∀ (n : Nat) (x1 : Int32) (ls : Array Slot) (H : Heap) (locs : List Loc) (q : Int32), s_X10_nextWord_L34 N n th x1 h = some q → lv_has ls 2 [(0, .ref th), (1, .int x1)] → Mo D cy A H0 h H locs → (∀ (t : Int32) (ls : Array Slot) (H : Heap) (locs : List Loc), q = t → lv_has ls 2 [(0, .ref th), (1, .int t)] → Mo D cy A H0 h H locs → W p l e rm_X10_nextWord s m args below meth c H locs 0 0 (MQ below (QR D cy qF.2 A (some (.int qF.1))) args s 0 0 A) (F0 m 58 ls [])) → (∀ v : Int32 × IH, False → v = qF) → W p l e rm_X10_nextWord s m args below meth c H locs 0 0 (MQ below (QR D cy qF.2 A (some (.int qF.1))) args s 0 0 A) (F0 m 34 ls []) := by
  intro n
  induction n with
  | zero => intro x1 ls H locs q hs; rw [s_X10_nextWord_L34.eq_1] at hs; cases hs
  | succ n ih =>
    intro x1 ls H locs q hs hl M kx kr
    obtain ⟨hx, hb, hr, hml, hown, hlk, hts, hK, hN, hA, hH⟩ := id F
    rw [s_X10_nextWord_L34.eq_2] at hs
    refine lv_iload_n hx hb dX10_nextWord_34 rfl (lv_at hl 1 rfl) ?_
    refine lv_aload_n hx hb dX10_nextWord_35 rfl (lv_at hl 0 rfl) ?_
    obtain ⟨v9, g_v9, hs⟩ := bd hs
    refine ro_gI F M fg_10_3 t_41 g_v9 dX10_nextWord_36 ?_
    refine lv_icmp_ge (tgt := 58) hx hb dX10_nextWord_39 (by decide) (fun c10 => ?_) (fun c10 => ?_)
    · rw [if_pos c10] at hs
      exact kx x1 _ _ _ (Option.some.inj hs).symm (lv_sub hl [0, 1] rfl) M
    · rw [if_neg c10] at hs
      refine lv_aload_n hx hb dX10_nextWord_42 rfl (lv_at hl 0 rfl) ?_
      refine lv_iload_n hx hb dX10_nextWord_43 rfl (lv_at hl 1 rfl) ?_
      obtain ⟨v11, g_v11, hs⟩ := bd hs
      obtain ⟨a13, e_a13, k_a13, g_v11⟩ := cV_some g_v11
      obtain rfl := Option.some.inj e_a13
      refine ca_Vi (bq := th) (As := [.int x1]) (rest := []) F M (c_X10_byteAt g_v11) mf_X10_byteAt t_397 k_a13 rfl ⟨by decide, by decide⟩ ⟨rfl, rfl⟩ ⟨Nat.zero_le _, Nat.zero_le _⟩ hl.1 rfl (by decide) dX10_nextWord_44 (fun H locs M => ?_)
      refine lv_bipush (v := 32) hx hb dX10_nextWord_47 (by decide) ?_
      refine lv_icmp_eq (tgt := 58) hx hb dX10_nextWord_49 (by decide) (fun c12 => ?_) (fun c12 => ?_)
      · rw [if_pos c12] at hs
        exact kx x1 _ _ _ (Option.some.inj hs).symm (lv_sub hl [0, 1] rfl) M
      · rw [if_neg c12] at hs
        refine lv_iinc (v := x1 + 1) (lv' := [(1, .int (x1 + 1)), (0, .ref th)]) hx hb dX10_nextWord_52 hl (k := 1) rfl rfl (by decide) rfl (fun ls hl => ?_)
        refine lv_goto (tgt := 34) hx hb dX10_nextWord_55 (by decide) ?_
        exact ih (x1 + 1) _ _ _ _ hs (lv_sub hl [1, 0] rfl) M kx kr
set_option maxHeartbeats 4000000 in
set_option maxRecDepth 100000 in
theorem c_X10_nextWord {l : Launch} {D : va_G} {cy : Nat → ClassId} {sz N : Nat} {h : IH} {th : Nat} {qF : Int32 × IH} (hs : s_X10_nextWord N h th = some qF) : Ct l D cy yX10_nextWord cX10_nextWord 2 (some .boolean) rm_X10_nextWord h sz [.ref th] qF.2 (some (.int qF.1)) := by
  refine ct_start (by decide +kernel) [(0, .ref th)] (Nat.le_of_ble_eq_true rfl) rfl ?_
  intro p e s m args below meth c A H0 ls F hin hsz M hl
  obtain ⟨hx, hb, hr, hml, hown, hlk, hts, hK, hN, hA, hH⟩ := id F
  generalize s.heap = H at M ⊢
  generalize ([] : List Loc) = locs at M ⊢
  unfold s_X10_nextWord at hs
  refine lv_aload_n hx hb dX10_nextWord_0 rfl (lv_at hl 0 rfl) ?_
  obtain ⟨v1, g_v1, hs⟩ := bd hs
  refine ro_gI F M fg_10_2 t_40 g_v1 dX10_nextWord_1 ?_
  refine lv_istore_n (i := 1) (lv' := [(1, .int v1), (0, .ref th)]) hx hb dX10_nextWord_4 rfl hl (by decide) rfl (fun ls hl => ?_)
  obtain ⟨q7, g_q7, hs⟩ := bd hs
  refine w_X10_nextWord_L5 F N v1 _ _ _ q7 g_q7 (lv_sub hl [1, 0] rfl) M (fun t_ ls H locs eq_ hl M => ?_) (fun v eq_ => eq_.elim)
  subst eq_
  refine lv_aload_n hx hb dX10_nextWord_29 rfl (lv_at hl 0 rfl) ?_
  refine lv_iload_n hx hb dX10_nextWord_30 rfl (lv_at hl 1 rfl) ?_
  obtain ⟨h8, g_h8, hs⟩ := bd hs
  refine ro_pI F M fg_10_4 fp_10_4 rfl t_44 g_h8 dX10_nextWord_31 (fun H locs M => ?_)
  obtain ⟨q14, g_q14, hs⟩ := bd hs
  refine w_X10_nextWord_L34 F N q7 _ _ _ q14 g_q14 (lv_sub hl [0, 1] rfl) M (fun t_ ls H locs eq_ hl M => ?_) (fun v eq_ => eq_.elim)
  subst eq_
  refine lv_aload_n hx hb dX10_nextWord_58 rfl (lv_at hl 0 rfl) ?_
  refine lv_iload_n hx hb dX10_nextWord_59 rfl (lv_at hl 1 rfl) ?_
  refine lv_aload_n hx hb dX10_nextWord_60 rfl (lv_at hl 0 rfl) ?_
  obtain ⟨v15, g_v15, hs⟩ := bd hs
  refine ro_gI F M fg_10_4 t_44 g_v15 dX10_nextWord_61 ?_
  refine lv_isub hx hb dX10_nextWord_64 ?_
  obtain ⟨h16, g_h16, hs⟩ := bd hs
  refine ro_pI F M fg_10_5 fp_10_5 rfl t_45 g_h16 dX10_nextWord_65 (fun H locs M => ?_)
  refine lv_aload_n hx hb dX10_nextWord_68 rfl (lv_at hl 0 rfl) ?_
  refine lv_iload_n hx hb dX10_nextWord_69 rfl (lv_at hl 1 rfl) ?_
  obtain ⟨h17, g_h17, hs⟩ := bd hs
  refine ro_pI F M fg_10_2 fp_10_2 rfl t_40 g_h17 dX10_nextWord_70 (fun H locs M => ?_)
  refine lv_aload_n hx hb dX10_nextWord_73 rfl (lv_at hl 0 rfl) ?_
  obtain ⟨v18, g_v18, hs⟩ := bd hs
  refine ro_gI F M fg_10_5 t_45 g_v18 dX10_nextWord_74 ?_
  obtain ⟨q20, hsq20, hs⟩ := bd hs
  have KJ85 : ∀ (ls : Array Slot) (H : Heap) (locs : List Loc), lv_has ls 2 [] → Mo D cy A H0 h17 H locs → W p l e rm_X10_nextWord s m args below meth c H locs 0 0 (MQ below (QR D cy qF.2 A (some (.int qF.1))) args s 0 0 A) (F0 m 85 ls [.int q20]) := by
    intro ls H locs hl M
    by_cases zg : q20 = 0 ∨ q20 = 1
    · rw [if_pos zg] at hs
      obtain rfl := Option.some.inj hs
      exact re_z F M zg dX10_nextWord_85
    · rw [if_neg zg] at hs; cases hs
  clear hs
  have hs := hsq20
  refine lv_if_le (tgt := 84) hx hb dX10_nextWord_77 (by decide) (fun c19 => ?_) (fun c19 => ?_)
  · rw [if_pos c19] at hs
    refine lv_iconst (v := 0) hx hb dX10_nextWord_84 (by decide) ?_
    obtain rfl := Option.some.inj hs
    exact KJ85 _ _ _ (lv_sub hl [] rfl) M
  · rw [if_neg c19] at hs
    refine lv_iconst (v := 1) hx hb dX10_nextWord_80 (by decide) ?_
    refine lv_goto (tgt := 85) hx hb dX10_nextWord_81 (by decide) ?_
    obtain rfl := Option.some.inj hs
    exact KJ85 _ _ _ (lv_sub hl [] rfl) M
abbrev rm_X10_wordAsNumber : Room := { frames := 1, cells := 0, slots := 0, locals := 21 }
theorem mf_X10_wordAsNumber : MV 10 yX10_wordAsNumber cX10_wordAsNumber 6 (some .long) 1 RX10 := ⟨t_559, t_558, tS_15, t_2, ⟨by decide +kernel, by decide +kernel, by decide +kernel⟩, rfl, by decide⟩
def s_X10_wordAsNumber_L25 (N : Nat) : Nat → Nat → Int64 → Int32 → IH → Option ((Int64) ⊕ (Int64))
  | 0, _, _, _, _ => none
  | n + 1, th, x2, x4, h => (gI h 10 5 (some th)).bind fun v5 => if v5 ≤ x4 then some (.inr x2) else (gI h 10 4 (some th)).bind fun v7 => (cV h 10 (some th) fun a11 => s_X10_byteAt h a11 (v7 + x4)).bind fun v8 => (s_X10_isDigit h v8).bind fun v9 => if v9 = 0 then some (.inl (-1)) else s_X10_wordAsNumber_L25 N n th ((10 * x2) + ((v8 - 48).toInt64)) (x4 + 1) h
def s_X10_wordAsNumber (N : Nat) (h : IH) (th : Nat) (a0 : Int32) : Option (Int64) := (gI h 10 5 (some th)).bind fun v1 => if v1 < 1 then some (-1) else (gI h 10 5 (some th)).bind fun v3 => if v3 ≤ a0 then (s_X10_wordAsNumber_L25 N N th 0 0 h).bind fun q12 => Sum.elim (fun v => some v) (fun t13 => some t13) q12 else some (-1)
set_option maxHeartbeats 4000000 in
set_option maxRecDepth 100000 in
theorem w_X10_wordAsNumber_L25 {p : Program} {l : Launch} {e : Env} {s : State} {m : MethodId} {args : Array Value} {below : List Frame} {meth : Method} {c : Code} {D : va_G} {cy : Nat → ClassId} {A : Nat → Prop} {H0 : Heap} {N th : Nat} {h : IH} {qF : Int64} (F : Fx p s m args meth c D cy A H0 yX10_wordAsNumber cX10_wordAsNumber 6 (some .long)) : ∀ (n : Nat) (x2 : Int64) (x4 : Int32) (ls : Array Slot) (H : Heap) (locs : List Loc) (q : (Int64) ⊕ (Int64)), s_X10_wordAsNumber_L25 N n th x2 x4 h = some q → lv_has ls 6 [(0, .ref th), (2, .long x2), (4, .int x4)] → Mo D cy A H0 h H locs → (∀ (t : Int64) (ls : Array Slot) (H : Heap) (locs : List Loc), q = .inr t → lv_has ls 6 [(2, .long t)] → Mo D cy A H0 h H locs → W p l e rm_X10_wordAsNumber s m args below meth c H locs 0 0 (MQ below (QR D cy h A (some (.long qF))) args s 0 0 A) (F0 m 78 ls [])) → (∀ v, q = .inl v → v = qF) → W p l e rm_X10_wordAsNumber s m args below meth c H locs 0 0 (MQ below (QR D cy h A (some (.long qF))) args s 0 0 A) (F0 m 25 ls []) := by
  intro n
  induction n with
  | zero => intro x2 x4 ls H locs q hs; rw [s_X10_wordAsNumber_L25.eq_1] at hs; cases hs
  | succ n ih =>
    intro x2 x4 ls H locs q hs hl M kx kr
    obtain ⟨hx, hb, hr, hml, hown, hlk, hts, hK, hN, hA, hH⟩ := id F
    rw [s_X10_wordAsNumber_L25.eq_2] at hs
    refine lv_iload hx hb dX10_wordAsNumber_25 (lv_at hl 2 rfl) ?_
    refine lv_aload_n hx hb dX10_wordAsNumber_27 rfl (lv_at hl 0 rfl) ?_
    obtain ⟨v5, g_v5, hs⟩ := bd hs
    refine ro_gI F M fg_10_5 t_45 g_v5 dX10_wordAsNumber_28 ?_
    refine lv_icmp_ge (tgt := 78) hx hb dX10_wordAsNumber_31 (by decide) (fun c6 => ?_) (fun c6 => ?_)
    · rw [if_pos c6] at hs
      exact kx x2 _ _ _ (Option.some.inj hs).symm (lv_sub hl [1] rfl) M
    · rw [if_neg c6] at hs
      refine lv_aload_n hx hb dX10_wordAsNumber_34 rfl (lv_at hl 0 rfl) ?_
      refine lv_aload_n hx hb dX10_wordAsNumber_35 rfl (lv_at hl 0 rfl) ?_
      obtain ⟨v7, g_v7, hs⟩ := bd hs
      refine ro_gI F M fg_10_4 t_44 g_v7 dX10_wordAsNumber_36 ?_
      refine lv_iload hx hb dX10_wordAsNumber_39 (lv_at hl 2 rfl) ?_
      refine lv_iadd hx hb dX10_wordAsNumber_41 ?_
      obtain ⟨v8, g_v8, hs⟩ := bd hs
      obtain ⟨a11, e_a11, k_a11, g_v8⟩ := cV_some g_v8
      obtain rfl := Option.some.inj e_a11
      refine ca_Vi (bq := th) (As := [.int (v7 + x4)]) (rest := []) F M (c_X10_byteAt g_v8) mf_X10_byteAt t_397 k_a11 rfl ⟨by decide, by decide⟩ ⟨rfl, rfl⟩ ⟨Nat.zero_le _, Nat.zero_le _⟩ hl.1 rfl (by decide) dX10_wordAsNumber_42 (fun H locs M => ?_)
      refine lv_istore (i := 5) (lv' := [(5, .int v8), (0, .ref th), (2, .long x2), (4, .int x4)]) hx hb dX10_wordAsNumber_45 hl (by decide) rfl (fun ls hl => ?_)
      refine lv_iload hx hb dX10_wordAsNumber_47 (lv_at hl 0 rfl) ?_
      obtain ⟨v9, g_v9, hs⟩ := bd hs
      refine ca_Si (As := [.int v8]) (rest := []) F M (c_X10_isDigit g_v9) mf_X10_isDigit t_401 rfl ⟨by decide, by decide⟩ ⟨rfl, rfl⟩ ⟨Nat.zero_le _, Nat.zero_le _⟩ hl.1 rfl (by decide) dX10_wordAsNumber_49 (fun H locs M => ?_)
      refine lv_if_ne (tgt := 59) hx hb dX10_wordAsNumber_52 (by decide) (fun c10 => ?_) (fun c10 => ?_)
      · rw [if_neg c10] at hs
        refine lv_ldc2 (v := 10) hx hb hown (hts _ (List.mem_cons_of_mem _ t_561)) dX10_wordAsNumber_59 ?_
        refine lv_lload_n hx hb dX10_wordAsNumber_62 rfl (lv_at hl 2 rfl) ?_
        refine lv_lmul hx hb dX10_wordAsNumber_63 ?_
        refine lv_iload hx hb dX10_wordAsNumber_64 (lv_at hl 0 rfl) ?_
        refine lv_bipush (v := 48) hx hb dX10_wordAsNumber_66 (by decide) ?_
        refine lv_isub hx hb dX10_wordAsNumber_68 ?_
        refine lv_i2l hx hb dX10_wordAsNumber_69 rfl ?_
        refine lv_ladd hx hb dX10_wordAsNumber_70 ?_
        refine lv_lstore_n (i := 2) (lv' := [(2, .long ((10 * x2) + ((v8 - 48).toInt64))), (5, .int v8), (0, .ref th), (4, .int x4)]) hx hb dX10_wordAsNumber_71 rfl hl (by decide) rfl (fun ls hl => ?_)
        refine lv_iinc (v := x4 + 1) (lv' := [(4, .int (x4 + 1)), (2, .long ((10 * x2) + ((v8 - 48).toInt64))), (5, .int v8), (0, .ref th)]) hx hb dX10_wordAsNumber_72 hl (k := 3) rfl rfl (by decide) rfl (fun ls hl => ?_)
        refine lv_goto (tgt := 25) hx hb dX10_wordAsNumber_75 (by decide) ?_
        exact ih ((10 * x2) + ((v8 - 48).toInt64)) (x4 + 1) _ _ _ _ hs (lv_sub hl [3, 1, 0] rfl) M kx kr
      · rw [if_pos c10] at hs
        refine lv_ldc2 (v := (-1)) hx hb hown (hts _ (List.mem_cons_of_mem _ t_560)) dX10_wordAsNumber_55 ?_
        obtain rfl := kr _ (Option.some.inj hs).symm
        exact re_l F M dX10_wordAsNumber_58
set_option maxHeartbeats 4000000 in
set_option maxRecDepth 100000 in
theorem c_X10_wordAsNumber {l : Launch} {D : va_G} {cy : Nat → ClassId} {sz N : Nat} {h : IH} {th : Nat} {a0 : Int32} {qF : Int64} (hs : s_X10_wordAsNumber N h th a0 = some qF) : Ct l D cy yX10_wordAsNumber cX10_wordAsNumber 6 (some .long) rm_X10_wordAsNumber h sz [.ref th, .int a0] h (some (.long qF)) := by
  refine ct_start (by decide +kernel) [(0, .ref th), (1, .int a0)] (Nat.le_of_ble_eq_true rfl) rfl ?_
  intro p e s m args below meth c A H0 ls F hin hsz M hl
  obtain ⟨hx, hb, hr, hml, hown, hlk, hts, hK, hN, hA, hH⟩ := id F
  generalize s.heap = H at M ⊢
  generalize ([] : List Loc) = locs at M ⊢
  unfold s_X10_wordAsNumber at hs
  refine lv_aload_n hx hb dX10_wordAsNumber_0 rfl (lv_at hl 0 rfl) ?_
  obtain ⟨v1, g_v1, hs⟩ := bd hs
  refine ro_gI F M fg_10_5 t_45 g_v1 dX10_wordAsNumber_1 ?_
  refine lv_iconst (v := 1) hx hb dX10_wordAsNumber_4 (by decide) ?_
  refine lv_icmp_lt (tgt := 16) hx hb dX10_wordAsNumber_5 (by decide) (fun c2 => ?_) (fun c2 => ?_)
  · rw [if_pos c2] at hs
    refine lv_ldc2 (v := (-1)) hx hb hown (hts _ (List.mem_cons_of_mem _ t_560)) dX10_wordAsNumber_16 ?_
    obtain rfl := Option.some.inj hs
    exact re_l F M dX10_wordAsNumber_19
  · rw [if_neg c2] at hs
    refine lv_aload_n hx hb dX10_wordAsNumber_8 rfl (lv_at hl 0 rfl) ?_
    obtain ⟨v3, g_v3, hs⟩ := bd hs
    refine ro_gI F M fg_10_5 t_45 g_v3 dX10_wordAsNumber_9 ?_
    refine lv_iload_n hx hb dX10_wordAsNumber_12 rfl (lv_at hl 1 rfl) ?_
    refine lv_icmp_le (tgt := 20) hx hb dX10_wordAsNumber_13 (by decide) (fun c4 => ?_) (fun c4 => ?_)
    · rw [if_pos c4] at hs
      refine lv_lconst (v := 0) hx hb dX10_wordAsNumber_20 (by decide) ?_
      refine lv_lstore_n (i := 2) (lv' := [(2, .long 0), (0, .ref th), (1, .int a0)]) hx hb dX10_wordAsNumber_21 rfl hl (by decide) rfl (fun ls hl => ?_)
      refine lv_iconst (v := 0) hx hb dX10_wordAsNumber_22 (by decide) ?_
      refine lv_istore (i := 4) (lv' := [(4, .int 0), (2, .long 0), (0, .ref th), (1, .int a0)]) hx hb dX10_wordAsNumber_23 hl (by decide) rfl (fun ls hl => ?_)
      obtain ⟨q12, g_q12, hs⟩ := bd hs
      refine w_X10_wordAsNumber_L25 F N 0 0 _ _ _ q12 g_q12 (lv_sub hl [2, 1, 0] rfl) M (fun t13 ls H locs eq_ hl M => ?_) (fun v eq_ => ?_)
      · subst eq_
        have hs := se_r hs
        refine lv_lload_n hx hb dX10_wordAsNumber_78 rfl (lv_at hl 0 rfl) ?_
        obtain rfl := Option.some.inj hs
        exact re_l F M dX10_wordAsNumber_79
      · subst eq_
        have hs := se_l hs
        exact (Option.some.inj hs)
    · rw [if_neg c4] at hs
      refine lv_ldc2 (v := (-1)) hx hb hown (hts _ (List.mem_cons_of_mem _ t_560)) dX10_wordAsNumber_16 ?_
      obtain rfl := Option.some.inj hs
      exact re_l F M dX10_wordAsNumber_19
abbrev rm_X5_readMoment : Room := { frames := 2, cells := 0, slots := 0, locals := 46 }
theorem mf_X5_readMoment : MV 5 yX5_readMoment cX5_readMoment 1 (some .boolean) 0 RX5 := ⟨t_555, t_554, tS_14, t_4, ⟨by decide +kernel, by decide +kernel, by decide +kernel⟩, rfl, by decide⟩
def s_X5_readMoment (N : Nat) (h : IH) (th : Nat) : Option (Int32 × IH) := (gR h 5 0 (some th)).bind fun v1 => (cV h 10 v1 fun a12 => s_X10_nextWord N h a12 ).bind fun v2 => (gR v2.2 5 1 (some th)).bind fun v3 => (gR v2.2 5 0 (some th)).bind fun v4 => (cV v2.2 10 v4 fun a11 => s_X10_wordAsNumber N v2.2 a11 10).bind fun v5 => (pL v2.2 2 1 v3 v5).bind fun h6 => (gR h6 5 1 (some th)).bind fun v7 => (gL h6 2 1 v7).bind fun v8 => ((if (lg_cmp v8 (-1)) = 0 then some 0 else some 1) : Option (Int32)).bind fun q10 => if q10 = 0 ∨ q10 = 1 then some (q10, h6) else none
set_option maxHeartbeats 4000000 in
set_option maxRecDepth 100000 in
theorem c_X5_readMoment {l : Launch} {D : va_G} {cy : Nat → ClassId} {sz N : Nat} {h : IH} {th : Nat} {qF : Int32 × IH} (hs : s_X5_readMoment N h th = some qF) : Ct l D cy yX5_readMoment cX5_readMoment 1 (some .boolean) rm_X5_readMoment h sz [.ref th] qF.2 (some (.int qF.1)) := by
  refine ct_start (by decide +kernel) [(0, .ref th)] (Nat.le_of_ble_eq_true rfl) rfl ?_
  intro p e s m args below meth c A H0 ls F hin hsz M hl
  obtain ⟨hx, hb, hr, hml, hown, hlk, hts, hK, hN, hA, hH⟩ := id F
  generalize s.heap = H at M ⊢
  generalize ([] : List Loc) = locs at M ⊢
  unfold s_X5_readMoment at hs
  refine lv_aload_n hx hb dX5_readMoment_0 rfl (lv_at hl 0 rfl) ?_
  obtain ⟨v1, g_v1, hs⟩ := bd hs
  refine ro_gR F M fg_5_0 t_185 g_v1 dX5_readMoment_1 ?_
  obtain ⟨v2, g_v2, hs⟩ := bd hs
  obtain ⟨a12, e_a12, k_a12, g_v2⟩ := cV_some g_v2
  refine ca_VNi (bq := a12) (As := []) (rest := []) F M (c_X10_nextWord g_v2) mf_X10_nextWord tN_491 k_a12 rfl ⟨by decide, by decide⟩ ⟨rfl, rfl⟩ ⟨Nat.zero_le _, Nat.zero_le _⟩ hl.1 (by rw [e_a12]; rfl) (by decide) dX5_readMoment_4 (fun H locs M => ?_)
  refine lv_pop hx hb dX5_readMoment_7 rfl ?_
  refine lv_aload_n hx hb dX5_readMoment_8 rfl (lv_at hl 0 rfl) ?_
  obtain ⟨v3, g_v3, hs⟩ := bd hs
  refine ro_gR F M fg_5_1 t_186 g_v3 dX5_readMoment_9 ?_
  refine lv_aload_n hx hb dX5_readMoment_12 rfl (lv_at hl 0 rfl) ?_
  obtain ⟨v4, g_v4, hs⟩ := bd hs
  refine ro_gR F M fg_5_0 t_185 g_v4 dX5_readMoment_13 ?_
  refine lv_bipush (v := 10) hx hb dX5_readMoment_16 (by decide) ?_
  obtain ⟨v5, g_v5, hs⟩ := bd hs
  obtain ⟨a11, e_a11, k_a11, g_v5⟩ := cV_some g_v5
  refine ca_VNl (bq := a11) (As := [.int 10]) (rest := [va_rf v3]) F M (c_X10_wordAsNumber g_v5) mf_X10_wordAsNumber tN_556 k_a11 rfl ⟨by decide, by decide⟩ ⟨rfl, rfl⟩ ⟨Nat.zero_le _, Nat.zero_le _⟩ hl.1 (by rw [e_a11]; rfl) (by simp [cat_rf, cat_i, cat_j, cat_r]) dX5_readMoment_18 (fun H locs M => ?_)
  obtain ⟨h6, g_h6, hs⟩ := bd hs
  refine ro_pLN F M fg_2_1 fp_2_1 rfl tN_97 g_h6 dX5_readMoment_21 (fun H locs M => ?_)
  refine lv_aload_n hx hb dX5_readMoment_24 rfl (lv_at hl 0 rfl) ?_
  obtain ⟨v7, g_v7, hs⟩ := bd hs
  refine ro_gR F M fg_5_1 t_186 g_v7 dX5_readMoment_25 ?_
  obtain ⟨v8, g_v8, hs⟩ := bd hs
  refine ro_gLN F M fg_2_1 tN_97 g_v8 dX5_readMoment_28 ?_
  refine lv_ldc2 (v := (-1)) hx hb hown (hts _ (List.mem_cons_of_mem _ t_562)) dX5_readMoment_31 ?_
  refine W.lcmp hx hb dX5_readMoment_34 ?_
  obtain ⟨q10, hsq10, hs⟩ := bd hs
  have KJ43 : ∀ (ls : Array Slot) (H : Heap) (locs : List Loc), lv_has ls 1 [] → Mo D cy A H0 h6 H locs → W p l e rm_X5_readMoment s m args below meth c H locs 0 0 (MQ below (QR D cy qF.2 A (some (.int qF.1))) args s 0 0 A) (F0 m 43 ls [.int q10]) := by
    intro ls H locs hl M
    by_cases zg : q10 = 0 ∨ q10 = 1
    · rw [if_pos zg] at hs
      obtain rfl := Option.some.inj hs
      exact re_z F M zg dX5_readMoment_43
    · rw [if_neg zg] at hs; cases hs
  clear hs
  have hs := hsq10
  refine lv_if_eq (tgt := 42) hx hb dX5_readMoment_35 (by decide) (fun c9 => ?_) (fun c9 => ?_)
  · rw [if_pos c9] at hs
    refine lv_iconst (v := 0) hx hb dX5_readMoment_42 (by decide) ?_
    obtain rfl := Option.some.inj hs
    exact KJ43 _ _ _ (lv_sub hl [] rfl) M
  · rw [if_neg c9] at hs
    refine lv_iconst (v := 1) hx hb dX5_readMoment_38 (by decide) ?_
    refine lv_goto (tgt := 43) hx hb dX5_readMoment_39 (by decide) ?_
    obtain rfl := Option.some.inj hs
    exact KJ43 _ _ _ (lv_sub hl [] rfl) M
abbrev rm_X10_wordAsCall : Room := { frames := 2, cells := 0, slots := 0, locals := 47 }
theorem mf_X10_wordAsCall : MV 10 yX10_wordAsCall cX10_wordAsCall 1 (some .long) 0 RX10 := ⟨t_566, t_565, tS_16, t_2, ⟨by decide +kernel, by decide +kernel, by decide +kernel⟩, rfl, by decide⟩
def s_X10_wordAsCall (N : Nat) (h : IH) (th : Nat) : Option (Int64) := (gI h 10 4 (some th)).bind fun v1 => (gI h 10 4 (some th)).bind fun v2 => (gI h 10 5 (some th)).bind fun v3 => (cV h 10 (some th) fun a5 => s_X10_callBetween N h a5 v1 (v2 + v3)).bind fun v4 => some v4
set_option maxHeartbeats 4000000 in
set_option maxRecDepth 100000 in
theorem c_X10_wordAsCall {l : Launch} {D : va_G} {cy : Nat → ClassId} {sz N : Nat} {h : IH} {th : Nat} {qF : Int64} (hs : s_X10_wordAsCall N h th = some qF) : Ct l D cy yX10_wordAsCall cX10_wordAsCall 1 (some .long) rm_X10_wordAsCall h sz [.ref th] h (some (.long qF)) := by
  refine ct_start (by decide +kernel) [(0, .ref th)] (Nat.le_of_ble_eq_true rfl) rfl ?_
  intro p e s m args below meth c A H0 ls F hin hsz M hl
  obtain ⟨hx, hb, hr, hml, hown, hlk, hts, hK, hN, hA, hH⟩ := id F
  generalize s.heap = H at M ⊢
  generalize ([] : List Loc) = locs at M ⊢
  unfold s_X10_wordAsCall at hs
  refine lv_aload_n hx hb dX10_wordAsCall_0 rfl (lv_at hl 0 rfl) ?_
  refine lv_aload_n hx hb dX10_wordAsCall_1 rfl (lv_at hl 0 rfl) ?_
  obtain ⟨v1, g_v1, hs⟩ := bd hs
  refine ro_gI F M fg_10_4 t_44 g_v1 dX10_wordAsCall_2 ?_
  refine lv_aload_n hx hb dX10_wordAsCall_5 rfl (lv_at hl 0 rfl) ?_
  obtain ⟨v2, g_v2, hs⟩ := bd hs
  refine ro_gI F M fg_10_4 t_44 g_v2 dX10_wordAsCall_6 ?_
  refine lv_aload_n hx hb dX10_wordAsCall_9 rfl (lv_at hl 0 rfl) ?_
  obtain ⟨v3, g_v3, hs⟩ := bd hs
  refine ro_gI F M fg_10_5 t_45 g_v3 dX10_wordAsCall_10 ?_
  refine lv_iadd hx hb dX10_wordAsCall_13 ?_
  obtain ⟨v4, g_v4, hs⟩ := bd hs
  obtain ⟨a5, e_a5, k_a5, g_v4⟩ := cV_some g_v4
  obtain rfl := Option.some.inj e_a5
  refine ca_Vl (bq := th) (As := [.int v1, .int (v2 + v3)]) (rest := []) F M (c_X10_callBetween g_v4) mf_X10_callBetween t_567 k_a5 rfl ⟨by decide, by decide⟩ ⟨rfl, rfl⟩ ⟨Nat.zero_le _, Nat.zero_le _⟩ hl.1 rfl (by decide) dX10_wordAsCall_14 (fun H locs M => ?_)
  obtain rfl := Option.some.inj hs
  exact re_l F M dX10_wordAsCall_17
abbrev rm_X5_readContact : Room := { frames := 3, cells := 0, slots := 0, locals := 67 }
theorem mf_X5_readContact : MV 5 yX5_readContact cX5_readContact 1 (some .boolean) 0 RX5 := ⟨t_551, t_550, tS_13, t_4, ⟨by decide +kernel, by decide +kernel, by decide +kernel⟩, rfl, by decide⟩
def s_X5_readContact (N : Nat) (h : IH) (th : Nat) : Option (Int32 × IH) := (gR h 5 1 (some th)).bind fun v1 => (pI h 2 4 v1 (-1)).bind fun h2 => (gR h2 5 1 (some th)).bind fun v3 => (pI h2 2 5 v3 (-1)).bind fun h4 => (cV h4 5 (some th) fun a47 => s_X5_readMoment N h4 a47 ).bind fun v5 => if v5.1 = 0 then some (0, v5.2) else (gR v5.2 5 0 (some th)).bind fun v7 => (cV v5.2 10 v7 fun a46 => s_X10_nextWord N v5.2 a46 ).bind fun v8 => (gR v8.2 5 1 (some th)).bind fun v9 => (gR v8.2 5 0 (some th)).bind fun v10 => (cV v8.2 10 v10 fun a45 => s_X10_wordAsCall N v8.2 a45 ).bind fun v11 => (pL v8.2 2 3 v9 v11).bind fun h12 => (gR h12 5 1 (some th)).bind fun v13 => (gL h12 2 3 v13).bind fun v14 => if (lg_cmp v14 0) = 0 then some (0, h12) else (gR h12 5 0 (some th)).bind fun v16 => (cV h12 10 v16 fun a44 => s_X10_nextWord N h12 a44 ).bind fun v17 => if v17.1 = 0 then some (1, v17.2) else (gR v17.2 5 1 (some th)).bind fun v19 => (gR v17.2 5 0 (some th)).bind fun v20 => (cV v17.2 10 v20 fun a43 => s_X10_wordAsNumber N v17.2 a43 5).bind fun v21 => (pI v17.2 2 4 v19 v21.toInt32).bind fun h22 => (gR h22 5 1 (some th)).bind fun v23 => (gI h22 2 4 v23).bind fun v24 => if v24 = (-1) then some (0, h22) else (gR h22 5 0 (some th)).bind fun v26 => (cV h22 10 v26 fun a42 => s_X10_nextWord N h22 a42 ).bind fun v27 => if v27.1 = 0 then some (1, v27.2) else (gR v27.2 5 1 (some th)).bind fun v29 => (gR v27.2 5 0 (some th)).bind fun v30 => (cV v27.2 10 v30 fun a41 => s_X10_wordAsNumber N v27.2 a41 5).bind fun v31 => (pI v27.2 2 5 v29 v31.toInt32).bind fun h32 => (gR h32 5 1 (some th)).bind fun v33 => (gI h32 2 5 v33).bind fun v34 => ((if v34 = (-1) then some (0, h32) else (gR h32 5 0 (some th)).bind fun v36 => (cV h32 10 v36 fun a39 => s_X10_nextWord N h32 a39 ).bind fun v37 => if v37.1 = 0 then some (1, v37.2) else some (0, v37.2)) : Option (Int32 × IH)).bind fun q40 => if q40.1 = 0 ∨ q40.1 = 1 then some (q40.1, q40.2) else none
set_option maxHeartbeats 4000000 in
set_option maxRecDepth 100000 in
theorem c_X5_readContact {l : Launch} {D : va_G} {cy : Nat → ClassId} {sz N : Nat} {h : IH} {th : Nat} {qF : Int32 × IH} (hs : s_X5_readContact N h th = some qF) : Ct l D cy yX5_readContact cX5_readContact 1 (some .boolean) rm_X5_readContact h sz [.ref th] qF.2 (some (.int qF.1)) := by
  refine ct_start (by decide +kernel) [(0, .ref th)] (Nat.le_of_ble_eq_true rfl) rfl ?_
  intro p e s m args below meth c A H0 ls F hin hsz M hl
  obtain ⟨hx, hb, hr, hml, hown, hlk, hts, hK, hN, hA, hH⟩ := id F
  generalize s.heap = H at M ⊢
  generalize ([] : List Loc) = locs at M ⊢
  unfold s_X5_readContact at hs
  refine lv_aload_n hx hb dX5_readContact_0 rfl (lv_at hl 0 rfl) ?_
  obtain ⟨v1, g_v1, hs⟩ := bd hs
  refine ro_gR F M fg_5_1 t_186 g_v1 dX5_readContact_1 ?_
  refine lv_iconst (v := (-1)) hx hb dX5_readContact_4 (by decide) ?_
  obtain ⟨h2, g_h2, hs⟩ := bd hs
  refine ro_pIN F M fg_2_4 fp_2_4 rfl tN_110 g_h2 dX5_readContact_5 (fun H locs M => ?_)
  refine lv_aload_n hx hb dX5_readContact_8 rfl (lv_at hl 0 rfl) ?_
  obtain ⟨v3, g_v3, hs⟩ := bd hs
  refine ro_gR F M fg_5_1 t_186 g_v3 dX5_readContact_9 ?_
  refine lv_iconst (v := (-1)) hx hb dX5_readContact_12 (by decide) ?_
  obtain ⟨h4, g_h4, hs⟩ := bd hs
  refine ro_pIN F M fg_2_5 fp_2_5 rfl tN_114 g_h4 dX5_readContact_13 (fun H locs M => ?_)
  refine lv_aload_n hx hb dX5_readContact_16 rfl (lv_at hl 0 rfl) ?_
  obtain ⟨v5, g_v5, hs⟩ := bd hs
  obtain ⟨a47, e_a47, k_a47, g_v5⟩ := cV_some g_v5
  obtain rfl := Option.some.inj e_a47
  refine ca_Vi (bq := th) (As := []) (rest := []) F M (c_X5_readMoment g_v5) mf_X5_readMoment t_552 k_a47 rfl ⟨by decide, by decide⟩ ⟨rfl, rfl⟩ ⟨Nat.zero_le _, Nat.zero_le _⟩ hl.1 rfl (by decide) dX5_readContact_17 (fun H locs M => ?_)
  refine lv_if_ne (tgt := 25) hx hb dX5_readContact_20 (by decide) (fun c6 => ?_) (fun c6 => ?_)
  · rw [if_neg c6] at hs
    refine lv_aload_n hx hb dX5_readContact_25 rfl (lv_at hl 0 rfl) ?_
    obtain ⟨v7, g_v7, hs⟩ := bd hs
    refine ro_gR F M fg_5_0 t_185 g_v7 dX5_readContact_26 ?_
    obtain ⟨v8, g_v8, hs⟩ := bd hs
    obtain ⟨a46, e_a46, k_a46, g_v8⟩ := cV_some g_v8
    refine ca_VNi (bq := a46) (As := []) (rest := []) F M (c_X10_nextWord g_v8) mf_X10_nextWord tN_491 k_a46 rfl ⟨by decide, by decide⟩ ⟨rfl, rfl⟩ ⟨Nat.zero_le _, Nat.zero_le _⟩ hl.1 (by rw [e_a46]; rfl) (by decide) dX5_readContact_29 (fun H locs M => ?_)
    refine lv_pop hx hb dX5_readContact_32 rfl ?_
    refine lv_aload_n hx hb dX5_readContact_33 rfl (lv_at hl 0 rfl) ?_
    obtain ⟨v9, g_v9, hs⟩ := bd hs
    refine ro_gR F M fg_5_1 t_186 g_v9 dX5_readContact_34 ?_
    refine lv_aload_n hx hb dX5_readContact_37 rfl (lv_at hl 0 rfl) ?_
    obtain ⟨v10, g_v10, hs⟩ := bd hs
    refine ro_gR F M fg_5_0 t_185 g_v10 dX5_readContact_38 ?_
    obtain ⟨v11, g_v11, hs⟩ := bd hs
    obtain ⟨a45, e_a45, k_a45, g_v11⟩ := cV_some g_v11
    refine ca_VNl (bq := a45) (As := []) (rest := [va_rf v9]) F M (c_X10_wordAsCall g_v11) mf_X10_wordAsCall tN_563 k_a45 rfl ⟨by decide, by decide⟩ ⟨rfl, rfl⟩ ⟨Nat.zero_le _, Nat.zero_le _⟩ hl.1 (by rw [e_a45]; rfl) (by simp [cat_rf, cat_i, cat_j, cat_r]) dX5_readContact_41 (fun H locs M => ?_)
    obtain ⟨h12, g_h12, hs⟩ := bd hs
    refine ro_pLN F M fg_2_3 fp_2_3 rfl tN_107 g_h12 dX5_readContact_44 (fun H locs M => ?_)
    refine lv_aload_n hx hb dX5_readContact_47 rfl (lv_at hl 0 rfl) ?_
    obtain ⟨v13, g_v13, hs⟩ := bd hs
    refine ro_gR F M fg_5_1 t_186 g_v13 dX5_readContact_48 ?_
    obtain ⟨v14, g_v14, hs⟩ := bd hs
    refine ro_gLN F M fg_2_3 tN_107 g_v14 dX5_readContact_51 ?_
    refine lv_lconst (v := 0) hx hb dX5_readContact_54 (by decide) ?_
    refine W.lcmp hx hb dX5_readContact_55 ?_
    refine lv_if_ne (tgt := 61) hx hb dX5_readContact_56 (by decide) (fun c15 => ?_) (fun c15 => ?_)
    · rw [if_neg c15] at hs
      refine lv_aload_n hx hb dX5_readContact_61 rfl (lv_at hl 0 rfl) ?_
      obtain ⟨v16, g_v16, hs⟩ := bd hs
      refine ro_gR F M fg_5_0 t_185 g_v16 dX5_readContact_62 ?_
      obtain ⟨v17, g_v17, hs⟩ := bd hs
      obtain ⟨a44, e_a44, k_a44, g_v17⟩ := cV_some g_v17
      refine ca_VNi (bq := a44) (As := []) (rest := []) F M (c_X10_nextWord g_v17) mf_X10_nextWord tN_491 k_a44 rfl ⟨by decide, by decide⟩ ⟨rfl, rfl⟩ ⟨Nat.zero_le _, Nat.zero_le _⟩ hl.1 (by rw [e_a44]; rfl) (by decide) dX5_readContact_65 (fun H locs M => ?_)
      refine lv_if_ne (tgt := 73) hx hb dX5_readContact_68 (by decide) (fun c18 => ?_) (fun c18 => ?_)
      · rw [if_neg c18] at hs
        refine lv_aload_n hx hb dX5_readContact_73 rfl (lv_at hl 0 rfl) ?_
        obtain ⟨v19, g_v19, hs⟩ := bd hs
        refine ro_gR F M fg_5_1 t_186 g_v19 dX5_readContact_74 ?_
        refine lv_aload_n hx hb dX5_readContact_77 rfl (lv_at hl 0 rfl) ?_
        obtain ⟨v20, g_v20, hs⟩ := bd hs
        refine ro_gR F M fg_5_0 t_185 g_v20 dX5_readContact_78 ?_
        refine lv_iconst (v := 5) hx hb dX5_readContact_81 (by decide) ?_
        obtain ⟨v21, g_v21, hs⟩ := bd hs
        obtain ⟨a43, e_a43, k_a43, g_v21⟩ := cV_some g_v21
        refine ca_VNl (bq := a43) (As := [.int 5]) (rest := [va_rf v19]) F M (c_X10_wordAsNumber g_v21) mf_X10_wordAsNumber tN_556 k_a43 rfl ⟨by decide, by decide⟩ ⟨rfl, rfl⟩ ⟨Nat.zero_le _, Nat.zero_le _⟩ hl.1 (by rw [e_a43]; rfl) (by simp [cat_rf, cat_i, cat_j, cat_r]) dX5_readContact_82 (fun H locs M => ?_)
        refine lv_l2i hx hb dX5_readContact_85 rfl ?_
        obtain ⟨h22, g_h22, hs⟩ := bd hs
        refine ro_pIN F M fg_2_4 fp_2_4 rfl tN_110 g_h22 dX5_readContact_86 (fun H locs M => ?_)
        refine lv_aload_n hx hb dX5_readContact_89 rfl (lv_at hl 0 rfl) ?_
        obtain ⟨v23, g_v23, hs⟩ := bd hs
        refine ro_gR F M fg_5_1 t_186 g_v23 dX5_readContact_90 ?_
        obtain ⟨v24, g_v24, hs⟩ := bd hs
        refine ro_gIN F M fg_2_4 tN_110 g_v24 dX5_readContact_93 ?_
        refine lv_iconst (v := (-1)) hx hb dX5_readContact_96 (by decide) ?_
        refine lv_icmp_ne (tgt := 102) hx hb dX5_readContact_97 (by decide) (fun c25 => ?_) (fun c25 => ?_)
        · rw [if_neg c25] at hs
          refine lv_aload_n hx hb dX5_readContact_102 rfl (lv_at hl 0 rfl) ?_
          obtain ⟨v26, g_v26, hs⟩ := bd hs
          refine ro_gR F M fg_5_0 t_185 g_v26 dX5_readContact_103 ?_
          obtain ⟨v27, g_v27, hs⟩ := bd hs
          obtain ⟨a42, e_a42, k_a42, g_v27⟩ := cV_some g_v27
          refine ca_VNi (bq := a42) (As := []) (rest := []) F M (c_X10_nextWord g_v27) mf_X10_nextWord tN_491 k_a42 rfl ⟨by decide, by decide⟩ ⟨rfl, rfl⟩ ⟨Nat.zero_le _, Nat.zero_le _⟩ hl.1 (by rw [e_a42]; rfl) (by decide) dX5_readContact_106 (fun H locs M => ?_)
          refine lv_if_ne (tgt := 114) hx hb dX5_readContact_109 (by decide) (fun c28 => ?_) (fun c28 => ?_)
          · rw [if_neg c28] at hs
            refine lv_aload_n hx hb dX5_readContact_114 rfl (lv_at hl 0 rfl) ?_
            obtain ⟨v29, g_v29, hs⟩ := bd hs
            refine ro_gR F M fg_5_1 t_186 g_v29 dX5_readContact_115 ?_
            refine lv_aload_n hx hb dX5_readContact_118 rfl (lv_at hl 0 rfl) ?_
            obtain ⟨v30, g_v30, hs⟩ := bd hs
            refine ro_gR F M fg_5_0 t_185 g_v30 dX5_readContact_119 ?_
            refine lv_iconst (v := 5) hx hb dX5_readContact_122 (by decide) ?_
            obtain ⟨v31, g_v31, hs⟩ := bd hs
            obtain ⟨a41, e_a41, k_a41, g_v31⟩ := cV_some g_v31
            refine ca_VNl (bq := a41) (As := [.int 5]) (rest := [va_rf v29]) F M (c_X10_wordAsNumber g_v31) mf_X10_wordAsNumber tN_556 k_a41 rfl ⟨by decide, by decide⟩ ⟨rfl, rfl⟩ ⟨Nat.zero_le _, Nat.zero_le _⟩ hl.1 (by rw [e_a41]; rfl) (by simp [cat_rf, cat_i, cat_j, cat_r]) dX5_readContact_123 (fun H locs M => ?_)
            refine lv_l2i hx hb dX5_readContact_126 rfl ?_
            obtain ⟨h32, g_h32, hs⟩ := bd hs
            refine ro_pIN F M fg_2_5 fp_2_5 rfl tN_114 g_h32 dX5_readContact_127 (fun H locs M => ?_)
            refine lv_aload_n hx hb dX5_readContact_130 rfl (lv_at hl 0 rfl) ?_
            obtain ⟨v33, g_v33, hs⟩ := bd hs
            refine ro_gR F M fg_5_1 t_186 g_v33 dX5_readContact_131 ?_
            obtain ⟨v34, g_v34, hs⟩ := bd hs
            refine ro_gIN F M fg_2_5 tN_114 g_v34 dX5_readContact_134 ?_
            refine lv_iconst (v := (-1)) hx hb dX5_readContact_137 (by decide) ?_
            obtain ⟨q40, hsq40, hs⟩ := bd hs
            have KJ156 : ∀ (ls : Array Slot) (H : Heap) (locs : List Loc), lv_has ls 1 [] → Mo D cy A H0 q40.2 H locs → W p l e rm_X5_readContact s m args below meth c H locs 0 0 (MQ below (QR D cy qF.2 A (some (.int qF.1))) args s 0 0 A) (F0 m 156 ls [.int q40.1]) := by
              intro ls H locs hl M
              by_cases zg : q40.1 = 0 ∨ q40.1 = 1
              · rw [if_pos zg] at hs
                obtain rfl := Option.some.inj hs
                exact re_z F M zg dX5_readContact_156
              · rw [if_neg zg] at hs; cases hs
            clear hs
            have hs := hsq40
            refine lv_icmp_eq (tgt := 155) hx hb dX5_readContact_138 (by decide) (fun c35 => ?_) (fun c35 => ?_)
            · rw [if_pos c35] at hs
              refine lv_iconst (v := 0) hx hb dX5_readContact_155 (by decide) ?_
              obtain rfl := Option.some.inj hs
              exact KJ156 _ _ _ (lv_sub hl [] rfl) M
            · rw [if_neg c35] at hs
              refine lv_aload_n hx hb dX5_readContact_141 rfl (lv_at hl 0 rfl) ?_
              obtain ⟨v36, g_v36, hs⟩ := bd hs
              refine ro_gR F M fg_5_0 t_185 g_v36 dX5_readContact_142 ?_
              obtain ⟨v37, g_v37, hs⟩ := bd hs
              obtain ⟨a39, e_a39, k_a39, g_v37⟩ := cV_some g_v37
              refine ca_VNi (bq := a39) (As := []) (rest := []) F M (c_X10_nextWord g_v37) mf_X10_nextWord tN_491 k_a39 rfl ⟨by decide, by decide⟩ ⟨rfl, rfl⟩ ⟨Nat.zero_le _, Nat.zero_le _⟩ hl.1 (by rw [e_a39]; rfl) (by decide) dX5_readContact_145 (fun H locs M => ?_)
              refine lv_if_ne (tgt := 155) hx hb dX5_readContact_148 (by decide) (fun c38 => ?_) (fun c38 => ?_)
              · rw [if_neg c38] at hs
                refine lv_iconst (v := 0) hx hb dX5_readContact_155 (by decide) ?_
                obtain rfl := Option.some.inj hs
                exact KJ156 _ _ _ (lv_sub hl [] rfl) M
              · rw [if_pos c38] at hs
                refine lv_iconst (v := 1) hx hb dX5_readContact_151 (by decide) ?_
                refine lv_goto (tgt := 156) hx hb dX5_readContact_152 (by decide) ?_
                obtain rfl := Option.some.inj hs
                exact KJ156 _ _ _ (lv_sub hl [] rfl) M
          · rw [if_pos c28] at hs
            refine lv_iconst (v := 1) hx hb dX5_readContact_112 (by decide) ?_
            obtain rfl := Option.some.inj hs
            exact re_z F M (Or.inr rfl) dX5_readContact_113
        · rw [if_pos c25] at hs
          refine lv_iconst (v := 0) hx hb dX5_readContact_100 (by decide) ?_
          obtain rfl := Option.some.inj hs
          exact re_z F M (Or.inl rfl) dX5_readContact_101
      · rw [if_pos c18] at hs
        refine lv_iconst (v := 1) hx hb dX5_readContact_71 (by decide) ?_
        obtain rfl := Option.some.inj hs
        exact re_z F M (Or.inr rfl) dX5_readContact_72
    · rw [if_pos c15] at hs
      refine lv_iconst (v := 0) hx hb dX5_readContact_59 (by decide) ?_
      obtain rfl := Option.some.inj hs
      exact re_z F M (Or.inl rfl) dX5_readContact_60
  · rw [if_pos c6] at hs
    refine lv_iconst (v := 0) hx hb dX5_readContact_23 (by decide) ?_
    obtain rfl := Option.some.inj hs
    exact re_z F M (Or.inl rfl) dX5_readContact_24
abbrev rm_X5_readRest : Room := { frames := 3, cells := 0, slots := 0, locals := 66 }
theorem mf_X5_readRest : MV 5 yX5_readRest cX5_readRest 1 (some .boolean) 0 RX5 := ⟨t_572, t_571, tS_17, t_4, ⟨by decide +kernel, by decide +kernel, by decide +kernel⟩, rfl, by decide⟩
def s_X5_readRest (N : Nat) (h : IH) (th : Nat) : Option (Int32 × IH) := (cV h 5 (some th) fun a19 => s_X5_readMoment N h a19 ).bind fun v1 => if v1.1 = 0 then some (0, v1.2) else (gR v1.2 5 0 (some th)).bind fun v3 => (cV v1.2 10 v3 fun a18 => s_X10_nextWord N v1.2 a18 ).bind fun v4 => (gR v4.2 5 1 (some th)).bind fun v5 => (gR v4.2 5 0 (some th)).bind fun v6 => (cV v4.2 10 v6 fun a17 => s_X10_wordAsNumber N v4.2 a17 10).bind fun v7 => (pL v4.2 2 2 v5 v7).bind fun h8 => (gR h8 5 1 (some th)).bind fun v9 => (gL h8 2 2 v9).bind fun v10 => ((if (lg_cmp v10 (-1)) = 0 then some (0, h8) else (gR h8 5 0 (some th)).bind fun v12 => (cV h8 10 v12 fun a15 => s_X10_nextWord N h8 a15 ).bind fun v13 => if v13.1 = 0 then some (1, v13.2) else some (0, v13.2)) : Option (Int32 × IH)).bind fun q16 => if q16.1 = 0 ∨ q16.1 = 1 then some (q16.1, q16.2) else none
set_option maxHeartbeats 4000000 in
set_option maxRecDepth 100000 in
theorem c_X5_readRest {l : Launch} {D : va_G} {cy : Nat → ClassId} {sz N : Nat} {h : IH} {th : Nat} {qF : Int32 × IH} (hs : s_X5_readRest N h th = some qF) : Ct l D cy yX5_readRest cX5_readRest 1 (some .boolean) rm_X5_readRest h sz [.ref th] qF.2 (some (.int qF.1)) := by
  refine ct_start (by decide +kernel) [(0, .ref th)] (Nat.le_of_ble_eq_true rfl) rfl ?_
  intro p e s m args below meth c A H0 ls F hin hsz M hl
  obtain ⟨hx, hb, hr, hml, hown, hlk, hts, hK, hN, hA, hH⟩ := id F
  generalize s.heap = H at M ⊢
  generalize ([] : List Loc) = locs at M ⊢
  unfold s_X5_readRest at hs
  refine lv_aload_n hx hb dX5_readRest_0 rfl (lv_at hl 0 rfl) ?_
  obtain ⟨v1, g_v1, hs⟩ := bd hs
  obtain ⟨a19, e_a19, k_a19, g_v1⟩ := cV_some g_v1
  obtain rfl := Option.some.inj e_a19
  refine ca_Vi (bq := th) (As := []) (rest := []) F M (c_X5_readMoment g_v1) mf_X5_readMoment t_552 k_a19 rfl ⟨by decide, by decide⟩ ⟨rfl, rfl⟩ ⟨Nat.zero_le _, Nat.zero_le _⟩ hl.1 rfl (by decide) dX5_readRest_1 (fun H locs M => ?_)
  refine lv_if_ne (tgt := 9) hx hb dX5_readRest_4 (by decide) (fun c2 => ?_) (fun c2 => ?_)
  · rw [if_neg c2] at hs
    refine lv_aload_n hx hb dX5_readRest_9 rfl (lv_at hl 0 rfl) ?_
    obtain ⟨v3, g_v3, hs⟩ := bd hs
    refine ro_gR F M fg_5_0 t_185 g_v3 dX5_readRest_10 ?_
    obtain ⟨v4, g_v4, hs⟩ := bd hs
    obtain ⟨a18, e_a18, k_a18, g_v4⟩ := cV_some g_v4
    refine ca_VNi (bq := a18) (As := []) (rest := []) F M (c_X10_nextWord g_v4) mf_X10_nextWord tN_491 k_a18 rfl ⟨by decide, by decide⟩ ⟨rfl, rfl⟩ ⟨Nat.zero_le _, Nat.zero_le _⟩ hl.1 (by rw [e_a18]; rfl) (by decide) dX5_readRest_13 (fun H locs M => ?_)
    refine lv_pop hx hb dX5_readRest_16 rfl ?_
    refine lv_aload_n hx hb dX5_readRest_17 rfl (lv_at hl 0 rfl) ?_
    obtain ⟨v5, g_v5, hs⟩ := bd hs
    refine ro_gR F M fg_5_1 t_186 g_v5 dX5_readRest_18 ?_
    refine lv_aload_n hx hb dX5_readRest_21 rfl (lv_at hl 0 rfl) ?_
    obtain ⟨v6, g_v6, hs⟩ := bd hs
    refine ro_gR F M fg_5_0 t_185 g_v6 dX5_readRest_22 ?_
    refine lv_bipush (v := 10) hx hb dX5_readRest_25 (by decide) ?_
    obtain ⟨v7, g_v7, hs⟩ := bd hs
    obtain ⟨a17, e_a17, k_a17, g_v7⟩ := cV_some g_v7
    refine ca_VNl (bq := a17) (As := [.int 10]) (rest := [va_rf v5]) F M (c_X10_wordAsNumber g_v7) mf_X10_wordAsNumber tN_556 k_a17 rfl ⟨by decide, by decide⟩ ⟨rfl, rfl⟩ ⟨Nat.zero_le _, Nat.zero_le _⟩ hl.1 (by rw [e_a17]; rfl) (by simp [cat_rf, cat_i, cat_j, cat_r]) dX5_readRest_27 (fun H locs M => ?_)
    obtain ⟨h8, g_h8, hs⟩ := bd hs
    refine ro_pLN F M fg_2_2 fp_2_2 rfl tN_102 g_h8 dX5_readRest_30 (fun H locs M => ?_)
    refine lv_aload_n hx hb dX5_readRest_33 rfl (lv_at hl 0 rfl) ?_
    obtain ⟨v9, g_v9, hs⟩ := bd hs
    refine ro_gR F M fg_5_1 t_186 g_v9 dX5_readRest_34 ?_
    obtain ⟨v10, g_v10, hs⟩ := bd hs
    refine ro_gLN F M fg_2_2 tN_102 g_v10 dX5_readRest_37 ?_
    refine lv_ldc2 (v := (-1)) hx hb hown (hts _ (List.mem_cons_of_mem _ t_562)) dX5_readRest_40 ?_
    refine W.lcmp hx hb dX5_readRest_43 ?_
    obtain ⟨q16, hsq16, hs⟩ := bd hs
    have KJ62 : ∀ (ls : Array Slot) (H : Heap) (locs : List Loc), lv_has ls 1 [] → Mo D cy A H0 q16.2 H locs → W p l e rm_X5_readRest s m args below meth c H locs 0 0 (MQ below (QR D cy qF.2 A (some (.int qF.1))) args s 0 0 A) (F0 m 62 ls [.int q16.1]) := by
      intro ls H locs hl M
      by_cases zg : q16.1 = 0 ∨ q16.1 = 1
      · rw [if_pos zg] at hs
        obtain rfl := Option.some.inj hs
        exact re_z F M zg dX5_readRest_62
      · rw [if_neg zg] at hs; cases hs
    clear hs
    have hs := hsq16
    refine lv_if_eq (tgt := 61) hx hb dX5_readRest_44 (by decide) (fun c11 => ?_) (fun c11 => ?_)
    · rw [if_pos c11] at hs
      refine lv_iconst (v := 0) hx hb dX5_readRest_61 (by decide) ?_
      obtain rfl := Option.some.inj hs
      exact KJ62 _ _ _ (lv_sub hl [] rfl) M
    · rw [if_neg c11] at hs
      refine lv_aload_n hx hb dX5_readRest_47 rfl (lv_at hl 0 rfl) ?_
      obtain ⟨v12, g_v12, hs⟩ := bd hs
      refine ro_gR F M fg_5_0 t_185 g_v12 dX5_readRest_48 ?_
      obtain ⟨v13, g_v13, hs⟩ := bd hs
      obtain ⟨a15, e_a15, k_a15, g_v13⟩ := cV_some g_v13
      refine ca_VNi (bq := a15) (As := []) (rest := []) F M (c_X10_nextWord g_v13) mf_X10_nextWord tN_491 k_a15 rfl ⟨by decide, by decide⟩ ⟨rfl, rfl⟩ ⟨Nat.zero_le _, Nat.zero_le _⟩ hl.1 (by rw [e_a15]; rfl) (by decide) dX5_readRest_51 (fun H locs M => ?_)
      refine lv_if_ne (tgt := 61) hx hb dX5_readRest_54 (by decide) (fun c14 => ?_) (fun c14 => ?_)
      · rw [if_neg c14] at hs
        refine lv_iconst (v := 0) hx hb dX5_readRest_61 (by decide) ?_
        obtain rfl := Option.some.inj hs
        exact KJ62 _ _ _ (lv_sub hl [] rfl) M
      · rw [if_pos c14] at hs
        refine lv_iconst (v := 1) hx hb dX5_readRest_57 (by decide) ?_
        refine lv_goto (tgt := 62) hx hb dX5_readRest_58 (by decide) ?_
        obtain rfl := Option.some.inj hs
        exact KJ62 _ _ _ (lv_sub hl [] rfl) M
  · rw [if_pos c2] at hs
    refine lv_iconst (v := 0) hx hb dX5_readRest_7 (by decide) ?_
    obtain rfl := Option.some.inj hs
    exact re_z F M (Or.inl rfl) dX5_readRest_8
abbrev rm_X5_addWrong : Room := { frames := 0, cells := 0, slots := 0, locals := 0 }
theorem mf_X5_addWrong : MV 5 yX5_addWrong cX5_addWrong 2 none 1 RX5 := ⟨t_577, t_576, tS_18, t_4, ⟨by decide +kernel, by decide +kernel, by decide +kernel⟩, rfl, by decide⟩
def s_X5_addWrong (h : IH) (th : Nat) (a0 : Int32) : Option (IH) := (gI h 5 3 (some th)).bind fun v1 => (gR h 5 2 (some th)).bind fun v2 => (lnO h v2).bind fun v3 => ((if v3 ≤ v1 then some h else (gR h 5 2 (some th)).bind fun v5 => (gI h 5 3 (some th)).bind fun v6 => (sI h v5 v6 a0).bind fun h7 => (gI h7 5 3 (some th)).bind fun v8 => (pI h7 5 3 (some th) (v8 + 1)).bind fun h9 => some h9) : Option (IH)).bind fun q10 => some q10
set_option maxHeartbeats 4000000 in
set_option maxRecDepth 100000 in
theorem c_X5_addWrong {l : Launch} {D : va_G} {cy : Nat → ClassId} {sz : Nat} {h : IH} {th : Nat} {a0 : Int32} {qF : IH} (hs : s_X5_addWrong h th a0 = some qF) : Ct l D cy yX5_addWrong cX5_addWrong 2 none rm_X5_addWrong h sz [.ref th, .int a0] qF none := by
  refine ct_start (by decide +kernel) [(0, .ref th), (1, .int a0)] (Nat.le_of_ble_eq_true rfl) rfl ?_
  intro p e s m args below meth c A H0 ls F hin hsz M hl
  obtain ⟨hx, hb, hr, hml, hown, hlk, hts, hK, hN, hA, hH⟩ := id F
  generalize s.heap = H at M ⊢
  generalize ([] : List Loc) = locs at M ⊢
  unfold s_X5_addWrong at hs
  refine lv_aload_n hx hb dX5_addWrong_0 rfl (lv_at hl 0 rfl) ?_
  obtain ⟨v1, g_v1, hs⟩ := bd hs
  refine ro_gI F M fg_5_3 t_189 g_v1 dX5_addWrong_1 ?_
  refine lv_aload_n hx hb dX5_addWrong_4 rfl (lv_at hl 0 rfl) ?_
  obtain ⟨v2, g_v2, hs⟩ := bd hs
  refine ro_gR F M fg_5_2 t_187 g_v2 dX5_addWrong_5 ?_
  obtain ⟨v3, g_v3, hs⟩ := bd hs
  refine ro_len F M g_v3 dX5_addWrong_8 ?_
  obtain ⟨q10, hsq10, hs⟩ := bd hs
  have KJ32 : ∀ (ls : Array Slot) (H : Heap) (locs : List Loc), lv_has ls 2 [] → Mo D cy A H0 q10 H locs → W p l e rm_X5_addWrong s m args below meth c H locs 0 0 (MQ below (QR D cy qF A none) args s 0 0 A) (F0 m 32 ls []) := by
    intro ls H locs hl M
    obtain rfl := Option.some.inj hs
    exact re_v F M dX5_addWrong_32
  clear hs
  have hs := hsq10
  refine lv_icmp_ge (tgt := 32) hx hb dX5_addWrong_9 (by decide) (fun c4 => ?_) (fun c4 => ?_)
  · rw [if_pos c4] at hs
    obtain rfl := Option.some.inj hs
    exact KJ32 _ _ _ (lv_sub hl [] rfl) M
  · rw [if_neg c4] at hs
    refine lv_aload_n hx hb dX5_addWrong_12 rfl (lv_at hl 0 rfl) ?_
    obtain ⟨v5, g_v5, hs⟩ := bd hs
    refine ro_gR F M fg_5_2 t_187 g_v5 dX5_addWrong_13 ?_
    refine lv_aload_n hx hb dX5_addWrong_16 rfl (lv_at hl 0 rfl) ?_
    obtain ⟨v6, g_v6, hs⟩ := bd hs
    refine ro_gI F M fg_5_3 t_189 g_v6 dX5_addWrong_17 ?_
    refine lv_iload_n hx hb dX5_addWrong_20 rfl (lv_at hl 1 rfl) ?_
    obtain ⟨h7, g_h7, hs⟩ := bd hs
    refine ro_sI F M g_h7 dX5_addWrong_21 (fun H locs M => ?_)
    refine lv_aload_n hx hb dX5_addWrong_22 rfl (lv_at hl 0 rfl) ?_
    refine lv_dup hx hb dX5_addWrong_23 rfl ?_
    obtain ⟨v8, g_v8, hs⟩ := bd hs
    refine ro_gI F M fg_5_3 t_189 g_v8 dX5_addWrong_24 ?_
    refine lv_iconst (v := 1) hx hb dX5_addWrong_27 (by decide) ?_
    refine lv_iadd hx hb dX5_addWrong_28 ?_
    obtain ⟨h9, g_h9, hs⟩ := bd hs
    refine ro_pI F M fg_5_3 fp_5_3 rfl t_189 g_h9 dX5_addWrong_29 (fun H locs M => ?_)
    obtain rfl := Option.some.inj hs
    exact KJ32 _ _ _ (lv_sub hl [] rfl) M
abbrev rm_X2_copyLine : Room := { frames := 0, cells := 0, slots := 0, locals := 0 }
theorem mf_X2_copyLine : MV 2 yX2_copyLine cX2_copyLine 2 none 1 RX2 := ⟨t_585, t_584, tS_20, t_5, ⟨by decide +kernel, by decide +kernel, by decide +kernel⟩, rfl, by decide⟩
def s_X2_copyLine (h : IH) (th : Nat) (a0 : Option Nat) : Option (IH) := (gI h 2 0 a0).bind fun v1 => (pI h 2 0 (some th) v1).bind fun h2 => (gL h2 2 1 a0).bind fun v3 => (pL h2 2 1 (some th) v3).bind fun h4 => (gL h4 2 2 a0).bind fun v5 => (pL h4 2 2 (some th) v5).bind fun h6 => (gL h6 2 3 a0).bind fun v7 => (pL h6 2 3 (some th) v7).bind fun h8 => (gI h8 2 4 a0).bind fun v9 => (pI h8 2 4 (some th) v9).bind fun h10 => (gI h10 2 5 a0).bind fun v11 => (pI h10 2 5 (some th) v11).bind fun h12 => some h12
set_option maxHeartbeats 4000000 in
set_option maxRecDepth 100000 in
theorem c_X2_copyLine {l : Launch} {D : va_G} {cy : Nat → ClassId} {sz : Nat} {h : IH} {th : Nat} {a0 : Option Nat} {qF : IH} (hs : s_X2_copyLine h th a0 = some qF) : Ct l D cy yX2_copyLine cX2_copyLine 2 none rm_X2_copyLine h sz [.ref th, va_rf a0] qF none := by
  refine ct_start (by decide +kernel) [(0, .ref th), (1, va_rf a0)] (by simp [lg_sl, cat_rf, cat_i, cat_j, cat_r]) (by simp [lv_args, cat_rf, cat_i, cat_j, cat_r]) ?_
  intro p e s m args below meth c A H0 ls F hin hsz M hl
  obtain ⟨hx, hb, hr, hml, hown, hlk, hts, hK, hN, hA, hH⟩ := id F
  generalize s.heap = H at M ⊢
  generalize ([] : List Loc) = locs at M ⊢
  unfold s_X2_copyLine at hs
  refine lv_aload_n hx hb dX2_copyLine_0 rfl (lv_at hl 0 rfl) ?_
  refine lo_aload_n hx hb dX2_copyLine_1 rfl (lv_at hl 1 rfl) ?_
  obtain ⟨v1, g_v1, hs⟩ := bd hs
  refine ro_gI F M fg_2_0 t_90 g_v1 dX2_copyLine_2 ?_
  obtain ⟨h2, g_h2, hs⟩ := bd hs
  refine ro_pI F M fg_2_0 fp_2_0 rfl t_90 g_h2 dX2_copyLine_5 (fun H locs M => ?_)
  refine lv_aload_n hx hb dX2_copyLine_8 rfl (lv_at hl 0 rfl) ?_
  refine lo_aload_n hx hb dX2_copyLine_9 rfl (lv_at hl 1 rfl) ?_
  obtain ⟨v3, g_v3, hs⟩ := bd hs
  refine ro_gL F M fg_2_1 t_94 g_v3 dX2_copyLine_10 ?_
  obtain ⟨h4, g_h4, hs⟩ := bd hs
  refine ro_pL F M fg_2_1 fp_2_1 rfl t_94 g_h4 dX2_copyLine_13 (fun H locs M => ?_)
  refine lv_aload_n hx hb dX2_copyLine_16 rfl (lv_at hl 0 rfl) ?_
  refine lo_aload_n hx hb dX2_copyLine_17 rfl (lv_at hl 1 rfl) ?_
  obtain ⟨v5, g_v5, hs⟩ := bd hs
  refine ro_gL F M fg_2_2 t_101 g_v5 dX2_copyLine_18 ?_
  obtain ⟨h6, g_h6, hs⟩ := bd hs
  refine ro_pL F M fg_2_2 fp_2_2 rfl t_101 g_h6 dX2_copyLine_21 (fun H locs M => ?_)
  refine lv_aload_n hx hb dX2_copyLine_24 rfl (lv_at hl 0 rfl) ?_
  refine lo_aload_n hx hb dX2_copyLine_25 rfl (lv_at hl 1 rfl) ?_
  obtain ⟨v7, g_v7, hs⟩ := bd hs
  refine ro_gL F M fg_2_3 t_104 g_v7 dX2_copyLine_26 ?_
  obtain ⟨h8, g_h8, hs⟩ := bd hs
  refine ro_pL F M fg_2_3 fp_2_3 rfl t_104 g_h8 dX2_copyLine_29 (fun H locs M => ?_)
  refine lv_aload_n hx hb dX2_copyLine_32 rfl (lv_at hl 0 rfl) ?_
  refine lo_aload_n hx hb dX2_copyLine_33 rfl (lv_at hl 1 rfl) ?_
  obtain ⟨v9, g_v9, hs⟩ := bd hs
  refine ro_gI F M fg_2_4 t_109 g_v9 dX2_copyLine_34 ?_
  obtain ⟨h10, g_h10, hs⟩ := bd hs
  refine ro_pI F M fg_2_4 fp_2_4 rfl t_109 g_h10 dX2_copyLine_37 (fun H locs M => ?_)
  refine lv_aload_n hx hb dX2_copyLine_40 rfl (lv_at hl 0 rfl) ?_
  refine lo_aload_n hx hb dX2_copyLine_41 rfl (lv_at hl 1 rfl) ?_
  obtain ⟨v11, g_v11, hs⟩ := bd hs
  refine ro_gI F M fg_2_5 t_113 g_v11 dX2_copyLine_42 ?_
  obtain ⟨h12, g_h12, hs⟩ := bd hs
  refine ro_pI F M fg_2_5 fp_2_5 rfl t_113 g_h12 dX2_copyLine_45 (fun H locs M => ?_)
  obtain rfl := Option.some.inj hs
  exact re_v F M dX2_copyLine_48
abbrev rm_X4_add : Room := { frames := 1, cells := 0, slots := 0, locals := 21 }
theorem mf_X4_add : MV 4 yX4_add cX4_add 2 (some .boolean) 1 RX4 := ⟨t_581, t_580, tS_19, t_6, ⟨by decide +kernel, by decide +kernel, by decide +kernel⟩, rfl, by decide⟩
def s_X4_add (h : IH) (th : Nat) (a0 : Option Nat) : Option (Int32 × IH) := (gI h 4 1 (some th)).bind fun v1 => if v1 < 16 then (gR h 4 0 (some th)).bind fun v3 => (gI h 4 1 (some th)).bind fun v4 => (aR h 3 v3 v4).bind fun v5 => (cV h 2 v5 fun a9 => s_X2_copyLine h a9 a0).bind fun v6 => (gI v6 4 1 (some th)).bind fun v7 => (pI v6 4 1 (some th) (v7 + 1)).bind fun h8 => some (1, h8) else some (0, h)
set_option maxHeartbeats 4000000 in
set_option maxRecDepth 100000 in
theorem c_X4_add {l : Launch} {D : va_G} {cy : Nat → ClassId} {sz : Nat} {h : IH} {th : Nat} {a0 : Option Nat} {qF : Int32 × IH} (hs : s_X4_add h th a0 = some qF) : Ct l D cy yX4_add cX4_add 2 (some .boolean) rm_X4_add h sz [.ref th, va_rf a0] qF.2 (some (.int qF.1)) := by
  refine ct_start (by decide +kernel) [(0, .ref th), (1, va_rf a0)] (by simp [lg_sl, cat_rf, cat_i, cat_j, cat_r]) (by simp [lv_args, cat_rf, cat_i, cat_j, cat_r]) ?_
  intro p e s m args below meth c A H0 ls F hin hsz M hl
  obtain ⟨hx, hb, hr, hml, hown, hlk, hts, hK, hN, hA, hH⟩ := id F
  generalize s.heap = H at M ⊢
  generalize ([] : List Loc) = locs at M ⊢
  unfold s_X4_add at hs
  refine lv_aload_n hx hb dX4_add_0 rfl (lv_at hl 0 rfl) ?_
  obtain ⟨v1, g_v1, hs⟩ := bd hs
  refine ro_gI F M fg_4_1 t_166 g_v1 dX4_add_1 ?_
  refine lv_bipush (v := 16) hx hb dX4_add_4 (by decide) ?_
  refine lv_icmp_lt (tgt := 11) hx hb dX4_add_6 (by decide) (fun c2 => ?_) (fun c2 => ?_)
  · rw [if_pos c2] at hs
    refine lv_aload_n hx hb dX4_add_11 rfl (lv_at hl 0 rfl) ?_
    obtain ⟨v3, g_v3, hs⟩ := bd hs
    refine ro_gR F M fg_4_0 t_165 g_v3 dX4_add_12 ?_
    refine lv_aload_n hx hb dX4_add_15 rfl (lv_at hl 0 rfl) ?_
    obtain ⟨v4, g_v4, hs⟩ := bd hs
    refine ro_gI F M fg_4_1 t_166 g_v4 dX4_add_16 ?_
    obtain ⟨v5, g_v5, hs⟩ := bd hs
    refine ro_aR (k := 3) (by decide) rfl F M g_v5 dX4_add_19 ?_
    refine lo_aload_n hx hb dX4_add_20 rfl (lv_at hl 1 rfl) ?_
    obtain ⟨v6, g_v6, hs⟩ := bd hs
    obtain ⟨a9, e_a9, k_a9, g_v6⟩ := cV_some g_v6
    refine ca_VNv (bq := a9) (As := [va_rf a0]) (rest := []) F M (c_X2_copyLine g_v6) mf_X2_copyLine tN_582 k_a9 rfl ⟨by decide, by decide⟩ ⟨rfl, rfl⟩ ⟨Nat.zero_le _, Nat.zero_le _⟩ hl.1 (by rw [e_a9]; rfl) (by decide) dX4_add_21 (fun H locs M => ?_)
    refine lv_aload_n hx hb dX4_add_24 rfl (lv_at hl 0 rfl) ?_
    refine lv_dup hx hb dX4_add_25 rfl ?_
    obtain ⟨v7, g_v7, hs⟩ := bd hs
    refine ro_gI F M fg_4_1 t_166 g_v7 dX4_add_26 ?_
    refine lv_iconst (v := 1) hx hb dX4_add_29 (by decide) ?_
    refine lv_iadd hx hb dX4_add_30 ?_
    obtain ⟨h8, g_h8, hs⟩ := bd hs
    refine ro_pI F M fg_4_1 fp_4_1 rfl t_166 g_h8 dX4_add_31 (fun H locs M => ?_)
    refine lv_iconst (v := 1) hx hb dX4_add_34 (by decide) ?_
    obtain rfl := Option.some.inj hs
    exact re_z F M (Or.inr rfl) dX4_add_35
  · rw [if_neg c2] at hs
    refine lv_iconst (v := 0) hx hb dX4_add_9 (by decide) ?_
    obtain rfl := Option.some.inj hs
    exact re_z F M (Or.inl rfl) dX4_add_10
abbrev rm_X9_putLog : Room := { frames := 0, cells := 0, slots := 0, locals := 0 }
theorem mf_X9_putLog : MV 9 yX9_putLog cX9_putLog 4 (some (.object "ContactHouse$Log")) 2 RX9 := ⟨t_589, t_588, tS_21, t_13, ⟨by decide +kernel, by decide +kernel, by decide +kernel⟩, rfl, by decide⟩
def s_X9_putLog (h : IH) (th : Nat) (a0 : Int32) (a1 : Option Nat) : Option (Option Nat × IH) := if a0 < 0 then some (a1, h) else if a0 < 3 then (gR h 9 5 (some th)).bind fun v3 => (aR h 4 v3 a0).bind fun v4 => (gR h 9 5 (some th)).bind fun v5 => (sR h 4 4 v5 a0 a1).bind fun h6 => some (v4, h6) else some (a1, h)
set_option maxHeartbeats 4000000 in
set_option maxRecDepth 100000 in
theorem c_X9_putLog {l : Launch} {D : va_G} {cy : Nat → ClassId} {sz : Nat} {h : IH} {th : Nat} {a0 : Int32} {a1 : Option Nat} {qF : Option Nat × IH} (hs : s_X9_putLog h th a0 a1 = some qF) : Ct l D cy yX9_putLog cX9_putLog 4 (some (.object "ContactHouse$Log")) rm_X9_putLog h sz [.ref th, .int a0, va_rf a1] qF.2 (some (va_rf qF.1)) := by
  refine ct_start (by decide +kernel) [(0, .ref th), (1, .int a0), (2, va_rf a1)] (by simp [lg_sl, cat_rf, cat_i, cat_j, cat_r]) (by simp [lv_args, cat_rf, cat_i, cat_j, cat_r]) ?_
  intro p e s m args below meth c A H0 ls F hin hsz M hl
  obtain ⟨hx, hb, hr, hml, hown, hlk, hts, hK, hN, hA, hH⟩ := id F
  generalize s.heap = H at M ⊢
  generalize ([] : List Loc) = locs at M ⊢
  unfold s_X9_putLog at hs
  refine lv_iload_n hx hb dX9_putLog_0 rfl (lv_at hl 1 rfl) ?_
  refine lv_if_lt (tgt := 9) hx hb dX9_putLog_1 (by decide) (fun c1 => ?_) (fun c1 => ?_)
  · rw [if_pos c1] at hs
    refine lo_aload_n hx hb dX9_putLog_9 rfl (lv_at hl 2 rfl) ?_
    obtain rfl := Option.some.inj hs
    exact re_a F M dX9_putLog_10
  · rw [if_neg c1] at hs
    refine lv_iload_n hx hb dX9_putLog_4 rfl (lv_at hl 1 rfl) ?_
    refine lv_iconst (v := 3) hx hb dX9_putLog_5 (by decide) ?_
    refine lv_icmp_lt (tgt := 11) hx hb dX9_putLog_6 (by decide) (fun c2 => ?_) (fun c2 => ?_)
    · rw [if_pos c2] at hs
      refine lv_aload_n hx hb dX9_putLog_11 rfl (lv_at hl 0 rfl) ?_
      obtain ⟨v3, g_v3, hs⟩ := bd hs
      refine ro_gR F M fg_9_5 t_432 g_v3 dX9_putLog_12 ?_
      refine lv_iload_n hx hb dX9_putLog_15 rfl (lv_at hl 1 rfl) ?_
      obtain ⟨v4, g_v4, hs⟩ := bd hs
      refine ro_aR (k := 4) (by decide) rfl F M g_v4 dX9_putLog_16 ?_
      refine lo_astore_n (i := 3) (lv' := [(3, va_rf v4), (0, .ref th), (1, .int a0), (2, va_rf a1)]) hx hb dX9_putLog_17 rfl hl (by decide) (by simp [cat_rf, cat_i, cat_j, cat_r]) (fun ls hl => ?_)
      refine lv_aload_n hx hb dX9_putLog_18 rfl (lv_at hl 1 rfl) ?_
      obtain ⟨v5, g_v5, hs⟩ := bd hs
      refine ro_gR F M fg_9_5 t_432 g_v5 dX9_putLog_19 ?_
      refine lv_iload_n hx hb dX9_putLog_22 rfl (lv_at hl 2 rfl) ?_
      refine lo_aload_n hx hb dX9_putLog_23 rfl (lv_at hl 3 rfl) ?_
      obtain ⟨h6, g_h6, hs⟩ := bd hs
      refine ro_sR (k := 4) (by decide) rfl (ci := 4) rfl (by decide) F M g_h6 dX9_putLog_24 (fun H locs M => ?_)
      refine lo_aload_n hx hb dX9_putLog_25 rfl (lv_at hl 0 rfl) ?_
      obtain rfl := Option.some.inj hs
      exact re_a F M dX9_putLog_26
    · rw [if_neg c2] at hs
      refine lo_aload_n hx hb dX9_putLog_9 rfl (lv_at hl 2 rfl) ?_
      obtain rfl := Option.some.inj hs
      exact re_a F M dX9_putLog_10
abbrev rm_X11_wrong : Room := { frames := 1, cells := 0, slots := 0, locals := 21 }
theorem mf_X11_wrong : MV 11 yX11_wrong cX11_wrong 2 (some .int) 1 RX11 := ⟨t_594, t_592, t_593, t_1, ⟨by decide +kernel, by decide +kernel, by decide +kernel⟩, rfl, by decide⟩
def s_X11_wrong (h : IH) (th : Nat) (a0 : Int32) : Option (Int32) := (gR h 11 2 (some th)).bind fun v1 => (gI h 5 3 v1).bind fun v2 => (s_X11_isBelow h a0 v2).bind fun v3 => ((if v3 = 0 then some (-1) else (gR h 11 2 (some th)).bind fun v5 => (gR h 5 2 v5).bind fun v6 => (aI h v6 a0).bind fun v7 => some v7) : Option (Int32)).bind fun q8 => some q8
set_option maxHeartbeats 4000000 in
set_option maxRecDepth 100000 in
theorem c_X11_wrong {l : Launch} {D : va_G} {cy : Nat → ClassId} {sz : Nat} {h : IH} {th : Nat} {a0 : Int32} {qF : Int32} (hs : s_X11_wrong h th a0 = some qF) : Ct l D cy yX11_wrong cX11_wrong 2 (some .int) rm_X11_wrong h sz [.ref th, .int a0] h (some (.int qF)) := by
  refine ct_start (by decide +kernel) [(0, .ref th), (1, .int a0)] (Nat.le_of_ble_eq_true rfl) rfl ?_
  intro p e s m args below meth c A H0 ls F hin hsz M hl
  obtain ⟨hx, hb, hr, hml, hown, hlk, hts, hK, hN, hA, hH⟩ := id F
  generalize s.heap = H at M ⊢
  generalize ([] : List Loc) = locs at M ⊢
  unfold s_X11_wrong at hs
  refine lv_iload_n hx hb dX11_wrong_0 rfl (lv_at hl 1 rfl) ?_
  refine lv_aload_n hx hb dX11_wrong_1 rfl (lv_at hl 0 rfl) ?_
  obtain ⟨v1, g_v1, hs⟩ := bd hs
  refine ro_gR F M fg_11_2 t_332 g_v1 dX11_wrong_2 ?_
  obtain ⟨v2, g_v2, hs⟩ := bd hs
  refine ro_gIN F M fg_5_3 tN_190 g_v2 dX11_wrong_5 ?_
  obtain ⟨v3, g_v3, hs⟩ := bd hs
  refine ca_Si (As := [.int a0, .int v2]) (rest := []) F M (c_X11_isBelow g_v3) mf_X11_isBelow t_404 rfl ⟨by decide, by decide⟩ ⟨rfl, rfl⟩ ⟨Nat.zero_le _, Nat.zero_le _⟩ hl.1 rfl (by decide) dX11_wrong_8 (fun H locs M => ?_)
  obtain ⟨q8, hsq8, hs⟩ := bd hs
  have KJ27 : ∀ (ls : Array Slot) (H : Heap) (locs : List Loc), lv_has ls 2 [] → Mo D cy A H0 h H locs → W p l e rm_X11_wrong s m args below meth c H locs 0 0 (MQ below (QR D cy h A (some (.int qF))) args s 0 0 A) (F0 m 27 ls [.int q8]) := by
    intro ls H locs hl M
    obtain rfl := Option.some.inj hs
    exact re_i F M dX11_wrong_27
  clear hs
  have hs := hsq8
  refine lv_if_eq (tgt := 26) hx hb dX11_wrong_11 (by decide) (fun c4 => ?_) (fun c4 => ?_)
  · rw [if_pos c4] at hs
    refine lv_iconst (v := (-1)) hx hb dX11_wrong_26 (by decide) ?_
    obtain rfl := Option.some.inj hs
    exact KJ27 _ _ _ (lv_sub hl [] rfl) M
  · rw [if_neg c4] at hs
    refine lv_aload_n hx hb dX11_wrong_14 rfl (lv_at hl 0 rfl) ?_
    obtain ⟨v5, g_v5, hs⟩ := bd hs
    refine ro_gR F M fg_11_2 t_332 g_v5 dX11_wrong_15 ?_
    obtain ⟨v6, g_v6, hs⟩ := bd hs
    refine ro_gRN F M fg_5_2 tN_188 g_v6 dX11_wrong_18 ?_
    refine lv_iload_n hx hb dX11_wrong_21 rfl (lv_at hl 1 rfl) ?_
    obtain ⟨v7, g_v7, hs⟩ := bd hs
    refine ro_aI F M g_v7 dX11_wrong_22 ?_
    refine lv_goto (tgt := 27) hx hb dX11_wrong_23 (by decide) ?_
    obtain rfl := Option.some.inj hs
    exact KJ27 _ _ _ (lv_sub hl [] rfl) M
abbrev rm_X3_operandsOf : Room := { frames := 0, cells := 0, slots := 0, locals := 0 }
theorem mf_X3_operandsOf : MS yX3_operandsOf cX3_operandsOf 1 (some .int) 1 := ⟨t_628, t_627, t_7, ⟨by decide +kernel, by decide +kernel, by decide +kernel⟩⟩
def s_X3_operandsOf (h : IH) (a0 : Int32) : Option (Int32) := if a0 = (-10) then some 3 else ((if (-6) < a0 then some 0 else if a0 < (-9) then some 0 else some 2) : Option (Int32)).bind fun q4 => some q4
set_option maxHeartbeats 4000000 in
set_option maxRecDepth 100000 in
theorem c_X3_operandsOf {l : Launch} {D : va_G} {cy : Nat → ClassId} {sz : Nat} {h : IH} {a0 : Int32} {qF : Int32} (hs : s_X3_operandsOf h a0 = some qF) : Ct l D cy yX3_operandsOf cX3_operandsOf 1 (some .int) rm_X3_operandsOf h sz [.int a0] h (some (.int qF)) := by
  refine ct_start (by decide +kernel) [(0, .int a0)] (Nat.le_of_ble_eq_true rfl) rfl ?_
  intro p e s m args below meth c A H0 ls F hin hsz M hl
  obtain ⟨hx, hb, hr, hml, hown, hlk, hts, hK, hN, hA, hH⟩ := id F
  generalize s.heap = H at M ⊢
  generalize ([] : List Loc) = locs at M ⊢
  unfold s_X3_operandsOf at hs
  refine lv_iload_n hx hb dX3_operandsOf_0 rfl (lv_at hl 0 rfl) ?_
  refine lv_bipush (v := (-10)) hx hb dX3_operandsOf_1 (by decide) ?_
  refine lv_icmp_ne (tgt := 8) hx hb dX3_operandsOf_3 (by decide) (fun c1 => ?_) (fun c1 => ?_)
  · rw [if_neg c1] at hs
    refine lv_iload_n hx hb dX3_operandsOf_8 rfl (lv_at hl 0 rfl) ?_
    refine lv_bipush (v := (-6)) hx hb dX3_operandsOf_9 (by decide) ?_
    obtain ⟨q4, hsq4, hs⟩ := bd hs
    have KJ25 : ∀ (ls : Array Slot) (H : Heap) (locs : List Loc), lv_has ls 1 [] → Mo D cy A H0 h H locs → W p l e rm_X3_operandsOf s m args below meth c H locs 0 0 (MQ below (QR D cy h A (some (.int qF))) args s 0 0 A) (F0 m 25 ls [.int q4]) := by
      intro ls H locs hl M
      obtain rfl := Option.some.inj hs
      exact re_i F M dX3_operandsOf_25
    clear hs
    have hs := hsq4
    refine lv_icmp_gt (tgt := 24) hx hb dX3_operandsOf_11 (by decide) (fun c2 => ?_) (fun c2 => ?_)
    · rw [if_pos c2] at hs
      refine lv_iconst (v := 0) hx hb dX3_operandsOf_24 (by decide) ?_
      obtain rfl := Option.some.inj hs
      exact KJ25 _ _ _ (lv_sub hl [] rfl) M
    · rw [if_neg c2] at hs
      refine lv_iload_n hx hb dX3_operandsOf_14 rfl (lv_at hl 0 rfl) ?_
      refine lv_bipush (v := (-9)) hx hb dX3_operandsOf_15 (by decide) ?_
      refine lv_icmp_lt (tgt := 24) hx hb dX3_operandsOf_17 (by decide) (fun c3 => ?_) (fun c3 => ?_)
      · rw [if_pos c3] at hs
        refine lv_iconst (v := 0) hx hb dX3_operandsOf_24 (by decide) ?_
        obtain rfl := Option.some.inj hs
        exact KJ25 _ _ _ (lv_sub hl [] rfl) M
      · rw [if_neg c3] at hs
        refine lv_iconst (v := 2) hx hb dX3_operandsOf_20 (by decide) ?_
        refine lv_goto (tgt := 25) hx hb dX3_operandsOf_21 (by decide) ?_
        obtain rfl := Option.some.inj hs
        exact KJ25 _ _ _ (lv_sub hl [] rfl) M
  · rw [if_pos c1] at hs
    refine lv_iconst (v := 3) hx hb dX3_operandsOf_6 (by decide) ?_
    obtain rfl := Option.some.inj hs
    exact re_i F M dX3_operandsOf_7
