abbrev rm_X11_place : Room := { frames := 6, cells := 0, slots := 0, locals := 157 }
theorem mf_X11_place : MV 11 yX11_place cX11_place 7 (some .int) 1 RX11 := ⟨t_976, t_974, t_975, t_1, ⟨by decide +kernel, by decide +kernel, by decide +kernel⟩, rfl, by decide⟩
def s_X11_place_L57 (N : Nat) : Nat → Nat → Int32 → Int32 → Int32 → IH → Option (Int32 × IH)
  | 0, _, _, _, _, _ => none
  | n + 1, th, x3, x4, x5, h => (gR h 11 1 (some th)).bind fun v14 => (gI h 7 1 v14).bind fun v15 => if v15 ≤ x5 then some (x4, h) else (gR h 11 1 (some th)).bind fun v17 => (cV h 7 v17 fun a29 => s_X7_at h a29 x5).bind fun v18 => ((if v18 = none then some (x4, h) else (cV h 9 v18 fun a27 => s_X9_isRanked h a27 ).bind fun v20 => if v20 = 0 then some (x4, h) else (gR h 11 5 (some th)).bind fun v22 => (cV h 8 v22 fun a26 => s_X8_totalOf N h a26 x5).bind fun v23 => (s_X11_orZero v23.2 v23.1).bind fun v24 => if v24 ≤ x3 then some (x4, v23.2) else some (x4 + 1, v23.2)) : Option (Int32 × IH)).bind fun q28 => s_X11_place_L57 N n th x3 q28.1 (x5 + 1) q28.2
def s_X11_place (N : Nat) (h : IH) (th : Nat) (a0 : Int32) : Option (Int32 × IH) := (gR h 11 4 (some th)).bind fun v1 => (cV h 0 v1 fun a36 => s_X0_refresh N h a36 ).bind fun v2 => (cV v2 11 (some th) fun a35 => s_X11_askedStation v2 a35 a0).bind fun v3 => if v3.1 = none then (cV v3.2 11 (some th) fun a6 => s_X11_answered v3.2 a6 0).bind fun v5 => some (v5.1.toInt32, v5.2) else (cV v3.2 9 v3.1 fun a34 => s_X9_isRanked v3.2 a34 ).bind fun v7 => if v7 = 0 then (cV v3.2 11 (some th) fun a10 => s_X11_refused v3.2 a10 7).bind fun v9 => some (v9.1.toInt32, v9.2) else (gR v3.2 11 5 (some th)).bind fun v11 => (cV v3.2 8 v11 fun a33 => s_X8_totalOf N v3.2 a33 a0).bind fun v12 => (s_X11_orZero v12.2 v12.1).bind fun v13 => (s_X11_place_L57 N N th v13 1 0 v12.2).bind fun q30 => (cV q30.2 11 (some th) fun a32 => s_X11_answered q30.2 a32 q30.1.toInt64).bind fun v31 => some (v31.1.toInt32, v31.2)
set_option maxHeartbeats 4000000 in
set_option maxRecDepth 100000 in
theorem w_X11_place_L57 {p : Program} {l : Launch} {e : Env} {s : State} {m : MethodId} {args : Array Value} {below : List Frame} {meth : Method} {c : Code} {D : va_G} {cy : Nat → ClassId} {A : Nat → Prop} {H0 : Heap} {N th : Nat} {x3 : Int32} {qF : Int32 × IH} (F : Fx p s m args meth c D cy A H0 yX11_place cX11_place 7 (some .int)) : ∀ (n : Nat) (x4 : Int32) (x5 : Int32) (h : IH) (ls : Array Slot) (H : Heap) (locs : List Loc) (q : Int32 × IH), s_X11_place_L57 N n th x3 x4 x5 h = some q → lv_has ls 7 [(0, .ref th), (3, .int x3), (4, .int x4), (5, .int x5)] → Mo D cy A H0 h H locs → (∀ (t : Int32 × IH) (ls : Array Slot) (H : Heap) (locs : List Loc), q = t → lv_has ls 7 [(0, .ref th), (4, .int t.1)] → Mo D cy A H0 t.2 H locs → W p l e rm_X11_place s m args below meth c H locs 0 0 (MQ below (QR D cy qF.2 A (some (.int qF.1))) args s 0 0 A) (F0 m 118 ls [])) → (∀ v : Int32 × IH, False → v = qF) → W p l e rm_X11_place s m args below meth c H locs 0 0 (MQ below (QR D cy qF.2 A (some (.int qF.1))) args s 0 0 A) (F0 m 57 ls []) := by
  intro n
  induction n with
  | zero => intro x4 x5 h ls H locs q hs; rw [s_X11_place_L57.eq_1] at hs; cases hs
  | succ n ih =>
    intro x4 x5 h ls H locs q hs hl M kx kr
    obtain ⟨hx, hb, hr, hml, hown, hlk, hts, hK, hN, hA, hH⟩ := id F
    rw [s_X11_place_L57.eq_2] at hs
    refine lv_iload hx hb dX11_place_57 (lv_at hl 3 rfl) ?_
    refine lv_aload_n hx hb dX11_place_59 rfl (lv_at hl 0 rfl) ?_
    obtain ⟨v14, g_v14, hs⟩ := bd hs
    refine ro_gR F M fg_11_1 t_331 g_v14 dX11_place_60 ?_
    obtain ⟨v15, g_v15, hs⟩ := bd hs
    refine ro_gIN F M fg_7_1 tN_72 g_v15 dX11_place_63 ?_
    refine lv_icmp_ge (tgt := 118) hx hb dX11_place_66 (by decide) (fun c16 => ?_) (fun c16 => ?_)
    · rw [if_pos c16] at hs
      exact kx (x4, h) _ _ _ (Option.some.inj hs).symm (lv_sub hl [0, 2] rfl) M
    · rw [if_neg c16] at hs
      refine lv_aload_n hx hb dX11_place_69 rfl (lv_at hl 0 rfl) ?_
      obtain ⟨v17, g_v17, hs⟩ := bd hs
      refine ro_gR F M fg_11_1 t_331 g_v17 dX11_place_70 ?_
      refine lv_iload hx hb dX11_place_73 (lv_at hl 3 rfl) ?_
      obtain ⟨v18, g_v18, hs⟩ := bd hs
      obtain ⟨a29, e_a29, k_a29, g_v18⟩ := cV_some g_v18
      refine ca_VNa (bq := a29) (As := [.int x5]) (rest := []) F M (c_X7_at g_v18) mf_X7_at tN_467 k_a29 rfl ⟨by decide, by decide⟩ ⟨rfl, rfl⟩ ⟨Nat.zero_le _, Nat.zero_le _⟩ hl.1 (by rw [e_a29]; rfl) (by decide) dX11_place_75 (fun H locs M => ?_)
      refine lo_astore (i := 6) (lv' := [(6, va_rf v18), (0, .ref th), (3, .int x3), (4, .int x4), (5, .int x5)]) hx hb dX11_place_78 hl (by decide) rfl (fun ls hl => ?_)
      refine lo_aload hx hb dX11_place_80 (lv_at hl 0 rfl) ?_
      obtain ⟨q28, hsq28, hs⟩ := bd hs
      have KJ112 : ∀ (ls : Array Slot) (H : Heap) (locs : List Loc), lv_has ls 7 [(0, .ref th), (3, .int x3), (4, .int q28.1), (5, .int x5)] → Mo D cy A H0 q28.2 H locs → W p l e rm_X11_place s m args below meth c H locs 0 0 (MQ below (QR D cy qF.2 A (some (.int qF.1))) args s 0 0 A) (F0 m 112 ls []) := by
        intro ls H locs hl M
        refine lv_iinc (v := x5 + 1) (lv' := [(5, .int (x5 + 1)), (0, .ref th), (3, .int x3), (4, .int q28.1)]) hx hb dX11_place_112 hl (k := 3) rfl rfl (by decide) rfl (fun ls hl => ?_)
        refine lv_goto (tgt := 57) hx hb dX11_place_115 (by decide) ?_
        exact ih q28.1 (x5 + 1) q28.2 _ _ _ _ hs (lv_sub hl [1, 2, 3, 0] rfl) M kx kr
      clear hs
      have hs := hsq28
      refine lo_ifnull (tgt := 112) hx hb dX11_place_82 (by decide) (fun c19 => ?_) (fun c19 => ?_)
      · rw [if_pos c19] at hs
        obtain rfl := Option.some.inj hs
        exact KJ112 _ _ _ (lv_sub hl [1, 2, 3, 4] rfl) M
      · rw [if_neg c19] at hs
        refine lo_aload hx hb dX11_place_85 (lv_at hl 0 rfl) ?_
        obtain ⟨v20, g_v20, hs⟩ := bd hs
        obtain ⟨a27, e_a27, k_a27, g_v20⟩ := cV_some g_v20
        refine ca_VNi (bq := a27) (As := []) (rest := []) F M (c_X9_isRanked g_v20) mf_X9_isRanked tN_977 k_a27 rfl ⟨by decide, by decide⟩ ⟨rfl, rfl⟩ ⟨Nat.zero_le _, Nat.zero_le _⟩ hl.1 (by rw [e_a27]; rfl) (by decide) dX11_place_87 (fun H locs M => ?_)
        refine lv_if_eq (tgt := 112) hx hb dX11_place_90 (by decide) (fun c21 => ?_) (fun c21 => ?_)
        · rw [if_pos c21] at hs
          obtain rfl := Option.some.inj hs
          exact KJ112 _ _ _ (lv_sub hl [1, 2, 3, 4] rfl) M
        · rw [if_neg c21] at hs
          refine lv_aload_n hx hb dX11_place_93 rfl (lv_at hl 1 rfl) ?_
          obtain ⟨v22, g_v22, hs⟩ := bd hs
          refine ro_gR F M fg_11_5 t_335 g_v22 dX11_place_94 ?_
          refine lv_iload hx hb dX11_place_97 (lv_at hl 4 rfl) ?_
          obtain ⟨v23, g_v23, hs⟩ := bd hs
          obtain ⟨a26, e_a26, k_a26, g_v23⟩ := cV_some g_v23
          refine ca_VNl (bq := a26) (As := [.int x5]) (rest := []) F M (c_X8_totalOf g_v23) mf_X8_totalOf tN_927 k_a26 rfl ⟨by decide, by decide⟩ ⟨rfl, rfl⟩ ⟨Nat.zero_le _, Nat.zero_le _⟩ hl.1 (by rw [e_a26]; rfl) (by decide) dX11_place_99 (fun H locs M => ?_)
          obtain ⟨v24, g_v24, hs⟩ := bd hs
          refine ca_Si (As := [.long v23.1]) (rest := []) F M (c_X11_orZero g_v24) mf_X11_orZero t_981 rfl ⟨by decide, by decide⟩ ⟨rfl, rfl⟩ ⟨Nat.zero_le _, Nat.zero_le _⟩ hl.1 rfl (by decide) dX11_place_102 (fun H locs M => ?_)
          refine lv_iload_n hx hb dX11_place_105 rfl (lv_at hl 2 rfl) ?_
          refine lv_icmp_le (tgt := 112) hx hb dX11_place_106 (by decide) (fun c25 => ?_) (fun c25 => ?_)
          · rw [if_pos c25] at hs
            obtain rfl := Option.some.inj hs
            exact KJ112 _ _ _ (lv_sub hl [1, 2, 3, 4] rfl) M
          · rw [if_neg c25] at hs
            refine lv_iinc (v := x4 + 1) (lv' := [(4, .int (x4 + 1)), (6, va_rf v18), (0, .ref th), (3, .int x3), (5, .int x5)]) hx hb dX11_place_109 hl (k := 3) rfl rfl (by decide) rfl (fun ls hl => ?_)
            obtain rfl := Option.some.inj hs
            exact KJ112 _ _ _ (lv_sub hl [2, 3, 0, 4] rfl) M
set_option maxHeartbeats 4000000 in
set_option maxRecDepth 100000 in
theorem c_X11_place {l : Launch} {D : va_G} {cy : Nat → ClassId} {sz N : Nat} {h : IH} {th : Nat} {a0 : Int32} {qF : Int32 × IH} (hs : s_X11_place N h th a0 = some qF) : Ct l D cy yX11_place cX11_place 7 (some .int) rm_X11_place h sz [.ref th, .int a0] qF.2 (some (.int qF.1)) := by
  refine ct_start (by decide +kernel) [(0, .ref th), (1, .int a0)] (Nat.le_of_ble_eq_true rfl) rfl ?_
  intro p e s m args below meth c A H0 ls F hin hsz M hl
  obtain ⟨hx, hb, hr, hml, hown, hlk, hts, hK, hN, hA, hH⟩ := id F
  generalize s.heap = H at M ⊢
  generalize ([] : List Loc) = locs at M ⊢
  unfold s_X11_place at hs
  refine lv_aload_n hx hb dX11_place_0 rfl (lv_at hl 0 rfl) ?_
  obtain ⟨v1, g_v1, hs⟩ := bd hs
  refine ro_gR F M fg_11_4 t_334 g_v1 dX11_place_1 ?_
  obtain ⟨v2, g_v2, hs⟩ := bd hs
  obtain ⟨a36, e_a36, k_a36, g_v2⟩ := cV_some g_v2
  refine ca_VNv (bq := a36) (As := []) (rest := []) F M (c_X0_refresh g_v2) mf_X0_refresh tN_714 k_a36 rfl ⟨by decide, by decide⟩ ⟨rfl, rfl⟩ ⟨Nat.zero_le _, Nat.zero_le _⟩ hl.1 (by rw [e_a36]; rfl) (by decide) dX11_place_4 (fun H locs M => ?_)
  refine lv_aload_n hx hb dX11_place_7 rfl (lv_at hl 0 rfl) ?_
  refine lv_iload_n hx hb dX11_place_8 rfl (lv_at hl 1 rfl) ?_
  obtain ⟨v3, g_v3, hs⟩ := bd hs
  obtain ⟨a35, e_a35, k_a35, g_v3⟩ := cV_some g_v3
  obtain rfl := Option.some.inj e_a35
  refine ca_Va (bq := th) (As := [.int a0]) (rest := []) F M (c_X11_askedStation g_v3) mf_X11_askedStation t_657 k_a35 rfl ⟨by decide, by decide⟩ ⟨rfl, rfl⟩ ⟨Nat.zero_le _, Nat.zero_le _⟩ hl.1 rfl (by decide) dX11_place_9 (fun H locs M => ?_)
  refine lo_astore_n (i := 2) (lv' := [(2, va_rf v3.1), (0, .ref th), (1, .int a0)]) hx hb dX11_place_12 rfl hl (by decide) rfl (fun ls hl => ?_)
  refine lo_aload_n hx hb dX11_place_13 rfl (lv_at hl 0 rfl) ?_
  refine lo_ifnonnull (tgt := 24) hx hb dX11_place_14 (by decide) (fun c4 => ?_) (fun c4 => ?_)
  · rw [if_neg c4] at hs
    refine lo_aload_n hx hb dX11_place_24 rfl (lv_at hl 0 rfl) ?_
    obtain ⟨v7, g_v7, hs⟩ := bd hs
    obtain ⟨a34, e_a34, k_a34, g_v7⟩ := cV_some g_v7
    refine ca_VNi (bq := a34) (As := []) (rest := []) F M (c_X9_isRanked g_v7) mf_X9_isRanked tN_977 k_a34 rfl ⟨by decide, by decide⟩ ⟨rfl, rfl⟩ ⟨Nat.zero_le _, Nat.zero_le _⟩ hl.1 (by rw [e_a34]; rfl) (by decide) dX11_place_25 (fun H locs M => ?_)
    refine lv_if_ne (tgt := 39) hx hb dX11_place_28 (by decide) (fun c8 => ?_) (fun c8 => ?_)
    · rw [if_neg c8] at hs
      refine lv_aload_n hx hb dX11_place_39 rfl (lv_at hl 1 rfl) ?_
      obtain ⟨v11, g_v11, hs⟩ := bd hs
      refine ro_gR F M fg_11_5 t_335 g_v11 dX11_place_40 ?_
      refine lv_iload_n hx hb dX11_place_43 rfl (lv_at hl 2 rfl) ?_
      obtain ⟨v12, g_v12, hs⟩ := bd hs
      obtain ⟨a33, e_a33, k_a33, g_v12⟩ := cV_some g_v12
      refine ca_VNl (bq := a33) (As := [.int a0]) (rest := []) F M (c_X8_totalOf g_v12) mf_X8_totalOf tN_927 k_a33 rfl ⟨by decide, by decide⟩ ⟨rfl, rfl⟩ ⟨Nat.zero_le _, Nat.zero_le _⟩ hl.1 (by rw [e_a33]; rfl) (by decide) dX11_place_44 (fun H locs M => ?_)
      obtain ⟨v13, g_v13, hs⟩ := bd hs
      refine ca_Si (As := [.long v12.1]) (rest := []) F M (c_X11_orZero g_v13) mf_X11_orZero t_981 rfl ⟨by decide, by decide⟩ ⟨rfl, rfl⟩ ⟨Nat.zero_le _, Nat.zero_le _⟩ hl.1 rfl (by decide) dX11_place_47 (fun H locs M => ?_)
      refine lv_istore_n (i := 3) (lv' := [(3, .int v13), (2, va_rf v3.1), (0, .ref th), (1, .int a0)]) hx hb dX11_place_50 rfl hl (by decide) (by simp [cat_rf, cat_i, cat_j, cat_r]) (fun ls hl => ?_)
      refine lv_iconst (v := 1) hx hb dX11_place_51 (by decide) ?_
      refine lv_istore (i := 4) (lv' := [(4, .int 1), (3, .int v13), (2, va_rf v3.1), (0, .ref th), (1, .int a0)]) hx hb dX11_place_52 hl (by decide) rfl (fun ls hl => ?_)
      refine lv_iconst (v := 0) hx hb dX11_place_54 (by decide) ?_
      refine lv_istore (i := 5) (lv' := [(5, .int 0), (4, .int 1), (3, .int v13), (2, va_rf v3.1), (0, .ref th), (1, .int a0)]) hx hb dX11_place_55 hl (by decide) rfl (fun ls hl => ?_)
      obtain ⟨q30, g_q30, hs⟩ := bd hs
      refine w_X11_place_L57 F N 1 0 v12.2 _ _ _ q30 g_q30 (lv_sub hl [4, 2, 1, 0] rfl) M (fun t_ ls H locs eq_ hl M => ?_) (fun v eq_ => eq_.elim)
      subst eq_
      refine lv_aload_n hx hb dX11_place_118 rfl (lv_at hl 0 rfl) ?_
      refine lv_iload hx hb dX11_place_119 (lv_at hl 1 rfl) ?_
      refine lv_i2l hx hb dX11_place_121 rfl ?_
      obtain ⟨v31, g_v31, hs⟩ := bd hs
      obtain ⟨a32, e_a32, k_a32, g_v31⟩ := cV_some g_v31
      obtain rfl := Option.some.inj e_a32
      refine ca_Vl (bq := th) (As := [.long q30.1.toInt64]) (rest := []) F M (c_X11_answered g_v31) mf_X11_answered t_665 k_a32 rfl ⟨by decide, by decide⟩ ⟨rfl, rfl⟩ ⟨Nat.zero_le _, Nat.zero_le _⟩ hl.1 rfl (by decide) dX11_place_122 (fun H locs M => ?_)
      refine lv_l2i hx hb dX11_place_125 rfl ?_
      obtain rfl := Option.some.inj hs
      exact re_i F M dX11_place_126
    · rw [if_pos c8] at hs
      refine lv_aload_n hx hb dX11_place_31 rfl (lv_at hl 1 rfl) ?_
      refine lv_bipush (v := 7) hx hb dX11_place_32 (by decide) ?_
      obtain ⟨v9, g_v9, hs⟩ := bd hs
      obtain ⟨a10, e_a10, k_a10, g_v9⟩ := cV_some g_v9
      obtain rfl := Option.some.inj e_a10
      refine ca_Vl (bq := th) (As := [.int 7]) (rest := []) F M (c_X11_refused g_v9) mf_X11_refused t_685 k_a10 rfl ⟨by decide, by decide⟩ ⟨rfl, rfl⟩ ⟨Nat.zero_le _, Nat.zero_le _⟩ hl.1 rfl (by decide) dX11_place_34 (fun H locs M => ?_)
      refine lv_l2i hx hb dX11_place_37 rfl ?_
      obtain rfl := Option.some.inj hs
      exact re_i F M dX11_place_38
  · rw [if_pos c4] at hs
    refine lv_aload_n hx hb dX11_place_17 rfl (lv_at hl 1 rfl) ?_
    refine lv_lconst (v := 0) hx hb dX11_place_18 (by decide) ?_
    obtain ⟨v5, g_v5, hs⟩ := bd hs
    obtain ⟨a6, e_a6, k_a6, g_v5⟩ := cV_some g_v5
    obtain rfl := Option.some.inj e_a6
    refine ca_Vl (bq := th) (As := [.long 0]) (rest := []) F M (c_X11_answered g_v5) mf_X11_answered t_665 k_a6 rfl ⟨by decide, by decide⟩ ⟨rfl, rfl⟩ ⟨Nat.zero_le _, Nat.zero_le _⟩ hl.1 rfl (by decide) dX11_place_19 (fun H locs M => ?_)
    refine lv_l2i hx hb dX11_place_22 rfl ?_
    obtain rfl := Option.some.inj hs
    exact re_i F M dX11_place_23
abbrev rm_X11_publish : Room := { frames := 6, cells := 0, slots := 0, locals := 157 }
theorem mf_X11_publish : MV 11 yX11_publish cX11_publish 2 (some .int) 0 RX11 := ⟨t_987, t_985, t_986, t_1, ⟨by decide +kernel, by decide +kernel, by decide +kernel⟩, rfl, by decide⟩
def s_X11_publish_L20 (N : Nat) : Nat → Nat → Int32 → IH → Option (IH)
  | 0, _, _, _ => none
  | n + 1, th, x1, h => (gR h 11 1 (some th)).bind fun v5 => (gI h 7 1 v5).bind fun v6 => if v6 ≤ x1 then some h else (gR h 11 6 (some th)).bind fun v8 => (gI h 11 8 (some th)).bind fun v9 => (aR h 6 v8 v9).bind fun v10 => (gR h 11 5 (some th)).bind fun v11 => (cV h 8 v11 fun a15 => s_X8_totalOf N h a15 x1).bind fun v12 => (s_X11_orZero v12.2 v12.1).bind fun v13 => (sI v12.2 v10 x1 v13).bind fun h14 => s_X11_publish_L20 N n th (x1 + 1) h14
def s_X11_publish (N : Nat) (h : IH) (th : Nat) : Option (Int32 × IH) := (gI h 11 8 (some th)).bind fun v1 => if v1 < 20 then (gR h 11 4 (some th)).bind fun v3 => (cV h 0 v3 fun a25 => s_X0_refresh N h a25 ).bind fun v4 => (s_X11_publish_L20 N N th 0 v4).bind fun q16 => (gR q16 11 7 (some th)).bind fun v17 => (gI q16 11 8 (some th)).bind fun v18 => (gR q16 11 1 (some th)).bind fun v19 => (gI q16 7 1 v19).bind fun v20 => (sI q16 v17 v18 v20).bind fun h21 => (gI h21 11 8 (some th)).bind fun v22 => (pI h21 11 8 (some th) (v22 + 1)).bind fun h23 => (gI h23 11 8 (some th)).bind fun v24 => some (v24, h23) else some ((-1), h)
set_option maxHeartbeats 4000000 in
set_option maxRecDepth 100000 in
theorem w_X11_publish_L20 {p : Program} {l : Launch} {e : Env} {s : State} {m : MethodId} {args : Array Value} {below : List Frame} {meth : Method} {c : Code} {D : va_G} {cy : Nat → ClassId} {A : Nat → Prop} {H0 : Heap} {N th : Nat} {qF : Int32 × IH} (F : Fx p s m args meth c D cy A H0 yX11_publish cX11_publish 2 (some .int)) : ∀ (n : Nat) (x1 : Int32) (h : IH) (ls : Array Slot) (H : Heap) (locs : List Loc) (q : IH), s_X11_publish_L20 N n th x1 h = some q → lv_has ls 2 [(0, .ref th), (1, .int x1)] → Mo D cy A H0 h H locs → (∀ (t : IH) (ls : Array Slot) (H : Heap) (locs : List Loc), q = t → lv_has ls 2 [(0, .ref th)] → Mo D cy A H0 t H locs → W p l e rm_X11_publish s m args below meth c H locs 0 0 (MQ below (QR D cy qF.2 A (some (.int qF.1))) args s 0 0 A) (F0 m 59 ls [])) → (∀ v : Int32 × IH, False → v = qF) → W p l e rm_X11_publish s m args below meth c H locs 0 0 (MQ below (QR D cy qF.2 A (some (.int qF.1))) args s 0 0 A) (F0 m 20 ls []) := by
  intro n
  induction n with
  | zero => intro x1 h ls H locs q hs; rw [s_X11_publish_L20.eq_1] at hs; cases hs
  | succ n ih =>
    intro x1 h ls H locs q hs hl M kx kr
    obtain ⟨hx, hb, hr, hml, hown, hlk, hts, hK, hN, hA, hH⟩ := id F
    rw [s_X11_publish_L20.eq_2] at hs
    refine lv_iload_n hx hb dX11_publish_20 rfl (lv_at hl 1 rfl) ?_
    refine lv_aload_n hx hb dX11_publish_21 rfl (lv_at hl 0 rfl) ?_
    obtain ⟨v5, g_v5, hs⟩ := bd hs
    refine ro_gR F M fg_11_1 t_331 g_v5 dX11_publish_22 ?_
    obtain ⟨v6, g_v6, hs⟩ := bd hs
    refine ro_gIN F M fg_7_1 tN_72 g_v6 dX11_publish_25 ?_
    refine lv_icmp_ge (tgt := 59) hx hb dX11_publish_28 (by decide) (fun c7 => ?_) (fun c7 => ?_)
    · rw [if_pos c7] at hs
      exact kx h _ _ _ (Option.some.inj hs).symm (lv_sub hl [0] rfl) M
    · rw [if_neg c7] at hs
      refine lv_aload_n hx hb dX11_publish_31 rfl (lv_at hl 0 rfl) ?_
      obtain ⟨v8, g_v8, hs⟩ := bd hs
      refine ro_gR F M fg_11_6 t_336 g_v8 dX11_publish_32 ?_
      refine lv_aload_n hx hb dX11_publish_35 rfl (lv_at hl 0 rfl) ?_
      obtain ⟨v9, g_v9, hs⟩ := bd hs
      refine ro_gI F M fg_11_8 t_338 g_v9 dX11_publish_36 ?_
      obtain ⟨v10, g_v10, hs⟩ := bd hs
      refine ro_aG F M g_v10 dX11_publish_39 ?_
      refine lv_iload_n hx hb dX11_publish_40 rfl (lv_at hl 1 rfl) ?_
      refine lv_aload_n hx hb dX11_publish_41 rfl (lv_at hl 0 rfl) ?_
      obtain ⟨v11, g_v11, hs⟩ := bd hs
      refine ro_gR F M fg_11_5 t_335 g_v11 dX11_publish_42 ?_
      refine lv_iload_n hx hb dX11_publish_45 rfl (lv_at hl 1 rfl) ?_
      obtain ⟨v12, g_v12, hs⟩ := bd hs
      obtain ⟨a15, e_a15, k_a15, g_v12⟩ := cV_some g_v12
      refine ca_VNl (bq := a15) (As := [.int x1]) (rest := [.int x1, va_rf v10]) F M (c_X8_totalOf g_v12) mf_X8_totalOf tN_927 k_a15 rfl ⟨by decide, by decide⟩ ⟨rfl, rfl⟩ ⟨Nat.zero_le _, Nat.zero_le _⟩ hl.1 (by rw [e_a15]; rfl) (by simp [cat_rf, cat_i, cat_j, cat_r]) dX11_publish_46 (fun H locs M => ?_)
      obtain ⟨v13, g_v13, hs⟩ := bd hs
      refine ca_Si (As := [.long v12.1]) (rest := [.int x1, va_rf v10]) F M (c_X11_orZero g_v13) mf_X11_orZero t_981 rfl ⟨by decide, by decide⟩ ⟨rfl, rfl⟩ ⟨Nat.zero_le _, Nat.zero_le _⟩ hl.1 rfl (by simp [cat_rf, cat_i, cat_j, cat_r]) dX11_publish_49 (fun H locs M => ?_)
      obtain ⟨h14, g_h14, hs⟩ := bd hs
      refine ro_sI F M g_h14 dX11_publish_52 (fun H locs M => ?_)
      refine lv_iinc (v := x1 + 1) (lv' := [(1, .int (x1 + 1)), (0, .ref th)]) hx hb dX11_publish_53 hl (k := 1) rfl rfl (by decide) rfl (fun ls hl => ?_)
      refine lv_goto (tgt := 20) hx hb dX11_publish_56 (by decide) ?_
      exact ih (x1 + 1) h14 _ _ _ _ hs (lv_sub hl [1, 0] rfl) M kx kr
set_option maxHeartbeats 4000000 in
set_option maxRecDepth 100000 in
theorem c_X11_publish {l : Launch} {D : va_G} {cy : Nat → ClassId} {sz N : Nat} {h : IH} {th : Nat} {qF : Int32 × IH} (hs : s_X11_publish N h th = some qF) : Ct l D cy yX11_publish cX11_publish 2 (some .int) rm_X11_publish h sz [.ref th] qF.2 (some (.int qF.1)) := by
  refine ct_start (by decide +kernel) [(0, .ref th)] (Nat.le_of_ble_eq_true rfl) rfl ?_
  intro p e s m args below meth c A H0 ls F hin hsz M hl
  obtain ⟨hx, hb, hr, hml, hown, hlk, hts, hK, hN, hA, hH⟩ := id F
  generalize s.heap = H at M ⊢
  generalize ([] : List Loc) = locs at M ⊢
  unfold s_X11_publish at hs
  refine lv_aload_n hx hb dX11_publish_0 rfl (lv_at hl 0 rfl) ?_
  obtain ⟨v1, g_v1, hs⟩ := bd hs
  refine ro_gI F M fg_11_8 t_338 g_v1 dX11_publish_1 ?_
  refine lv_bipush (v := 20) hx hb dX11_publish_4 (by decide) ?_
  refine lv_icmp_lt (tgt := 11) hx hb dX11_publish_6 (by decide) (fun c2 => ?_) (fun c2 => ?_)
  · rw [if_pos c2] at hs
    refine lv_aload_n hx hb dX11_publish_11 rfl (lv_at hl 0 rfl) ?_
    obtain ⟨v3, g_v3, hs⟩ := bd hs
    refine ro_gR F M fg_11_4 t_334 g_v3 dX11_publish_12 ?_
    obtain ⟨v4, g_v4, hs⟩ := bd hs
    obtain ⟨a25, e_a25, k_a25, g_v4⟩ := cV_some g_v4
    refine ca_VNv (bq := a25) (As := []) (rest := []) F M (c_X0_refresh g_v4) mf_X0_refresh tN_714 k_a25 rfl ⟨by decide, by decide⟩ ⟨rfl, rfl⟩ ⟨Nat.zero_le _, Nat.zero_le _⟩ hl.1 (by rw [e_a25]; rfl) (by decide) dX11_publish_15 (fun H locs M => ?_)
    refine lv_iconst (v := 0) hx hb dX11_publish_18 (by decide) ?_
    refine lv_istore_n (i := 1) (lv' := [(1, .int 0), (0, .ref th)]) hx hb dX11_publish_19 rfl hl (by decide) rfl (fun ls hl => ?_)
    obtain ⟨q16, g_q16, hs⟩ := bd hs
    refine w_X11_publish_L20 F N 0 v4 _ _ _ q16 g_q16 (lv_sub hl [1, 0] rfl) M (fun t_ ls H locs eq_ hl M => ?_) (fun v eq_ => eq_.elim)
    subst eq_
    refine lv_aload_n hx hb dX11_publish_59 rfl (lv_at hl 0 rfl) ?_
    obtain ⟨v17, g_v17, hs⟩ := bd hs
    refine ro_gR F M fg_11_7 t_337 g_v17 dX11_publish_60 ?_
    refine lv_aload_n hx hb dX11_publish_63 rfl (lv_at hl 0 rfl) ?_
    obtain ⟨v18, g_v18, hs⟩ := bd hs
    refine ro_gI F M fg_11_8 t_338 g_v18 dX11_publish_64 ?_
    refine lv_aload_n hx hb dX11_publish_67 rfl (lv_at hl 0 rfl) ?_
    obtain ⟨v19, g_v19, hs⟩ := bd hs
    refine ro_gR F M fg_11_1 t_331 g_v19 dX11_publish_68 ?_
    obtain ⟨v20, g_v20, hs⟩ := bd hs
    refine ro_gIN F M fg_7_1 tN_72 g_v20 dX11_publish_71 ?_
    obtain ⟨h21, g_h21, hs⟩ := bd hs
    refine ro_sI F M g_h21 dX11_publish_74 (fun H locs M => ?_)
    refine lv_aload_n hx hb dX11_publish_75 rfl (lv_at hl 0 rfl) ?_
    refine lv_dup hx hb dX11_publish_76 rfl ?_
    obtain ⟨v22, g_v22, hs⟩ := bd hs
    refine ro_gI F M fg_11_8 t_338 g_v22 dX11_publish_77 ?_
    refine lv_iconst (v := 1) hx hb dX11_publish_80 (by decide) ?_
    refine lv_iadd hx hb dX11_publish_81 ?_
    obtain ⟨h23, g_h23, hs⟩ := bd hs
    refine ro_pI F M fg_11_8 fp_11_8 rfl t_338 g_h23 dX11_publish_82 (fun H locs M => ?_)
    refine lv_aload_n hx hb dX11_publish_85 rfl (lv_at hl 0 rfl) ?_
    obtain ⟨v24, g_v24, hs⟩ := bd hs
    refine ro_gI F M fg_11_8 t_338 g_v24 dX11_publish_86 ?_
    obtain rfl := Option.some.inj hs
    exact re_i F M dX11_publish_89
  · rw [if_neg c2] at hs
    refine lv_iconst (v := (-1)) hx hb dX11_publish_9 (by decide) ?_
    obtain rfl := Option.some.inj hs
    exact re_i F M dX11_publish_10
abbrev rm_X11_known : Room := { frames := 2, cells := 0, slots := 0, locals := 43 }
theorem mf_X11_known : MV 11 yX11_known cX11_known 4 (some .int) 2 RX11 := ⟨t_991, t_989, t_990, t_1, ⟨by decide +kernel, by decide +kernel, by decide +kernel⟩, rfl, by decide⟩
def s_X11_known (h : IH) (th : Nat) (a0 : Int32) (a1 : Int32) : Option (Int32 × IH) := (cV h 11 (some th) fun a22 => s_X11_askedStation h a22 a1).bind fun v1 => if v1.1 = none then (cV v1.2 11 (some th) fun a4 => s_X11_answered v1.2 a4 0).bind fun v3 => some (v3.1.toInt32, v3.2) else if a0 < 1 then (cV v1.2 11 (some th) fun a7 => s_X11_refused v1.2 a7 2).bind fun v6 => some (v6.1.toInt32, v6.2) else (gI v1.2 11 8 (some th)).bind fun v8 => if v8 < a0 then (cV v1.2 11 (some th) fun a11 => s_X11_refused v1.2 a11 2).bind fun v10 => some (v10.1.toInt32, v10.2) else (gR v1.2 11 7 (some th)).bind fun v12 => (aI v1.2 v12 (a0 - 1)).bind fun v13 => if a1 < v13 then (gR v1.2 11 6 (some th)).bind fun v15 => (aR v1.2 6 v15 (a0 - 1)).bind fun v16 => (aI v1.2 v16 a1).bind fun v17 => (cV v1.2 11 (some th) fun a19 => s_X11_answered v1.2 a19 v17.toInt64).bind fun v18 => some (v18.1.toInt32, v18.2) else (cV v1.2 11 (some th) fun a21 => s_X11_refused v1.2 a21 2).bind fun v20 => some (v20.1.toInt32, v20.2)
set_option maxHeartbeats 4000000 in
set_option maxRecDepth 100000 in
theorem c_X11_known {l : Launch} {D : va_G} {cy : Nat → ClassId} {sz : Nat} {h : IH} {th : Nat} {a0 : Int32} {a1 : Int32} {qF : Int32 × IH} (hs : s_X11_known h th a0 a1 = some qF) : Ct l D cy yX11_known cX11_known 4 (some .int) rm_X11_known h sz [.ref th, .int a0, .int a1] qF.2 (some (.int qF.1)) := by
  refine ct_start (by decide +kernel) [(0, .ref th), (1, .int a0), (2, .int a1)] (Nat.le_of_ble_eq_true rfl) rfl ?_
  intro p e s m args below meth c A H0 ls F hin hsz M hl
  obtain ⟨hx, hb, hr, hml, hown, hlk, hts, hK, hN, hA, hH⟩ := id F
  generalize s.heap = H at M ⊢
  generalize ([] : List Loc) = locs at M ⊢
  unfold s_X11_known at hs
  refine lv_aload_n hx hb dX11_known_0 rfl (lv_at hl 0 rfl) ?_
  refine lv_iload_n hx hb dX11_known_1 rfl (lv_at hl 2 rfl) ?_
  obtain ⟨v1, g_v1, hs⟩ := bd hs
  obtain ⟨a22, e_a22, k_a22, g_v1⟩ := cV_some g_v1
  obtain rfl := Option.some.inj e_a22
  refine ca_Va (bq := th) (As := [.int a1]) (rest := []) F M (c_X11_askedStation g_v1) mf_X11_askedStation t_657 k_a22 rfl ⟨by decide, by decide⟩ ⟨rfl, rfl⟩ ⟨Nat.zero_le _, Nat.zero_le _⟩ hl.1 rfl (by decide) dX11_known_2 (fun H locs M => ?_)
  refine lo_astore_n (i := 3) (lv' := [(3, va_rf v1.1), (0, .ref th), (1, .int a0), (2, .int a1)]) hx hb dX11_known_5 rfl hl (by decide) rfl (fun ls hl => ?_)
  refine lo_aload_n hx hb dX11_known_6 rfl (lv_at hl 0 rfl) ?_
  refine lo_ifnonnull (tgt := 17) hx hb dX11_known_7 (by decide) (fun c2 => ?_) (fun c2 => ?_)
  · rw [if_neg c2] at hs
    refine lv_iload_n hx hb dX11_known_17 rfl (lv_at hl 2 rfl) ?_
    refine lv_iconst (v := 1) hx hb dX11_known_18 (by decide) ?_
    refine lv_icmp_lt (tgt := 42) hx hb dX11_known_19 (by decide) (fun c5 => ?_) (fun c5 => ?_)
    · rw [if_pos c5] at hs
      refine lv_aload_n hx hb dX11_known_42 rfl (lv_at hl 1 rfl) ?_
      refine lv_iconst (v := 2) hx hb dX11_known_43 (by decide) ?_
      obtain ⟨v6, g_v6, hs⟩ := bd hs
      obtain ⟨a7, e_a7, k_a7, g_v6⟩ := cV_some g_v6
      obtain rfl := Option.some.inj e_a7
      refine ca_Vl (bq := th) (As := [.int 2]) (rest := []) F M (c_X11_refused g_v6) mf_X11_refused t_685 k_a7 rfl ⟨by decide, by decide⟩ ⟨rfl, rfl⟩ ⟨Nat.zero_le _, Nat.zero_le _⟩ hl.1 rfl (by decide) dX11_known_44 (fun H locs M => ?_)
      refine lv_l2i hx hb dX11_known_47 rfl ?_
      obtain rfl := Option.some.inj hs
      exact re_i F M dX11_known_48
    · rw [if_neg c5] at hs
      refine lv_iload_n hx hb dX11_known_22 rfl (lv_at hl 2 rfl) ?_
      refine lv_aload_n hx hb dX11_known_23 rfl (lv_at hl 1 rfl) ?_
      obtain ⟨v8, g_v8, hs⟩ := bd hs
      refine ro_gI F M fg_11_8 t_338 g_v8 dX11_known_24 ?_
      refine lv_icmp_gt (tgt := 42) hx hb dX11_known_27 (by decide) (fun c9 => ?_) (fun c9 => ?_)
      · rw [if_pos c9] at hs
        refine lv_aload_n hx hb dX11_known_42 rfl (lv_at hl 1 rfl) ?_
        refine lv_iconst (v := 2) hx hb dX11_known_43 (by decide) ?_
        obtain ⟨v10, g_v10, hs⟩ := bd hs
        obtain ⟨a11, e_a11, k_a11, g_v10⟩ := cV_some g_v10
        obtain rfl := Option.some.inj e_a11
        refine ca_Vl (bq := th) (As := [.int 2]) (rest := []) F M (c_X11_refused g_v10) mf_X11_refused t_685 k_a11 rfl ⟨by decide, by decide⟩ ⟨rfl, rfl⟩ ⟨Nat.zero_le _, Nat.zero_le _⟩ hl.1 rfl (by decide) dX11_known_44 (fun H locs M => ?_)
        refine lv_l2i hx hb dX11_known_47 rfl ?_
        obtain rfl := Option.some.inj hs
        exact re_i F M dX11_known_48
      · rw [if_neg c9] at hs
        refine lv_iload_n hx hb dX11_known_30 rfl (lv_at hl 3 rfl) ?_
        refine lv_aload_n hx hb dX11_known_31 rfl (lv_at hl 1 rfl) ?_
        obtain ⟨v12, g_v12, hs⟩ := bd hs
        refine ro_gR F M fg_11_7 t_337 g_v12 dX11_known_32 ?_
        refine lv_iload_n hx hb dX11_known_35 rfl (lv_at hl 2 rfl) ?_
        refine lv_iconst (v := 1) hx hb dX11_known_36 (by decide) ?_
        refine lv_isub hx hb dX11_known_37 ?_
        obtain ⟨v13, g_v13, hs⟩ := bd hs
        refine ro_aI F M g_v13 dX11_known_38 ?_
        refine lv_icmp_lt (tgt := 49) hx hb dX11_known_39 (by decide) (fun c14 => ?_) (fun c14 => ?_)
        · rw [if_pos c14] at hs
          refine lv_aload_n hx hb dX11_known_49 rfl (lv_at hl 1 rfl) ?_
          refine lv_aload_n hx hb dX11_known_50 rfl (lv_at hl 1 rfl) ?_
          obtain ⟨v15, g_v15, hs⟩ := bd hs
          refine ro_gR F M fg_11_6 t_336 g_v15 dX11_known_51 ?_
          refine lv_iload_n hx hb dX11_known_54 rfl (lv_at hl 2 rfl) ?_
          refine lv_iconst (v := 1) hx hb dX11_known_55 (by decide) ?_
          refine lv_isub hx hb dX11_known_56 ?_
          obtain ⟨v16, g_v16, hs⟩ := bd hs
          refine ro_aG F M g_v16 dX11_known_57 ?_
          refine lv_iload_n hx hb dX11_known_58 rfl (lv_at hl 3 rfl) ?_
          obtain ⟨v17, g_v17, hs⟩ := bd hs
          refine ro_aI F M g_v17 dX11_known_59 ?_
          refine lv_i2l hx hb dX11_known_60 rfl ?_
          obtain ⟨v18, g_v18, hs⟩ := bd hs
          obtain ⟨a19, e_a19, k_a19, g_v18⟩ := cV_some g_v18
          obtain rfl := Option.some.inj e_a19
          refine ca_Vl (bq := th) (As := [.long v17.toInt64]) (rest := []) F M (c_X11_answered g_v18) mf_X11_answered t_665 k_a19 rfl ⟨by decide, by decide⟩ ⟨rfl, rfl⟩ ⟨Nat.zero_le _, Nat.zero_le _⟩ hl.1 rfl (by decide) dX11_known_61 (fun H locs M => ?_)
          refine lv_l2i hx hb dX11_known_64 rfl ?_
          obtain rfl := Option.some.inj hs
          exact re_i F M dX11_known_65
        · rw [if_neg c14] at hs
          refine lv_aload_n hx hb dX11_known_42 rfl (lv_at hl 1 rfl) ?_
          refine lv_iconst (v := 2) hx hb dX11_known_43 (by decide) ?_
          obtain ⟨v20, g_v20, hs⟩ := bd hs
          obtain ⟨a21, e_a21, k_a21, g_v20⟩ := cV_some g_v20
          obtain rfl := Option.some.inj e_a21
          refine ca_Vl (bq := th) (As := [.int 2]) (rest := []) F M (c_X11_refused g_v20) mf_X11_refused t_685 k_a21 rfl ⟨by decide, by decide⟩ ⟨rfl, rfl⟩ ⟨Nat.zero_le _, Nat.zero_le _⟩ hl.1 rfl (by decide) dX11_known_44 (fun H locs M => ?_)
          refine lv_l2i hx hb dX11_known_47 rfl ?_
          obtain rfl := Option.some.inj hs
          exact re_i F M dX11_known_48
  · rw [if_pos c2] at hs
    refine lv_aload_n hx hb dX11_known_10 rfl (lv_at hl 1 rfl) ?_
    refine lv_lconst (v := 0) hx hb dX11_known_11 (by decide) ?_
    obtain ⟨v3, g_v3, hs⟩ := bd hs
    obtain ⟨a4, e_a4, k_a4, g_v3⟩ := cV_some g_v3
    obtain rfl := Option.some.inj e_a4
    refine ca_Vl (bq := th) (As := [.long 0]) (rest := []) F M (c_X11_answered g_v3) mf_X11_answered t_665 k_a4 rfl ⟨by decide, by decide⟩ ⟨rfl, rfl⟩ ⟨Nat.zero_le _, Nat.zero_le _⟩ hl.1 rfl (by decide) dX11_known_12 (fun H locs M => ?_)
    refine lv_l2i hx hb dX11_known_15 rfl ?_
    obtain rfl := Option.some.inj hs
    exact re_i F M dX11_known_16
abbrev rm_X11_finding : Room := { frames := 0, cells := 0, slots := 0, locals := 0 }
theorem mf_X11_finding : MV 11 yX11_finding cX11_finding 1 (some .int) 0 RX11 := ⟨t_995, t_993, t_994, t_1, ⟨by decide +kernel, by decide +kernel, by decide +kernel⟩, rfl, by decide⟩
def s_X11_finding (h : IH) (th : Nat) : Option (Int32) := (gI h 11 9 (some th)).bind fun v1 => some v1
set_option maxHeartbeats 4000000 in
set_option maxRecDepth 100000 in
theorem c_X11_finding {l : Launch} {D : va_G} {cy : Nat → ClassId} {sz : Nat} {h : IH} {th : Nat} {qF : Int32} (hs : s_X11_finding h th = some qF) : Ct l D cy yX11_finding cX11_finding 1 (some .int) rm_X11_finding h sz [.ref th] h (some (.int qF)) := by
  refine ct_start (by decide +kernel) [(0, .ref th)] (Nat.le_of_ble_eq_true rfl) rfl ?_
  intro p e s m args below meth c A H0 ls F hin hsz M hl
  obtain ⟨hx, hb, hr, hml, hown, hlk, hts, hK, hN, hA, hH⟩ := id F
  generalize s.heap = H at M ⊢
  generalize ([] : List Loc) = locs at M ⊢
  unfold s_X11_finding at hs
  refine lv_aload_n hx hb dX11_finding_0 rfl (lv_at hl 0 rfl) ?_
  obtain ⟨v1, g_v1, hs⟩ := bd hs
  refine ro_gI F M fg_11_9 t_339 g_v1 dX11_finding_1 ?_
  obtain rfl := Option.some.inj hs
  exact re_i F M dX11_finding_4
abbrev rm_X11_count : Room := { frames := 0, cells := 0, slots := 0, locals := 0 }
theorem mf_X11_count : MV 11 yX11_count cX11_count 2 (some .int) 1 RX11 := ⟨t_999, t_997, t_998, t_1, ⟨by decide +kernel, by decide +kernel, by decide +kernel⟩, rfl, by decide⟩
def s_X11_count (h : IH) (th : Nat) (a0 : Int32) : Option (Int32) := if a0 = 0 then (gR h 11 1 (some th)).bind fun v9 => (gI h 7 1 v9).bind fun v10 => some v10 else if a0 = 1 then (gR h 11 0 (some th)).bind fun v11 => (gI h 10 1 v11).bind fun v12 => some v12 else if a0 = 2 then (gR h 11 2 (some th)).bind fun v13 => (gI h 5 3 v13).bind fun v14 => some v14 else if a0 = 3 then (gI h 11 10 (some th)).bind fun v15 => some v15 else if a0 = 4 then (gI h 11 11 (some th)).bind fun v16 => some v16 else if a0 = 5 then (gI h 11 12 (some th)).bind fun v17 => some v17 else if a0 = 6 then (gI h 11 13 (some th)).bind fun v18 => some v18 else if a0 = 7 then (gI h 11 8 (some th)).bind fun v19 => some v19 else some (-1)
set_option maxHeartbeats 4000000 in
set_option maxRecDepth 100000 in
theorem c_X11_count {l : Launch} {D : va_G} {cy : Nat → ClassId} {sz : Nat} {h : IH} {th : Nat} {a0 : Int32} {qF : Int32} (hs : s_X11_count h th a0 = some qF) : Ct l D cy yX11_count cX11_count 2 (some .int) rm_X11_count h sz [.ref th, .int a0] h (some (.int qF)) := by
  refine ct_start (by decide +kernel) [(0, .ref th), (1, .int a0)] (Nat.le_of_ble_eq_true rfl) rfl ?_
  intro p e s m args below meth c A H0 ls F hin hsz M hl
  obtain ⟨hx, hb, hr, hml, hown, hlk, hts, hK, hN, hA, hH⟩ := id F
  generalize s.heap = H at M ⊢
  generalize ([] : List Loc) = locs at M ⊢
  unfold s_X11_count at hs
  refine lv_iload_n hx hb dX11_count_0 rfl (lv_at hl 1 rfl) ?_
  by_cases c1 : a0 = 0
  · rw [if_pos c1] at hs
    refine lv_tableIn (tgt := 48) hx hb dX11_count_1 (by rw [c1]; decide) (by rw [c1]; decide) (by rw [c1]; rfl) (by decide) ?_
    refine lv_aload_n hx hb dX11_count_48 rfl (lv_at hl 0 rfl) ?_
    obtain ⟨v9, g_v9, hs⟩ := bd hs
    refine ro_gR F M fg_11_1 t_331 g_v9 dX11_count_49 ?_
    obtain ⟨v10, g_v10, hs⟩ := bd hs
    refine ro_gIN F M fg_7_1 tN_72 g_v10 dX11_count_52 ?_
    obtain rfl := Option.some.inj hs
    exact re_i F M dX11_count_55
  rw [if_neg c1] at hs
  by_cases c2 : a0 = 1
  · rw [if_pos c2] at hs
    refine lv_tableIn (tgt := 56) hx hb dX11_count_1 (by rw [c2]; decide) (by rw [c2]; decide) (by rw [c2]; rfl) (by decide) ?_
    refine lv_aload_n hx hb dX11_count_56 rfl (lv_at hl 0 rfl) ?_
    obtain ⟨v11, g_v11, hs⟩ := bd hs
    refine ro_gR F M fg_11_0 t_330 g_v11 dX11_count_57 ?_
    obtain ⟨v12, g_v12, hs⟩ := bd hs
    refine ro_gIN F M fg_10_1 tN_39 g_v12 dX11_count_60 ?_
    obtain rfl := Option.some.inj hs
    exact re_i F M dX11_count_63
  rw [if_neg c2] at hs
  by_cases c3 : a0 = 2
  · rw [if_pos c3] at hs
    refine lv_tableIn (tgt := 64) hx hb dX11_count_1 (by rw [c3]; decide) (by rw [c3]; decide) (by rw [c3]; rfl) (by decide) ?_
    refine lv_aload_n hx hb dX11_count_64 rfl (lv_at hl 0 rfl) ?_
    obtain ⟨v13, g_v13, hs⟩ := bd hs
    refine ro_gR F M fg_11_2 t_332 g_v13 dX11_count_65 ?_
    obtain ⟨v14, g_v14, hs⟩ := bd hs
    refine ro_gIN F M fg_5_3 tN_190 g_v14 dX11_count_68 ?_
    obtain rfl := Option.some.inj hs
    exact re_i F M dX11_count_71
  rw [if_neg c3] at hs
  by_cases c4 : a0 = 3
  · rw [if_pos c4] at hs
    refine lv_tableIn (tgt := 72) hx hb dX11_count_1 (by rw [c4]; decide) (by rw [c4]; decide) (by rw [c4]; rfl) (by decide) ?_
    refine lv_aload_n hx hb dX11_count_72 rfl (lv_at hl 0 rfl) ?_
    obtain ⟨v15, g_v15, hs⟩ := bd hs
    refine ro_gI F M fg_11_10 t_340 g_v15 dX11_count_73 ?_
    obtain rfl := Option.some.inj hs
    exact re_i F M dX11_count_76
  rw [if_neg c4] at hs
  by_cases c5 : a0 = 4
  · rw [if_pos c5] at hs
    refine lv_tableIn (tgt := 77) hx hb dX11_count_1 (by rw [c5]; decide) (by rw [c5]; decide) (by rw [c5]; rfl) (by decide) ?_
    refine lv_aload_n hx hb dX11_count_77 rfl (lv_at hl 0 rfl) ?_
    obtain ⟨v16, g_v16, hs⟩ := bd hs
    refine ro_gI F M fg_11_11 t_341 g_v16 dX11_count_78 ?_
    obtain rfl := Option.some.inj hs
    exact re_i F M dX11_count_81
  rw [if_neg c5] at hs
  by_cases c6 : a0 = 5
  · rw [if_pos c6] at hs
    refine lv_tableIn (tgt := 82) hx hb dX11_count_1 (by rw [c6]; decide) (by rw [c6]; decide) (by rw [c6]; rfl) (by decide) ?_
    refine lv_aload_n hx hb dX11_count_82 rfl (lv_at hl 0 rfl) ?_
    obtain ⟨v17, g_v17, hs⟩ := bd hs
    refine ro_gI F M fg_11_12 t_342 g_v17 dX11_count_83 ?_
    obtain rfl := Option.some.inj hs
    exact re_i F M dX11_count_86
  rw [if_neg c6] at hs
  by_cases c7 : a0 = 6
  · rw [if_pos c7] at hs
    refine lv_tableIn (tgt := 87) hx hb dX11_count_1 (by rw [c7]; decide) (by rw [c7]; decide) (by rw [c7]; rfl) (by decide) ?_
    refine lv_aload_n hx hb dX11_count_87 rfl (lv_at hl 0 rfl) ?_
    obtain ⟨v18, g_v18, hs⟩ := bd hs
    refine ro_gI F M fg_11_13 t_343 g_v18 dX11_count_88 ?_
    obtain rfl := Option.some.inj hs
    exact re_i F M dX11_count_91
  rw [if_neg c7] at hs
  by_cases c8 : a0 = 7
  · rw [if_pos c8] at hs
    refine lv_tableIn (tgt := 92) hx hb dX11_count_1 (by rw [c8]; decide) (by rw [c8]; decide) (by rw [c8]; rfl) (by decide) ?_
    refine lv_aload_n hx hb dX11_count_92 rfl (lv_at hl 0 rfl) ?_
    obtain ⟨v19, g_v19, hs⟩ := bd hs
    refine ro_gI F M fg_11_8 t_338 g_v19 dX11_count_93 ?_
    obtain rfl := Option.some.inj hs
    exact re_i F M dX11_count_96
  rw [if_neg c8] at hs
  refine lv_tableOut (tgt := 97) hx hb dX11_count_1 (by have := ne_ti (k := 0) (n := 0) rfl c1; have := ne_ti (k := 1) (n := 1) rfl c2; have := ne_ti (k := 2) (n := 2) rfl c3; have := ne_ti (k := 3) (n := 3) rfl c4; have := ne_ti (k := 4) (n := 4) rfl c5; have := ne_ti (k := 5) (n := 5) rfl c6; have := ne_ti (k := 6) (n := 6) rfl c7; have := ne_ti (k := 7) (n := 7) rfl c8; omega) (by decide) ?_
  refine lv_iconst (v := (-1)) hx hb dX11_count_97 (by decide) ?_
  obtain rfl := Option.some.inj hs
  exact re_i F M dX11_count_98
abbrev rm_X12_feed : Room := { frames := 0, cells := 0, slots := 0, locals := 0 }
theorem mf_X12_feed : MV 12 yX12_feed cX12_feed 8 (some .int) 5 RX12 := ⟨t_1220, t_1218, t_1219, t_12, ⟨by decide +kernel, by decide +kernel, by decide +kernel⟩, rfl, by decide⟩
def s_X12_feed_L15 (N : Nat) : Nat → Nat → Int32 → Int32 → Int32 → Int32 → Int32 → Int32 → IH → Option (IH)
  | 0, _, _, _, _, _, _, _, _ => none
  | n + 1, th, x1, x2, x3, x4, x5, x6, h => if 20 ≤ x6 then some h else ((if 4 ≤ x6 then if 8 ≤ x6 then if 12 ≤ x6 then if 16 ≤ x6 then some x5 else some x4 else some x3 else some x2 else some x1) : Option (Int32)).bind fun q8 => (gR h 12 28 (some th)).bind fun v9 => (gI h 12 29 (some th)).bind fun v10 => (sI h v9 v10 ((q8 >>> ((24 - (8 * (x6 - x6 / 4 * 4))) &&& 31)) &&& 255)).bind fun h11 => (gI h11 12 29 (some th)).bind fun v12 => (pI h11 12 29 (some th) (v12 + 1)).bind fun h13 => s_X12_feed_L15 N n th x1 x2 x3 x4 x5 (x6 + 1) h13
def s_X12_feed (N : Nat) (h : IH) (th : Nat) (a0 : Int32) (a1 : Int32) (a2 : Int32) (a3 : Int32) (a4 : Int32) : Option (Int32 × IH) := (gI h 12 29 (some th)).bind fun v1 => if v1 ≤ 980 then (s_X12_feed_L15 N N th a0 a1 a2 a3 a4 0 h).bind fun q14 => (gI q14 12 29 (some th)).bind fun v15 => some (v15, q14) else some ((-1), h)
set_option maxHeartbeats 4000000 in
set_option maxRecDepth 100000 in
theorem w_X12_feed_L15 {p : Program} {l : Launch} {e : Env} {s : State} {m : MethodId} {args : Array Value} {below : List Frame} {meth : Method} {c : Code} {D : va_G} {cy : Nat → ClassId} {A : Nat → Prop} {H0 : Heap} {N th : Nat} {x1 : Int32} {x2 : Int32} {x3 : Int32} {x4 : Int32} {x5 : Int32} {qF : Int32 × IH} (F : Fx p s m args meth c D cy A H0 yX12_feed cX12_feed 8 (some .int)) : ∀ (n : Nat) (x6 : Int32) (h : IH) (ls : Array Slot) (H : Heap) (locs : List Loc) (q : IH), s_X12_feed_L15 N n th x1 x2 x3 x4 x5 x6 h = some q → lv_has ls 8 [(0, .ref th), (1, .int x1), (2, .int x2), (3, .int x3), (4, .int x4), (5, .int x5), (6, .int x6)] → Mo D cy A H0 h H locs → (∀ (t : IH) (ls : Array Slot) (H : Heap) (locs : List Loc), q = t → lv_has ls 8 [(0, .ref th)] → Mo D cy A H0 t H locs → W p l e rm_X12_feed s m args below meth c H locs 0 0 (MQ below (QR D cy qF.2 A (some (.int qF.1))) args s 0 0 A) (F0 m 112 ls [])) → (∀ v : Int32 × IH, False → v = qF) → W p l e rm_X12_feed s m args below meth c H locs 0 0 (MQ below (QR D cy qF.2 A (some (.int qF.1))) args s 0 0 A) (F0 m 15 ls []) := by
  intro n
  induction n with
  | zero => intro x6 h ls H locs q hs; rw [s_X12_feed_L15.eq_1] at hs; cases hs
  | succ n ih =>
    intro x6 h ls H locs q hs hl M kx kr
    obtain ⟨hx, hb, hr, hml, hown, hlk, hts, hK, hN, hA, hH⟩ := id F
    rw [s_X12_feed_L15.eq_2] at hs
    refine lv_iload hx hb dX12_feed_15 (lv_at hl 6 rfl) ?_
    refine lv_bipush (v := 20) hx hb dX12_feed_17 (by decide) ?_
    refine lv_icmp_ge (tgt := 112) hx hb dX12_feed_19 (by decide) (fun c3 => ?_) (fun c3 => ?_)
    · rw [if_pos c3] at hs
      exact kx h _ _ _ (Option.some.inj hs).symm (lv_sub hl [0] rfl) M
    · rw [if_neg c3] at hs
      refine lv_iload hx hb dX12_feed_22 (lv_at hl 6 rfl) ?_
      refine lv_iconst (v := 4) hx hb dX12_feed_24 (by decide) ?_
      obtain ⟨q8, hsq8, hs⟩ := bd hs
      have KJ68 : ∀ (ls : Array Slot) (H : Heap) (locs : List Loc), lv_has ls 8 [(0, .ref th), (1, .int x1), (2, .int x2), (3, .int x3), (4, .int x4), (5, .int x5), (6, .int x6)] → Mo D cy A H0 h H locs → W p l e rm_X12_feed s m args below meth c H locs 0 0 (MQ below (QR D cy qF.2 A (some (.int qF.1))) args s 0 0 A) (F0 m 68 ls [.int q8]) := by
        intro ls H locs hl M
        refine lv_istore (i := 7) (lv' := [(7, .int q8), (0, .ref th), (1, .int x1), (2, .int x2), (3, .int x3), (4, .int x4), (5, .int x5), (6, .int x6)]) hx hb dX12_feed_68 hl (by decide) rfl (fun ls hl => ?_)
        refine lv_aload_n hx hb dX12_feed_70 rfl (lv_at hl 1 rfl) ?_
        obtain ⟨v9, g_v9, hs⟩ := bd hs
        refine ro_gR F M fg_12_28 t_1034 g_v9 dX12_feed_71 ?_
        refine lv_aload_n hx hb dX12_feed_74 rfl (lv_at hl 1 rfl) ?_
        obtain ⟨v10, g_v10, hs⟩ := bd hs
        refine ro_gI F M fg_12_29 t_1035 g_v10 dX12_feed_75 ?_
        refine lv_iload hx hb dX12_feed_78 (lv_at hl 0 rfl) ?_
        refine lv_bipush (v := 24) hx hb dX12_feed_80 (by decide) ?_
        refine lv_bipush (v := 8) hx hb dX12_feed_82 (by decide) ?_
        refine lv_iload hx hb dX12_feed_84 (lv_at hl 7 rfl) ?_
        refine lv_iconst (v := 4) hx hb dX12_feed_86 (by decide) ?_
        refine lv_irem hx hb dX12_feed_87 (by decide) ?_
        refine lv_imul hx hb dX12_feed_88 ?_
        refine lv_isub hx hb dX12_feed_89 ?_
        refine lv_ishr hx hb dX12_feed_90 ?_
        refine lv_sipush (v := 255) hx hb dX12_feed_91 (by decide) ?_
        refine lv_iand hx hb dX12_feed_94 ?_
        obtain ⟨h11, g_h11, hs⟩ := bd hs
        refine ro_sI F M g_h11 dX12_feed_95 (fun H locs M => ?_)
        refine lv_aload_n hx hb dX12_feed_96 rfl (lv_at hl 1 rfl) ?_
        refine lv_dup hx hb dX12_feed_97 rfl ?_
        obtain ⟨v12, g_v12, hs⟩ := bd hs
        refine ro_gI F M fg_12_29 t_1035 g_v12 dX12_feed_98 ?_
        refine lv_iconst (v := 1) hx hb dX12_feed_101 (by decide) ?_
        refine lv_iadd hx hb dX12_feed_102 ?_
        obtain ⟨h13, g_h13, hs⟩ := bd hs
        refine ro_pI F M fg_12_29 fp_12_29 rfl t_1035 g_h13 dX12_feed_103 (fun H locs M => ?_)
        refine lv_iinc (v := x6 + 1) (lv' := [(6, .int (x6 + 1)), (7, .int q8), (0, .ref th), (1, .int x1), (2, .int x2), (3, .int x3), (4, .int x4), (5, .int x5)]) hx hb dX12_feed_106 hl (k := 7) rfl rfl (by decide) rfl (fun ls hl => ?_)
        refine lv_goto (tgt := 15) hx hb dX12_feed_109 (by decide) ?_
        exact ih (x6 + 1) h13 _ _ _ _ hs (lv_sub hl [2, 3, 4, 5, 6, 7, 0] rfl) M kx kr
      clear hs
      have hs := hsq8
      refine lv_icmp_ge (tgt := 32) hx hb dX12_feed_25 (by decide) (fun c4 => ?_) (fun c4 => ?_)
      · rw [if_pos c4] at hs
        refine lv_iload hx hb dX12_feed_32 (lv_at hl 6 rfl) ?_
        refine lv_bipush (v := 8) hx hb dX12_feed_34 (by decide) ?_
        refine lv_icmp_ge (tgt := 43) hx hb dX12_feed_36 (by decide) (fun c5 => ?_) (fun c5 => ?_)
        · rw [if_pos c5] at hs
          refine lv_iload hx hb dX12_feed_43 (lv_at hl 6 rfl) ?_
          refine lv_bipush (v := 12) hx hb dX12_feed_45 (by decide) ?_
          refine lv_icmp_ge (tgt := 54) hx hb dX12_feed_47 (by decide) (fun c6 => ?_) (fun c6 => ?_)
          · rw [if_pos c6] at hs
            refine lv_iload hx hb dX12_feed_54 (lv_at hl 6 rfl) ?_
            refine lv_bipush (v := 16) hx hb dX12_feed_56 (by decide) ?_
            refine lv_icmp_ge (tgt := 66) hx hb dX12_feed_58 (by decide) (fun c7 => ?_) (fun c7 => ?_)
            · rw [if_pos c7] at hs
              refine lv_iload hx hb dX12_feed_66 (lv_at hl 5 rfl) ?_
              obtain rfl := Option.some.inj hs
              exact KJ68 _ _ _ (lv_sub hl [0, 1, 2, 3, 4, 5, 6] rfl) M
            · rw [if_neg c7] at hs
              refine lv_iload hx hb dX12_feed_61 (lv_at hl 4 rfl) ?_
              refine lv_goto (tgt := 68) hx hb dX12_feed_63 (by decide) ?_
              obtain rfl := Option.some.inj hs
              exact KJ68 _ _ _ (lv_sub hl [0, 1, 2, 3, 4, 5, 6] rfl) M
          · rw [if_neg c6] at hs
            refine lv_iload_n hx hb dX12_feed_50 rfl (lv_at hl 3 rfl) ?_
            refine lv_goto (tgt := 68) hx hb dX12_feed_51 (by decide) ?_
            obtain rfl := Option.some.inj hs
            exact KJ68 _ _ _ (lv_sub hl [0, 1, 2, 3, 4, 5, 6] rfl) M
        · rw [if_neg c5] at hs
          refine lv_iload_n hx hb dX12_feed_39 rfl (lv_at hl 2 rfl) ?_
          refine lv_goto (tgt := 68) hx hb dX12_feed_40 (by decide) ?_
          obtain rfl := Option.some.inj hs
          exact KJ68 _ _ _ (lv_sub hl [0, 1, 2, 3, 4, 5, 6] rfl) M
      · rw [if_neg c4] at hs
        refine lv_iload_n hx hb dX12_feed_28 rfl (lv_at hl 1 rfl) ?_
        refine lv_goto (tgt := 68) hx hb dX12_feed_29 (by decide) ?_
        obtain rfl := Option.some.inj hs
        exact KJ68 _ _ _ (lv_sub hl [0, 1, 2, 3, 4, 5, 6] rfl) M
set_option maxHeartbeats 4000000 in
set_option maxRecDepth 100000 in
theorem c_X12_feed {l : Launch} {D : va_G} {cy : Nat → ClassId} {sz N : Nat} {h : IH} {th : Nat} {a0 : Int32} {a1 : Int32} {a2 : Int32} {a3 : Int32} {a4 : Int32} {qF : Int32 × IH} (hs : s_X12_feed N h th a0 a1 a2 a3 a4 = some qF) : Ct l D cy yX12_feed cX12_feed 8 (some .int) rm_X12_feed h sz [.ref th, .int a0, .int a1, .int a2, .int a3, .int a4] qF.2 (some (.int qF.1)) := by
  refine ct_start (by decide +kernel) [(0, .ref th), (1, .int a0), (2, .int a1), (3, .int a2), (4, .int a3), (5, .int a4)] (Nat.le_of_ble_eq_true rfl) rfl ?_
  intro p e s m args below meth c A H0 ls F hin hsz M hl
  obtain ⟨hx, hb, hr, hml, hown, hlk, hts, hK, hN, hA, hH⟩ := id F
  generalize s.heap = H at M ⊢
  generalize ([] : List Loc) = locs at M ⊢
  unfold s_X12_feed at hs
  refine lv_aload_n hx hb dX12_feed_0 rfl (lv_at hl 0 rfl) ?_
  obtain ⟨v1, g_v1, hs⟩ := bd hs
  refine ro_gI F M fg_12_29 t_1035 g_v1 dX12_feed_1 ?_
  refine lv_sipush (v := 980) hx hb dX12_feed_4 (by decide) ?_
  refine lv_icmp_le (tgt := 12) hx hb dX12_feed_7 (by decide) (fun c2 => ?_) (fun c2 => ?_)
  · rw [if_pos c2] at hs
    refine lv_iconst (v := 0) hx hb dX12_feed_12 (by decide) ?_
    refine lv_istore (i := 6) (lv' := [(6, .int 0), (0, .ref th), (1, .int a0), (2, .int a1), (3, .int a2), (4, .int a3), (5, .int a4)]) hx hb dX12_feed_13 hl (by decide) rfl (fun ls hl => ?_)
    obtain ⟨q14, g_q14, hs⟩ := bd hs
    refine w_X12_feed_L15 F N 0 h _ _ _ q14 g_q14 (lv_sub hl [1, 2, 3, 4, 5, 6, 0] rfl) M (fun t_ ls H locs eq_ hl M => ?_) (fun v eq_ => eq_.elim)
    subst eq_
    refine lv_aload_n hx hb dX12_feed_112 rfl (lv_at hl 0 rfl) ?_
    obtain ⟨v15, g_v15, hs⟩ := bd hs
    refine ro_gI F M fg_12_29 t_1035 g_v15 dX12_feed_113 ?_
    obtain rfl := Option.some.inj hs
    exact re_i F M dX12_feed_116
  · rw [if_neg c2] at hs
    refine lv_iconst (v := (-1)) hx hb dX12_feed_10 (by decide) ?_
    obtain rfl := Option.some.inj hs
    exact re_i F M dX12_feed_11
abbrev rm_X12_isIn : Room := { frames := 0, cells := 0, slots := 0, locals := 0 }
theorem mf_X12_isIn : MS yX12_isIn cX12_isIn 6 (some .boolean) 3 := ⟨t_1227, t_1226, t_12, ⟨by decide +kernel, by decide +kernel, by decide +kernel⟩⟩
def s_X12_isIn (h : IH) (a0 : Int64) (a1 : Int64) (a2 : Int64) : Option (Int32) := ((if (lg_cmp a0 a1) < 0 then some 0 else if 0 < (lg_cmp a0 a2) then some 0 else some 1) : Option (Int32)).bind fun q3 => if q3 = 0 ∨ q3 = 1 then some q3 else none
set_option maxHeartbeats 4000000 in
set_option maxRecDepth 100000 in
theorem c_X12_isIn {l : Launch} {D : va_G} {cy : Nat → ClassId} {sz : Nat} {h : IH} {a0 : Int64} {a1 : Int64} {a2 : Int64} {qF : Int32} (hs : s_X12_isIn h a0 a1 a2 = some qF) : Ct l D cy yX12_isIn cX12_isIn 6 (some .boolean) rm_X12_isIn h sz [.long a0, .long a1, .long a2] h (some (.int qF)) := by
  refine ct_start (by decide +kernel) [(0, .long a0), (2, .long a1), (4, .long a2)] (Nat.le_of_ble_eq_true rfl) rfl ?_
  intro p e s m args below meth c A H0 ls F hin hsz M hl
  obtain ⟨hx, hb, hr, hml, hown, hlk, hts, hK, hN, hA, hH⟩ := id F
  generalize s.heap = H at M ⊢
  generalize ([] : List Loc) = locs at M ⊢
  unfold s_X12_isIn at hs
  refine lv_lload_n hx hb dX12_isIn_0 rfl (lv_at hl 0 rfl) ?_
  refine lv_lload_n hx hb dX12_isIn_1 rfl (lv_at hl 1 rfl) ?_
  refine W.lcmp hx hb dX12_isIn_2 ?_
  obtain ⟨q3, hsq3, hs⟩ := bd hs
  have KJ18 : ∀ (ls : Array Slot) (H : Heap) (locs : List Loc), lv_has ls 6 [] → Mo D cy A H0 h H locs → W p l e rm_X12_isIn s m args below meth c H locs 0 0 (MQ below (QR D cy h A (some (.int qF))) args s 0 0 A) (F0 m 18 ls [.int q3]) := by
    intro ls H locs hl M
    by_cases zg : q3 = 0 ∨ q3 = 1
    · rw [if_pos zg] at hs
      obtain rfl := Option.some.inj hs
      exact re_z F M zg dX12_isIn_18
    · rw [if_neg zg] at hs; cases hs
  clear hs
  have hs := hsq3
  refine lv_if_lt (tgt := 17) hx hb dX12_isIn_3 (by decide) (fun c1 => ?_) (fun c1 => ?_)
  · rw [if_pos c1] at hs
    refine lv_iconst (v := 0) hx hb dX12_isIn_17 (by decide) ?_
    obtain rfl := Option.some.inj hs
    exact KJ18 _ _ _ (lv_sub hl [] rfl) M
  · rw [if_neg c1] at hs
    refine lv_lload_n hx hb dX12_isIn_6 rfl (lv_at hl 0 rfl) ?_
    refine lv_lload hx hb dX12_isIn_7 (lv_at hl 2 rfl) ?_
    refine W.lcmp hx hb dX12_isIn_9 ?_
    refine lv_if_gt (tgt := 17) hx hb dX12_isIn_10 (by decide) (fun c2 => ?_) (fun c2 => ?_)
    · rw [if_pos c2] at hs
      refine lv_iconst (v := 0) hx hb dX12_isIn_17 (by decide) ?_
      obtain rfl := Option.some.inj hs
      exact KJ18 _ _ _ (lv_sub hl [] rfl) M
    · rw [if_neg c2] at hs
      refine lv_iconst (v := 1) hx hb dX12_isIn_13 (by decide) ?_
      refine lv_goto (tgt := 18) hx hb dX12_isIn_14 (by decide) ?_
      obtain rfl := Option.some.inj hs
      exact KJ18 _ _ _ (lv_sub hl [] rfl) M
abbrev rm_X12_end : Room := { frames := 1, cells := 0, slots := 0, locals := 25 }
theorem mf_X12_end : MV 12 yX12_end cX12_end 2 (some .int) 1 RX12 := ⟨t_1224, t_1222, t_1223, t_12, ⟨by decide +kernel, by decide +kernel, by decide +kernel⟩, rfl, by decide⟩
def s_X12_end (h : IH) (th : Nat) (a0 : Int32) : Option (Int32 × IH) := (gI h 12 29 (some th)).bind fun v1 => (s_X12_isIn h a0.toInt64 0 v1.toInt64).bind fun v2 => if v2 = 0 then some ((-1), h) else (pI h 12 29 (some th) a0).bind fun h4 => some (a0, h4)
set_option maxHeartbeats 4000000 in
set_option maxRecDepth 100000 in
theorem c_X12_end {l : Launch} {D : va_G} {cy : Nat → ClassId} {sz : Nat} {h : IH} {th : Nat} {a0 : Int32} {qF : Int32 × IH} (hs : s_X12_end h th a0 = some qF) : Ct l D cy yX12_end cX12_end 2 (some .int) rm_X12_end h sz [.ref th, .int a0] qF.2 (some (.int qF.1)) := by
  refine ct_start (by decide +kernel) [(0, .ref th), (1, .int a0)] (Nat.le_of_ble_eq_true rfl) rfl ?_
  intro p e s m args below meth c A H0 ls F hin hsz M hl
  obtain ⟨hx, hb, hr, hml, hown, hlk, hts, hK, hN, hA, hH⟩ := id F
  generalize s.heap = H at M ⊢
  generalize ([] : List Loc) = locs at M ⊢
  unfold s_X12_end at hs
  refine lv_iload_n hx hb dX12_end_0 rfl (lv_at hl 1 rfl) ?_
  refine lv_i2l hx hb dX12_end_1 rfl ?_
  refine lv_lconst (v := 0) hx hb dX12_end_2 (by decide) ?_
  refine lv_aload_n hx hb dX12_end_3 rfl (lv_at hl 0 rfl) ?_
  obtain ⟨v1, g_v1, hs⟩ := bd hs
  refine ro_gI F M fg_12_29 t_1035 g_v1 dX12_end_4 ?_
  refine lv_i2l hx hb dX12_end_7 rfl ?_
  obtain ⟨v2, g_v2, hs⟩ := bd hs
  refine ca_Si (As := [.long a0.toInt64, .long 0, .long v1.toInt64]) (rest := []) F M (c_X12_isIn g_v2) mf_X12_isIn t_1225 rfl ⟨by decide, by decide⟩ ⟨rfl, rfl⟩ ⟨Nat.zero_le _, Nat.zero_le _⟩ hl.1 rfl (by decide) dX12_end_8 (fun H locs M => ?_)
  refine lv_if_ne (tgt := 16) hx hb dX12_end_11 (by decide) (fun c3 => ?_) (fun c3 => ?_)
  · rw [if_neg c3] at hs
    refine lv_aload_n hx hb dX12_end_16 rfl (lv_at hl 0 rfl) ?_
    refine lv_iload_n hx hb dX12_end_17 rfl (lv_at hl 1 rfl) ?_
    obtain ⟨h4, g_h4, hs⟩ := bd hs
    refine ro_pI F M fg_12_29 fp_12_29 rfl t_1035 g_h4 dX12_end_18 (fun H locs M => ?_)
    refine lv_iload_n hx hb dX12_end_21 rfl (lv_at hl 1 rfl) ?_
    obtain rfl := Option.some.inj hs
    exact re_i F M dX12_end_22
  · rw [if_pos c3] at hs
    refine lv_iconst (v := (-1)) hx hb dX12_end_14 (by decide) ?_
    obtain rfl := Option.some.inj hs
    exact re_i F M dX12_end_15
abbrev rm_X12_isCallByte : Room := { frames := 1, cells := 0, slots := 0, locals := 25 }
theorem mf_X12_isCallByte : MS yX12_isCallByte cX12_isCallByte 1 (some .boolean) 1 := ⟨t_1242, t_1241, t_12, ⟨by decide +kernel, by decide +kernel, by decide +kernel⟩⟩
def s_X12_isCallByte (h : IH) (a0 : Int32) : Option (Int32) := (s_X12_isIn h a0.toInt64 48 57).bind fun v1 => ((if v1 = 0 then (s_X12_isIn h a0.toInt64 65 90).bind fun v3 => if v3 = 0 then some 0 else some 1 else some 1) : Option (Int32)).bind fun q5 => if q5 = 0 ∨ q5 = 1 then some q5 else none
set_option maxHeartbeats 4000000 in
set_option maxRecDepth 100000 in
theorem c_X12_isCallByte {l : Launch} {D : va_G} {cy : Nat → ClassId} {sz : Nat} {h : IH} {a0 : Int32} {qF : Int32} (hs : s_X12_isCallByte h a0 = some qF) : Ct l D cy yX12_isCallByte cX12_isCallByte 1 (some .boolean) rm_X12_isCallByte h sz [.int a0] h (some (.int qF)) := by
  refine ct_start (by decide +kernel) [(0, .int a0)] (Nat.le_of_ble_eq_true rfl) rfl ?_
  intro p e s m args below meth c A H0 ls F hin hsz M hl
  obtain ⟨hx, hb, hr, hml, hown, hlk, hts, hK, hN, hA, hH⟩ := id F
  generalize s.heap = H at M ⊢
  generalize ([] : List Loc) = locs at M ⊢
  unfold s_X12_isCallByte at hs
  refine lv_iload_n hx hb dX12_isCallByte_0 rfl (lv_at hl 0 rfl) ?_
  refine lv_i2l hx hb dX12_isCallByte_1 rfl ?_
  refine lv_ldc2 (v := 48) hx hb hown (hts _ (List.mem_cons_of_mem _ t_1243)) dX12_isCallByte_2 ?_
  refine lv_ldc2 (v := 57) hx hb hown (hts _ (List.mem_cons_of_mem _ t_1244)) dX12_isCallByte_5 ?_
  obtain ⟨v1, g_v1, hs⟩ := bd hs
  refine ca_Si (As := [.long a0.toInt64, .long 48, .long 57]) (rest := []) F M (c_X12_isIn g_v1) mf_X12_isIn t_1225 rfl ⟨by decide, by decide⟩ ⟨rfl, rfl⟩ ⟨Nat.zero_le _, Nat.zero_le _⟩ hl.1 rfl (by decide) dX12_isCallByte_8 (fun H locs M => ?_)
  obtain ⟨q5, hsq5, hs⟩ := bd hs
  have KJ33 : ∀ (ls : Array Slot) (H : Heap) (locs : List Loc), lv_has ls 1 [] → Mo D cy A H0 h H locs → W p l e rm_X12_isCallByte s m args below meth c H locs 0 0 (MQ below (QR D cy h A (some (.int qF))) args s 0 0 A) (F0 m 33 ls [.int q5]) := by
    intro ls H locs hl M
    by_cases zg : q5 = 0 ∨ q5 = 1
    · rw [if_pos zg] at hs
      obtain rfl := Option.some.inj hs
      exact re_z F M zg dX12_isCallByte_33
    · rw [if_neg zg] at hs; cases hs
  clear hs
  have hs := hsq5
  refine lv_if_ne (tgt := 28) hx hb dX12_isCallByte_11 (by decide) (fun c2 => ?_) (fun c2 => ?_)
  · rw [if_neg c2] at hs
    refine lv_iconst (v := 1) hx hb dX12_isCallByte_28 (by decide) ?_
    refine lv_goto (tgt := 33) hx hb dX12_isCallByte_29 (by decide) ?_
    obtain rfl := Option.some.inj hs
    exact KJ33 _ _ _ (lv_sub hl [] rfl) M
  · rw [if_pos c2] at hs
    refine lv_iload_n hx hb dX12_isCallByte_14 rfl (lv_at hl 0 rfl) ?_
    refine lv_i2l hx hb dX12_isCallByte_15 rfl ?_
    refine lv_ldc2 (v := 65) hx hb hown (hts _ (List.mem_cons_of_mem _ t_1245)) dX12_isCallByte_16 ?_
    refine lv_ldc2 (v := 90) hx hb hown (hts _ (List.mem_cons_of_mem _ t_1246)) dX12_isCallByte_19 ?_
    obtain ⟨v3, g_v3, hs⟩ := bd hs
    refine ca_Si (As := [.long a0.toInt64, .long 65, .long 90]) (rest := []) F M (c_X12_isIn g_v3) mf_X12_isIn t_1225 rfl ⟨by decide, by decide⟩ ⟨rfl, rfl⟩ ⟨Nat.zero_le _, Nat.zero_le _⟩ hl.1 rfl (by decide) dX12_isCallByte_22 (fun H locs M => ?_)
    refine lv_if_eq (tgt := 32) hx hb dX12_isCallByte_25 (by decide) (fun c4 => ?_) (fun c4 => ?_)
    · rw [if_pos c4] at hs
      refine lv_iconst (v := 0) hx hb dX12_isCallByte_32 (by decide) ?_
      obtain rfl := Option.some.inj hs
      exact KJ33 _ _ _ (lv_sub hl [] rfl) M
    · rw [if_neg c4] at hs
      refine lv_iconst (v := 1) hx hb dX12_isCallByte_28 (by decide) ?_
      refine lv_goto (tgt := 33) hx hb dX12_isCallByte_29 (by decide) ?_
      obtain rfl := Option.some.inj hs
      exact KJ33 _ _ _ (lv_sub hl [] rfl) M
abbrev rm_X12_isCall : Room := { frames := 2, cells := 0, slots := 0, locals := 45 }
theorem mf_X12_isCall : MV 12 yX12_isCall cX12_isCall 5 (some .boolean) 2 RX12 := ⟨t_1238, t_1237, tS_76, t_12, ⟨by decide +kernel, by decide +kernel, by decide +kernel⟩, rfl, by decide⟩
def s_X12_isCall_L13 (N : Nat) : Nat → Nat → Int32 → Int32 → Int32 → Int32 → IH → Option (Int32)
  | 0, _, _, _, _, _, _ => none
  | n + 1, th, x1, x2, x3, x4, h => if x2 ≤ x4 then some x3 else if x3 = 0 then some x3 else (gR h 12 28 (some th)).bind fun v4 => (aI h v4 (x1 + x4)).bind fun v5 => (s_X12_isCallByte h v5).bind fun v6 => s_X12_isCall_L13 N n th x1 x2 v6 (x4 + 1) h
def s_X12_isCall (N : Nat) (h : IH) (th : Nat) (a0 : Int32) (a1 : Int32) : Option (Int32) := (s_X12_isIn h a1.toInt64 1 6).bind fun v1 => (s_X12_isCall_L13 N N th a0 a1 v1 0 h).bind fun q7 => if q7 = 0 ∨ q7 = 1 then some q7 else none
set_option maxHeartbeats 4000000 in
set_option maxRecDepth 100000 in
theorem w_X12_isCall_L13 {p : Program} {l : Launch} {e : Env} {s : State} {m : MethodId} {args : Array Value} {below : List Frame} {meth : Method} {c : Code} {D : va_G} {cy : Nat → ClassId} {A : Nat → Prop} {H0 : Heap} {N th : Nat} {x1 : Int32} {x2 : Int32} {h : IH} {qF : Int32} (F : Fx p s m args meth c D cy A H0 yX12_isCall cX12_isCall 5 (some .boolean)) : ∀ (n : Nat) (x3 : Int32) (x4 : Int32) (ls : Array Slot) (H : Heap) (locs : List Loc) (q : Int32), s_X12_isCall_L13 N n th x1 x2 x3 x4 h = some q → lv_has ls 5 [(0, .ref th), (1, .int x1), (2, .int x2), (3, .int x3), (4, .int x4)] → Mo D cy A H0 h H locs → (∀ (t : Int32) (ls : Array Slot) (H : Heap) (locs : List Loc), q = t → lv_has ls 5 [(3, .int t)] → Mo D cy A H0 h H locs → W p l e rm_X12_isCall s m args below meth c H locs 0 0 (MQ below (QR D cy h A (some (.int qF))) args s 0 0 A) (F0 m 42 ls [])) → (∀ v : Int32, False → v = qF) → W p l e rm_X12_isCall s m args below meth c H locs 0 0 (MQ below (QR D cy h A (some (.int qF))) args s 0 0 A) (F0 m 13 ls []) := by
  intro n
  induction n with
  | zero => intro x3 x4 ls H locs q hs; rw [s_X12_isCall_L13.eq_1] at hs; cases hs
  | succ n ih =>
    intro x3 x4 ls H locs q hs hl M kx kr
    obtain ⟨hx, hb, hr, hml, hown, hlk, hts, hK, hN, hA, hH⟩ := id F
    rw [s_X12_isCall_L13.eq_2] at hs
    refine lv_iload hx hb dX12_isCall_13 (lv_at hl 4 rfl) ?_
    refine lv_iload_n hx hb dX12_isCall_15 rfl (lv_at hl 2 rfl) ?_
    refine lv_icmp_ge (tgt := 42) hx hb dX12_isCall_16 (by decide) (fun c2 => ?_) (fun c2 => ?_)
    · rw [if_pos c2] at hs
      exact kx x3 _ _ _ (Option.some.inj hs).symm (lv_sub hl [3] rfl) M
    · rw [if_neg c2] at hs
      refine lv_iload_n hx hb dX12_isCall_19 rfl (lv_at hl 3 rfl) ?_
      refine lv_if_eq (tgt := 42) hx hb dX12_isCall_20 (by decide) (fun c3 => ?_) (fun c3 => ?_)
      · rw [if_pos c3] at hs
        exact kx x3 _ _ _ (Option.some.inj hs).symm (lv_sub hl [3] rfl) M
      · rw [if_neg c3] at hs
        refine lv_aload_n hx hb dX12_isCall_23 rfl (lv_at hl 0 rfl) ?_
        obtain ⟨v4, g_v4, hs⟩ := bd hs
        refine ro_gR F M fg_12_28 t_1034 g_v4 dX12_isCall_24 ?_
        refine lv_iload_n hx hb dX12_isCall_27 rfl (lv_at hl 1 rfl) ?_
        refine lv_iload hx hb dX12_isCall_28 (lv_at hl 4 rfl) ?_
        refine lv_iadd hx hb dX12_isCall_30 ?_
        obtain ⟨v5, g_v5, hs⟩ := bd hs
        refine ro_aI F M g_v5 dX12_isCall_31 ?_
        obtain ⟨v6, g_v6, hs⟩ := bd hs
        refine ca_Si (As := [.int v5]) (rest := []) F M (c_X12_isCallByte g_v6) mf_X12_isCallByte t_1240 rfl ⟨by decide, by decide⟩ ⟨rfl, rfl⟩ ⟨Nat.zero_le _, Nat.zero_le _⟩ hl.1 rfl (by decide) dX12_isCall_32 (fun H locs M => ?_)
        refine lv_istore_n (i := 3) (lv' := [(3, .int v6), (0, .ref th), (1, .int x1), (2, .int x2), (4, .int x4)]) hx hb dX12_isCall_35 rfl hl (by decide) rfl (fun ls hl => ?_)
        refine lv_iinc (v := x4 + 1) (lv' := [(4, .int (x4 + 1)), (3, .int v6), (0, .ref th), (1, .int x1), (2, .int x2)]) hx hb dX12_isCall_36 hl (k := 4) rfl rfl (by decide) rfl (fun ls hl => ?_)
        refine lv_goto (tgt := 13) hx hb dX12_isCall_39 (by decide) ?_
        exact ih v6 (x4 + 1) _ _ _ _ hs (lv_sub hl [2, 3, 4, 1, 0] rfl) M kx kr
set_option maxHeartbeats 4000000 in
set_option maxRecDepth 100000 in
theorem c_X12_isCall {l : Launch} {D : va_G} {cy : Nat → ClassId} {sz N : Nat} {h : IH} {th : Nat} {a0 : Int32} {a1 : Int32} {qF : Int32} (hs : s_X12_isCall N h th a0 a1 = some qF) : Ct l D cy yX12_isCall cX12_isCall 5 (some .boolean) rm_X12_isCall h sz [.ref th, .int a0, .int a1] h (some (.int qF)) := by
  refine ct_start (by decide +kernel) [(0, .ref th), (1, .int a0), (2, .int a1)] (Nat.le_of_ble_eq_true rfl) rfl ?_
  intro p e s m args below meth c A H0 ls F hin hsz M hl
  obtain ⟨hx, hb, hr, hml, hown, hlk, hts, hK, hN, hA, hH⟩ := id F
  generalize s.heap = H at M ⊢
  generalize ([] : List Loc) = locs at M ⊢
  unfold s_X12_isCall at hs
  refine lv_iload_n hx hb dX12_isCall_0 rfl (lv_at hl 2 rfl) ?_
  refine lv_i2l hx hb dX12_isCall_1 rfl ?_
  refine lv_lconst (v := 1) hx hb dX12_isCall_2 (by decide) ?_
  refine lv_ldc2 (v := 6) hx hb hown (hts _ (List.mem_cons_of_mem _ t_1239)) dX12_isCall_3 ?_
  obtain ⟨v1, g_v1, hs⟩ := bd hs
  refine ca_Si (As := [.long a1.toInt64, .long 1, .long 6]) (rest := []) F M (c_X12_isIn g_v1) mf_X12_isIn t_1225 rfl ⟨by decide, by decide⟩ ⟨rfl, rfl⟩ ⟨Nat.zero_le _, Nat.zero_le _⟩ hl.1 rfl (by decide) dX12_isCall_6 (fun H locs M => ?_)
  refine lv_istore_n (i := 3) (lv' := [(3, .int v1), (0, .ref th), (1, .int a0), (2, .int a1)]) hx hb dX12_isCall_9 rfl hl (by decide) rfl (fun ls hl => ?_)
  refine lv_iconst (v := 0) hx hb dX12_isCall_10 (by decide) ?_
  refine lv_istore (i := 4) (lv' := [(4, .int 0), (3, .int v1), (0, .ref th), (1, .int a0), (2, .int a1)]) hx hb dX12_isCall_11 hl (by decide) rfl (fun ls hl => ?_)
  obtain ⟨q7, g_q7, hs⟩ := bd hs
  refine w_X12_isCall_L13 F N v1 0 _ _ _ q7 g_q7 (lv_sub hl [2, 3, 4, 1, 0] rfl) M (fun t_ ls H locs eq_ hl M => ?_) (fun v eq_ => eq_.elim)
  subst eq_
  refine lv_iload_n hx hb dX12_isCall_42 rfl (lv_at hl 0 rfl) ?_
  by_cases zg : q7 = 0 ∨ q7 = 1
  · rw [if_pos zg] at hs
    obtain rfl := Option.some.inj hs
    exact re_z F M zg dX12_isCall_43
  · rw [if_neg zg] at hs; cases hs
abbrev rm_X12_hasCall : Room := { frames := 0, cells := 0, slots := 0, locals := 0 }
theorem mf_X12_hasCall : MV 12 yX12_hasCall cX12_hasCall 7 (some .boolean) 4 RX12 := ⟨t_1254, t_1253, tS_78, t_12, ⟨by decide +kernel, by decide +kernel, by decide +kernel⟩, rfl, by decide⟩
def s_X12_hasCall_L21 (N : Nat) : Nat → Nat → Int32 → Option Nat → Int32 → Int32 → Int32 → Int32 → IH → Option (Int32)
  | 0, _, _, _, _, _, _, _, _ => none
  | n + 1, th, x1, x2, x3, x4, x5, x6, h => if x4 ≤ x6 then some x5 else if x5 = 0 then some x5 else (gR h 12 7 (some th)).bind fun v7 => (aI h v7 ((6 * x1) + x6)).bind fun v8 => (aI h x2 (x3 + x6)).bind fun v9 => ((if v8 = v9 then some 1 else some 0) : Option (Int32)).bind fun q11 => s_X12_hasCall_L21 N n th x1 x2 x3 x4 q11 (x6 + 1) h
def s_X12_hasCall (N : Nat) (h : IH) (th : Nat) (a0 : Int32) (a1 : Option Nat) (a2 : Int32) (a3 : Int32) : Option (Int32) := (gR h 12 6 (some th)).bind fun v1 => (aI h v1 a0).bind fun v2 => ((if v2 = a3 then some 1 else some 0) : Option (Int32)).bind fun q4 => (s_X12_hasCall_L21 N N th a0 a1 a2 a3 q4 0 h).bind fun q12 => if q12 = 0 ∨ q12 = 1 then some q12 else none
set_option maxHeartbeats 4000000 in
set_option maxRecDepth 100000 in
theorem w_X12_hasCall_L21 {p : Program} {l : Launch} {e : Env} {s : State} {m : MethodId} {args : Array Value} {below : List Frame} {meth : Method} {c : Code} {D : va_G} {cy : Nat → ClassId} {A : Nat → Prop} {H0 : Heap} {N th : Nat} {x1 : Int32} {x2 : Option Nat} {x3 : Int32} {x4 : Int32} {h : IH} {qF : Int32} (F : Fx p s m args meth c D cy A H0 yX12_hasCall cX12_hasCall 7 (some .boolean)) : ∀ (n : Nat) (x5 : Int32) (x6 : Int32) (ls : Array Slot) (H : Heap) (locs : List Loc) (q : Int32), s_X12_hasCall_L21 N n th x1 x2 x3 x4 x5 x6 h = some q → lv_has ls 7 [(0, .ref th), (1, .int x1), (2, va_rf x2), (3, .int x3), (4, .int x4), (5, .int x5), (6, .int x6)] → Mo D cy A H0 h H locs → (∀ (t : Int32) (ls : Array Slot) (H : Heap) (locs : List Loc), q = t → lv_has ls 7 [(5, .int t)] → Mo D cy A H0 h H locs → W p l e rm_X12_hasCall s m args below meth c H locs 0 0 (MQ below (QR D cy h A (some (.int qF))) args s 0 0 A) (F0 m 67 ls [])) → (∀ v : Int32, False → v = qF) → W p l e rm_X12_hasCall s m args below meth c H locs 0 0 (MQ below (QR D cy h A (some (.int qF))) args s 0 0 A) (F0 m 21 ls []) := by
  intro n
  induction n with
  | zero => intro x5 x6 ls H locs q hs; rw [s_X12_hasCall_L21.eq_1] at hs; cases hs
  | succ n ih =>
    intro x5 x6 ls H locs q hs hl M kx kr
    obtain ⟨hx, hb, hr, hml, hown, hlk, hts, hK, hN, hA, hH⟩ := id F
    rw [s_X12_hasCall_L21.eq_2] at hs
    refine lv_iload hx hb dX12_hasCall_21 (lv_at hl 6 rfl) ?_
    refine lv_iload hx hb dX12_hasCall_23 (lv_at hl 4 rfl) ?_
    refine lv_icmp_ge (tgt := 67) hx hb dX12_hasCall_25 (by decide) (fun c5 => ?_) (fun c5 => ?_)
    · rw [if_pos c5] at hs
      exact kx x5 _ _ _ (Option.some.inj hs).symm (lv_sub hl [5] rfl) M
    · rw [if_neg c5] at hs
      refine lv_iload hx hb dX12_hasCall_28 (lv_at hl 5 rfl) ?_
      refine lv_if_eq (tgt := 67) hx hb dX12_hasCall_30 (by decide) (fun c6 => ?_) (fun c6 => ?_)
      · rw [if_pos c6] at hs
        exact kx x5 _ _ _ (Option.some.inj hs).symm (lv_sub hl [5] rfl) M
      · rw [if_neg c6] at hs
        refine lv_aload_n hx hb dX12_hasCall_33 rfl (lv_at hl 0 rfl) ?_
        obtain ⟨v7, g_v7, hs⟩ := bd hs
        refine ro_gR F M fg_12_7 t_1013 g_v7 dX12_hasCall_34 ?_
        refine lv_bipush (v := 6) hx hb dX12_hasCall_37 (by decide) ?_
        refine lv_iload_n hx hb dX12_hasCall_39 rfl (lv_at hl 1 rfl) ?_
        refine lv_imul hx hb dX12_hasCall_40 ?_
        refine lv_iload hx hb dX12_hasCall_41 (lv_at hl 6 rfl) ?_
        refine lv_iadd hx hb dX12_hasCall_43 ?_
        obtain ⟨v8, g_v8, hs⟩ := bd hs
        refine ro_aI F M g_v8 dX12_hasCall_44 ?_
        refine lo_aload_n hx hb dX12_hasCall_45 rfl (lv_at hl 2 rfl) ?_
        refine lv_iload_n hx hb dX12_hasCall_46 rfl (lv_at hl 3 rfl) ?_
        refine lv_iload hx hb dX12_hasCall_47 (lv_at hl 6 rfl) ?_
        refine lv_iadd hx hb dX12_hasCall_49 ?_
        obtain ⟨v9, g_v9, hs⟩ := bd hs
        refine ro_aI F M g_v9 dX12_hasCall_50 ?_
        obtain ⟨q11, hsq11, hs⟩ := bd hs
        have KJ59 : ∀ (ls : Array Slot) (H : Heap) (locs : List Loc), lv_has ls 7 [(0, .ref th), (1, .int x1), (2, va_rf x2), (3, .int x3), (4, .int x4), (6, .int x6)] → Mo D cy A H0 h H locs → W p l e rm_X12_hasCall s m args below meth c H locs 0 0 (MQ below (QR D cy h A (some (.int qF))) args s 0 0 A) (F0 m 59 ls [.int q11]) := by
          intro ls H locs hl M
          refine lv_istore (i := 5) (lv' := [(5, .int q11), (0, .ref th), (1, .int x1), (2, va_rf x2), (3, .int x3), (4, .int x4), (6, .int x6)]) hx hb dX12_hasCall_59 hl (by decide) rfl (fun ls hl => ?_)
          refine lv_iinc (v := x6 + 1) (lv' := [(6, .int (x6 + 1)), (5, .int q11), (0, .ref th), (1, .int x1), (2, va_rf x2), (3, .int x3), (4, .int x4)]) hx hb dX12_hasCall_61 hl (k := 6) rfl rfl (by decide) rfl (fun ls hl => ?_)
          refine lv_goto (tgt := 21) hx hb dX12_hasCall_64 (by decide) ?_
          exact ih q11 (x6 + 1) _ _ _ _ hs (lv_sub hl [2, 3, 4, 5, 6, 1, 0] rfl) M kx kr
        clear hs
        have hs := hsq11
        refine lv_icmp_ne (tgt := 58) hx hb dX12_hasCall_51 (by decide) (fun c10 => ?_) (fun c10 => ?_)
        · rw [if_neg c10] at hs
          refine lv_iconst (v := 0) hx hb dX12_hasCall_58 (by decide) ?_
          obtain rfl := Option.some.inj hs
          exact KJ59 _ _ _ (lv_sub hl [0, 1, 2, 3, 4, 6] rfl) M
        · rw [if_pos c10] at hs
          refine lv_iconst (v := 1) hx hb dX12_hasCall_54 (by decide) ?_
          refine lv_goto (tgt := 59) hx hb dX12_hasCall_55 (by decide) ?_
          obtain rfl := Option.some.inj hs
          exact KJ59 _ _ _ (lv_sub hl [0, 1, 2, 3, 4, 6] rfl) M
set_option maxHeartbeats 4000000 in
set_option maxRecDepth 100000 in
theorem c_X12_hasCall {l : Launch} {D : va_G} {cy : Nat → ClassId} {sz N : Nat} {h : IH} {th : Nat} {a0 : Int32} {a1 : Option Nat} {a2 : Int32} {a3 : Int32} {qF : Int32} (hs : s_X12_hasCall N h th a0 a1 a2 a3 = some qF) : Ct l D cy yX12_hasCall cX12_hasCall 7 (some .boolean) rm_X12_hasCall h sz [.ref th, .int a0, va_rf a1, .int a2, .int a3] h (some (.int qF)) := by
  refine ct_start (by decide +kernel) [(0, .ref th), (1, .int a0), (2, va_rf a1), (3, .int a2), (4, .int a3)] (by simp [lg_sl, cat_rf, cat_i, cat_j, cat_r]) (by simp [lv_args, cat_rf, cat_i, cat_j, cat_r]) ?_
  intro p e s m args below meth c A H0 ls F hin hsz M hl
  obtain ⟨hx, hb, hr, hml, hown, hlk, hts, hK, hN, hA, hH⟩ := id F
  generalize s.heap = H at M ⊢
  generalize ([] : List Loc) = locs at M ⊢
  unfold s_X12_hasCall at hs
  refine lv_aload_n hx hb dX12_hasCall_0 rfl (lv_at hl 0 rfl) ?_
  obtain ⟨v1, g_v1, hs⟩ := bd hs
  refine ro_gR F M fg_12_6 t_1012 g_v1 dX12_hasCall_1 ?_
  refine lv_iload_n hx hb dX12_hasCall_4 rfl (lv_at hl 1 rfl) ?_
  obtain ⟨v2, g_v2, hs⟩ := bd hs
  refine ro_aI F M g_v2 dX12_hasCall_5 ?_
  refine lv_iload hx hb dX12_hasCall_6 (lv_at hl 4 rfl) ?_
  obtain ⟨q4, hsq4, hs⟩ := bd hs
  have KJ16 : ∀ (ls : Array Slot) (H : Heap) (locs : List Loc), lv_has ls 7 [(0, .ref th), (1, .int a0), (2, va_rf a1), (3, .int a2), (4, .int a3)] → Mo D cy A H0 h H locs → W p l e rm_X12_hasCall s m args below meth c H locs 0 0 (MQ below (QR D cy h A (some (.int qF))) args s 0 0 A) (F0 m 16 ls [.int q4]) := by
    intro ls H locs hl M
    refine lv_istore (i := 5) (lv' := [(5, .int q4), (0, .ref th), (1, .int a0), (2, va_rf a1), (3, .int a2), (4, .int a3)]) hx hb dX12_hasCall_16 hl (by decide) rfl (fun ls hl => ?_)
    refine lv_iconst (v := 0) hx hb dX12_hasCall_18 (by decide) ?_
    refine lv_istore (i := 6) (lv' := [(6, .int 0), (5, .int q4), (0, .ref th), (1, .int a0), (2, va_rf a1), (3, .int a2), (4, .int a3)]) hx hb dX12_hasCall_19 hl (by decide) rfl (fun ls hl => ?_)
    obtain ⟨q12, g_q12, hs⟩ := bd hs
    refine w_X12_hasCall_L21 F N q4 0 _ _ _ q12 g_q12 (lv_sub hl [2, 3, 4, 5, 6, 1, 0] rfl) M (fun t_ ls H locs eq_ hl M => ?_) (fun v eq_ => eq_.elim)
    subst eq_
    refine lv_iload hx hb dX12_hasCall_67 (lv_at hl 0 rfl) ?_
    by_cases zg : q12 = 0 ∨ q12 = 1
    · rw [if_pos zg] at hs
      obtain rfl := Option.some.inj hs
      exact re_z F M zg dX12_hasCall_69
    · rw [if_neg zg] at hs; cases hs
  clear hs
  have hs := hsq4
  refine lv_icmp_ne (tgt := 15) hx hb dX12_hasCall_8 (by decide) (fun c3 => ?_) (fun c3 => ?_)
  · rw [if_neg c3] at hs
    refine lv_iconst (v := 0) hx hb dX12_hasCall_15 (by decide) ?_
    obtain rfl := Option.some.inj hs
    exact KJ16 _ _ _ (lv_sub hl [0, 1, 2, 3, 4] rfl) M
  · rw [if_pos c3] at hs
    refine lv_iconst (v := 1) hx hb dX12_hasCall_11 (by decide) ?_
    refine lv_goto (tgt := 16) hx hb dX12_hasCall_12 (by decide) ?_
    obtain rfl := Option.some.inj hs
    exact KJ16 _ _ _ (lv_sub hl [0, 1, 2, 3, 4] rfl) M
abbrev rm_X12_withCall : Room := { frames := 1, cells := 0, slots := 0, locals := 26 }
theorem mf_X12_withCall : MV 12 yX12_withCall cX12_withCall 6 (some .int) 3 RX12 := ⟨t_1250, t_1249, tS_77, t_12, ⟨by decide +kernel, by decide +kernel, by decide +kernel⟩, rfl, by decide⟩
def s_X12_withCall_L6 (N : Nat) : Nat → Nat → Option Nat → Int32 → Int32 → Int32 → Int32 → IH → Option (Int32)
  | 0, _, _, _, _, _, _, _ => none
  | n + 1, th, x1, x2, x3, x4, x5, h => (gI h 12 1 (some th)).bind fun v1 => if v1 ≤ x5 then some x4 else (cV h 12 (some th) fun a6 => s_X12_hasCall N h a6 x5 x1 x2 x3).bind fun v3 => ((if v3 = 0 then some x4 else some x5) : Option (Int32)).bind fun q5 => s_X12_withCall_L6 N n th x1 x2 x3 q5 (x5 + 1) h
def s_X12_withCall (N : Nat) (h : IH) (th : Nat) (a0 : Option Nat) (a1 : Int32) (a2 : Int32) : Option (Int32) := (s_X12_withCall_L6 N N th a0 a1 a2 (-1) 0 h).bind fun q7 => some q7
set_option maxHeartbeats 4000000 in
set_option maxRecDepth 100000 in
theorem w_X12_withCall_L6 {p : Program} {l : Launch} {e : Env} {s : State} {m : MethodId} {args : Array Value} {below : List Frame} {meth : Method} {c : Code} {D : va_G} {cy : Nat → ClassId} {A : Nat → Prop} {H0 : Heap} {N th : Nat} {x1 : Option Nat} {x2 : Int32} {x3 : Int32} {h : IH} {qF : Int32} (F : Fx p s m args meth c D cy A H0 yX12_withCall cX12_withCall 6 (some .int)) : ∀ (n : Nat) (x4 : Int32) (x5 : Int32) (ls : Array Slot) (H : Heap) (locs : List Loc) (q : Int32), s_X12_withCall_L6 N n th x1 x2 x3 x4 x5 h = some q → lv_has ls 6 [(0, .ref th), (1, va_rf x1), (2, .int x2), (3, .int x3), (4, .int x4), (5, .int x5)] → Mo D cy A H0 h H locs → (∀ (t : Int32) (ls : Array Slot) (H : Heap) (locs : List Loc), q = t → lv_has ls 6 [(4, .int t)] → Mo D cy A H0 h H locs → W p l e rm_X12_withCall s m args below meth c H locs 0 0 (MQ below (QR D cy h A (some (.int qF))) args s 0 0 A) (F0 m 42 ls [])) → (∀ v : Int32, False → v = qF) → W p l e rm_X12_withCall s m args below meth c H locs 0 0 (MQ below (QR D cy h A (some (.int qF))) args s 0 0 A) (F0 m 6 ls []) := by
  intro n
  induction n with
  | zero => intro x4 x5 ls H locs q hs; rw [s_X12_withCall_L6.eq_1] at hs; cases hs
  | succ n ih =>
    intro x4 x5 ls H locs q hs hl M kx kr
    obtain ⟨hx, hb, hr, hml, hown, hlk, hts, hK, hN, hA, hH⟩ := id F
    rw [s_X12_withCall_L6.eq_2] at hs
    refine lv_iload hx hb dX12_withCall_6 (lv_at hl 5 rfl) ?_
    refine lv_aload_n hx hb dX12_withCall_8 rfl (lv_at hl 0 rfl) ?_
    obtain ⟨v1, g_v1, hs⟩ := bd hs
    refine ro_gI F M fg_12_1 t_1007 g_v1 dX12_withCall_9 ?_
    refine lv_icmp_ge (tgt := 42) hx hb dX12_withCall_12 (by decide) (fun c2 => ?_) (fun c2 => ?_)
    · rw [if_pos c2] at hs
      exact kx x4 _ _ _ (Option.some.inj hs).symm (lv_sub hl [4] rfl) M
    · rw [if_neg c2] at hs
      refine lv_aload_n hx hb dX12_withCall_15 rfl (lv_at hl 0 rfl) ?_
      refine lv_iload hx hb dX12_withCall_16 (lv_at hl 5 rfl) ?_
      refine lo_aload_n hx hb dX12_withCall_18 rfl (lv_at hl 1 rfl) ?_
      refine lv_iload_n hx hb dX12_withCall_19 rfl (lv_at hl 2 rfl) ?_
      refine lv_iload_n hx hb dX12_withCall_20 rfl (lv_at hl 3 rfl) ?_
      obtain ⟨v3, g_v3, hs⟩ := bd hs
      obtain ⟨a6, e_a6, k_a6, g_v3⟩ := cV_some g_v3
      obtain rfl := Option.some.inj e_a6
      refine ca_Vi (bq := th) (As := [.int x5, va_rf x1, .int x2, .int x3]) (rest := []) F M (c_X12_hasCall g_v3) mf_X12_hasCall t_1251 k_a6 rfl ⟨by decide, by decide⟩ ⟨rfl, rfl⟩ ⟨Nat.zero_le _, Nat.zero_le _⟩ hl.1 rfl (by decide) dX12_withCall_21 (fun H locs M => ?_)
      obtain ⟨q5, hsq5, hs⟩ := bd hs
      have KJ34 : ∀ (ls : Array Slot) (H : Heap) (locs : List Loc), lv_has ls 6 [(0, .ref th), (1, va_rf x1), (2, .int x2), (3, .int x3), (5, .int x5)] → Mo D cy A H0 h H locs → W p l e rm_X12_withCall s m args below meth c H locs 0 0 (MQ below (QR D cy h A (some (.int qF))) args s 0 0 A) (F0 m 34 ls [.int q5]) := by
        intro ls H locs hl M
        refine lv_istore (i := 4) (lv' := [(4, .int q5), (0, .ref th), (1, va_rf x1), (2, .int x2), (3, .int x3), (5, .int x5)]) hx hb dX12_withCall_34 hl (by decide) rfl (fun ls hl => ?_)
        refine lv_iinc (v := x5 + 1) (lv' := [(5, .int (x5 + 1)), (4, .int q5), (0, .ref th), (1, va_rf x1), (2, .int x2), (3, .int x3)]) hx hb dX12_withCall_36 hl (k := 5) rfl rfl (by decide) rfl (fun ls hl => ?_)
        refine lv_goto (tgt := 6) hx hb dX12_withCall_39 (by decide) ?_
        exact ih q5 (x5 + 1) _ _ _ _ hs (lv_sub hl [2, 3, 4, 5, 1, 0] rfl) M kx kr
      clear hs
      have hs := hsq5
      refine lv_if_eq (tgt := 32) hx hb dX12_withCall_24 (by decide) (fun c4 => ?_) (fun c4 => ?_)
      · rw [if_pos c4] at hs
        refine lv_iload hx hb dX12_withCall_32 (lv_at hl 4 rfl) ?_
        obtain rfl := Option.some.inj hs
        exact KJ34 _ _ _ (lv_sub hl [0, 1, 2, 3, 5] rfl) M
      · rw [if_neg c4] at hs
        refine lv_iload hx hb dX12_withCall_27 (lv_at hl 5 rfl) ?_
        refine lv_goto (tgt := 34) hx hb dX12_withCall_29 (by decide) ?_
        obtain rfl := Option.some.inj hs
        exact KJ34 _ _ _ (lv_sub hl [0, 1, 2, 3, 5] rfl) M
set_option maxHeartbeats 4000000 in
set_option maxRecDepth 100000 in
theorem c_X12_withCall {l : Launch} {D : va_G} {cy : Nat → ClassId} {sz N : Nat} {h : IH} {th : Nat} {a0 : Option Nat} {a1 : Int32} {a2 : Int32} {qF : Int32} (hs : s_X12_withCall N h th a0 a1 a2 = some qF) : Ct l D cy yX12_withCall cX12_withCall 6 (some .int) rm_X12_withCall h sz [.ref th, va_rf a0, .int a1, .int a2] h (some (.int qF)) := by
  refine ct_start (by decide +kernel) [(0, .ref th), (1, va_rf a0), (2, .int a1), (3, .int a2)] (by simp [lg_sl, cat_rf, cat_i, cat_j, cat_r]) (by simp [lv_args, cat_rf, cat_i, cat_j, cat_r]) ?_
  intro p e s m args below meth c A H0 ls F hin hsz M hl
  obtain ⟨hx, hb, hr, hml, hown, hlk, hts, hK, hN, hA, hH⟩ := id F
  generalize s.heap = H at M ⊢
  generalize ([] : List Loc) = locs at M ⊢
  unfold s_X12_withCall at hs
  refine lv_iconst (v := (-1)) hx hb dX12_withCall_0 (by decide) ?_
  refine lv_istore (i := 4) (lv' := [(4, .int (-1)), (0, .ref th), (1, va_rf a0), (2, .int a1), (3, .int a2)]) hx hb dX12_withCall_1 hl (by decide) rfl (fun ls hl => ?_)
  refine lv_iconst (v := 0) hx hb dX12_withCall_3 (by decide) ?_
  refine lv_istore (i := 5) (lv' := [(5, .int 0), (4, .int (-1)), (0, .ref th), (1, va_rf a0), (2, .int a1), (3, .int a2)]) hx hb dX12_withCall_4 hl (by decide) rfl (fun ls hl => ?_)
  obtain ⟨q7, g_q7, hs⟩ := bd hs
  refine w_X12_withCall_L6 F N (-1) 0 _ _ _ q7 g_q7 (lv_sub hl [2, 3, 4, 5, 1, 0] rfl) M (fun t_ ls H locs eq_ hl M => ?_) (fun v eq_ => eq_.elim)
  subst eq_
  refine lv_iload hx hb dX12_withCall_42 (lv_at hl 0 rfl) ?_
  obtain rfl := Option.some.inj hs
  exact re_i F M dX12_withCall_44
abbrev rm_X12_station : Room := { frames := 3, cells := 0, slots := 0, locals := 69 }
theorem mf_X12_station : MV 12 yX12_station cX12_station 7 (some .int) 4 RX12 := ⟨t_1231, t_1229, t_1230, t_12, ⟨by decide +kernel, by decide +kernel, by decide +kernel⟩, rfl, by decide⟩
def s_X12_station_L159 (N : Nat) : Nat → Nat → Int32 → Int32 → IH → Option (IH)
  | 0, _, _, _, _ => none
  | n + 1, th, x5, x6, h => if x5 ≤ x6 then some h else (gR h 12 7 (some th)).bind fun v34 => (gI h 12 1 (some th)).bind fun v35 => (gR h 12 28 (some th)).bind fun v36 => (aI h v36 x6).bind fun v37 => (sI h v34 ((6 * v35) + x6) v37).bind fun h38 => s_X12_station_L159 N n th x5 (x6 + 1) h38
def s_X12_station (N : Nat) (h : IH) (th : Nat) (a0 : Int32) (a1 : Int32) (a2 : Int32) (a3 : Int32) : Option (Int32 × IH) := (gI h 12 29 (some th)).bind fun v1 => (pI h 12 29 (some th) 0).bind fun h2 => (s_X12_isIn h2 a0.toInt64 0 4).bind fun v3 => if v3 = 0 then some ((-1), h2) else (s_X12_isIn h2 a1.toInt64 0 39).bind fun v5 => if v5 = 0 then some ((-1), h2) else (s_X12_isIn h2 a2.toInt64 0 99).bind fun v7 => if v7 = 0 then some ((-1), h2) else (s_X12_isIn h2 a3.toInt64 0 99).bind fun v9 => if v9 = 0 then some ((-1), h2) else (cV h2 12 (some th) fun a45 => s_X12_isCall N h2 a45 0 v1).bind fun v11 => if v11 = 0 then some ((-2), h2) else (gR h2 12 28 (some th)).bind fun v13 => (cV h2 12 (some th) fun a44 => s_X12_withCall N h2 a44 v13 0 v1).bind fun v14 => if v14 < 0 then (gI h2 12 1 (some th)).bind fun v16 => if v16 = 12 then some ((-4), h2) else (gR h2 12 2 (some th)).bind fun v18 => (gI h2 12 1 (some th)).bind fun v19 => (sI h2 v18 v19 a0).bind fun h20 => (gR h20 12 3 (some th)).bind fun v21 => (gI h20 12 1 (some th)).bind fun v22 => (sI h20 v21 v22 a1).bind fun h23 => (gR h23 12 4 (some th)).bind fun v24 => (gI h23 12 1 (some th)).bind fun v25 => (sI h23 v24 v25 a2).bind fun h26 => (gR h26 12 5 (some th)).bind fun v27 => (gI h26 12 1 (some th)).bind fun v28 => (sI h26 v27 v28 a3).bind fun h29 => (gR h29 12 6 (some th)).bind fun v30 => (gI h29 12 1 (some th)).bind fun v31 => (sI h29 v30 v31 v1).bind fun h32 => (s_X12_station_L159 N N th v1 0 h32).bind fun q39 => (gI q39 12 1 (some th)).bind fun v40 => (pI q39 12 1 (some th) (v40 + 1)).bind fun h41 => (pZ h41 12 17 (some th) 0).bind fun h42 => (gI h42 12 1 (some th)).bind fun v43 => some (v43 - 1, h42) else some ((-3), h2)
set_option maxHeartbeats 4000000 in
set_option maxRecDepth 100000 in
theorem w_X12_station_L159 {p : Program} {l : Launch} {e : Env} {s : State} {m : MethodId} {args : Array Value} {below : List Frame} {meth : Method} {c : Code} {D : va_G} {cy : Nat → ClassId} {A : Nat → Prop} {H0 : Heap} {N th : Nat} {x5 : Int32} {qF : Int32 × IH} (F : Fx p s m args meth c D cy A H0 yX12_station cX12_station 7 (some .int)) : ∀ (n : Nat) (x6 : Int32) (h : IH) (ls : Array Slot) (H : Heap) (locs : List Loc) (q : IH), s_X12_station_L159 N n th x5 x6 h = some q → lv_has ls 7 [(0, .ref th), (5, .int x5), (6, .int x6)] → Mo D cy A H0 h H locs → (∀ (t : IH) (ls : Array Slot) (H : Heap) (locs : List Loc), q = t → lv_has ls 7 [(0, .ref th)] → Mo D cy A H0 t H locs → W p l e rm_X12_station s m args below meth c H locs 0 0 (MQ below (QR D cy qF.2 A (some (.int qF.1))) args s 0 0 A) (F0 m 194 ls [])) → (∀ v : Int32 × IH, False → v = qF) → W p l e rm_X12_station s m args below meth c H locs 0 0 (MQ below (QR D cy qF.2 A (some (.int qF.1))) args s 0 0 A) (F0 m 159 ls []) := by
  intro n
  induction n with
  | zero => intro x6 h ls H locs q hs; rw [s_X12_station_L159.eq_1] at hs; cases hs
  | succ n ih =>
    intro x6 h ls H locs q hs hl M kx kr
    obtain ⟨hx, hb, hr, hml, hown, hlk, hts, hK, hN, hA, hH⟩ := id F
    rw [s_X12_station_L159.eq_2] at hs
    refine lv_iload hx hb dX12_station_159 (lv_at hl 2 rfl) ?_
    refine lv_iload hx hb dX12_station_161 (lv_at hl 1 rfl) ?_
    refine lv_icmp_ge (tgt := 194) hx hb dX12_station_163 (by decide) (fun c33 => ?_) (fun c33 => ?_)
    · rw [if_pos c33] at hs
      exact kx h _ _ _ (Option.some.inj hs).symm (lv_sub hl [0] rfl) M
    · rw [if_neg c33] at hs
      refine lv_aload_n hx hb dX12_station_166 rfl (lv_at hl 0 rfl) ?_
      obtain ⟨v34, g_v34, hs⟩ := bd hs
      refine ro_gR F M fg_12_7 t_1013 g_v34 dX12_station_167 ?_
      refine lv_bipush (v := 6) hx hb dX12_station_170 (by decide) ?_
      refine lv_aload_n hx hb dX12_station_172 rfl (lv_at hl 0 rfl) ?_
      obtain ⟨v35, g_v35, hs⟩ := bd hs
      refine ro_gI F M fg_12_1 t_1007 g_v35 dX12_station_173 ?_
      refine lv_imul hx hb dX12_station_176 ?_
      refine lv_iload hx hb dX12_station_177 (lv_at hl 2 rfl) ?_
      refine lv_iadd hx hb dX12_station_179 ?_
      refine lv_aload_n hx hb dX12_station_180 rfl (lv_at hl 0 rfl) ?_
      obtain ⟨v36, g_v36, hs⟩ := bd hs
      refine ro_gR F M fg_12_28 t_1034 g_v36 dX12_station_181 ?_
      refine lv_iload hx hb dX12_station_184 (lv_at hl 2 rfl) ?_
      obtain ⟨v37, g_v37, hs⟩ := bd hs
      refine ro_aI F M g_v37 dX12_station_186 ?_
      obtain ⟨h38, g_h38, hs⟩ := bd hs
      refine ro_sI F M g_h38 dX12_station_187 (fun H locs M => ?_)
      refine lv_iinc (v := x6 + 1) (lv' := [(6, .int (x6 + 1)), (0, .ref th), (5, .int x5)]) hx hb dX12_station_188 hl (k := 2) rfl rfl (by decide) rfl (fun ls hl => ?_)
      refine lv_goto (tgt := 159) hx hb dX12_station_191 (by decide) ?_
      exact ih (x6 + 1) h38 _ _ _ _ hs (lv_sub hl [1, 2, 0] rfl) M kx kr
set_option maxHeartbeats 4000000 in
set_option maxRecDepth 100000 in
theorem c_X12_station {l : Launch} {D : va_G} {cy : Nat → ClassId} {sz N : Nat} {h : IH} {th : Nat} {a0 : Int32} {a1 : Int32} {a2 : Int32} {a3 : Int32} {qF : Int32 × IH} (hs : s_X12_station N h th a0 a1 a2 a3 = some qF) : Ct l D cy yX12_station cX12_station 7 (some .int) rm_X12_station h sz [.ref th, .int a0, .int a1, .int a2, .int a3] qF.2 (some (.int qF.1)) := by
  refine ct_start (by decide +kernel) [(0, .ref th), (1, .int a0), (2, .int a1), (3, .int a2), (4, .int a3)] (Nat.le_of_ble_eq_true rfl) rfl ?_
  intro p e s m args below meth c A H0 ls F hin hsz M hl
  obtain ⟨hx, hb, hr, hml, hown, hlk, hts, hK, hN, hA, hH⟩ := id F
  generalize s.heap = H at M ⊢
  generalize ([] : List Loc) = locs at M ⊢
  unfold s_X12_station at hs
  refine lv_aload_n hx hb dX12_station_0 rfl (lv_at hl 0 rfl) ?_
  obtain ⟨v1, g_v1, hs⟩ := bd hs
  refine ro_gI F M fg_12_29 t_1035 g_v1 dX12_station_1 ?_
  refine lv_istore (i := 5) (lv' := [(5, .int v1), (0, .ref th), (1, .int a0), (2, .int a1), (3, .int a2), (4, .int a3)]) hx hb dX12_station_4 hl (by decide) rfl (fun ls hl => ?_)
  refine lv_aload_n hx hb dX12_station_6 rfl (lv_at hl 1 rfl) ?_
  refine lv_iconst (v := 0) hx hb dX12_station_7 (by decide) ?_
  obtain ⟨h2, g_h2, hs⟩ := bd hs
  refine ro_pI F M fg_12_29 fp_12_29 rfl t_1035 g_h2 dX12_station_8 (fun H locs M => ?_)
  refine lv_iload_n hx hb dX12_station_11 rfl (lv_at hl 2 rfl) ?_
  refine lv_i2l hx hb dX12_station_12 rfl ?_
  refine lv_lconst (v := 0) hx hb dX12_station_13 (by decide) ?_
  refine lv_ldc2 (v := 4) hx hb hown (hts _ (List.mem_cons_of_mem _ t_1232)) dX12_station_14 ?_
  obtain ⟨v3, g_v3, hs⟩ := bd hs
  refine ca_Si (As := [.long a0.toInt64, .long 0, .long 4]) (rest := []) F M (c_X12_isIn g_v3) mf_X12_isIn t_1225 rfl ⟨by decide, by decide⟩ ⟨rfl, rfl⟩ ⟨Nat.zero_le _, Nat.zero_le _⟩ hl.1 rfl (by decide) dX12_station_17 (fun H locs M => ?_)
  refine lv_if_eq (tgt := 60) hx hb dX12_station_20 (by decide) (fun c4 => ?_) (fun c4 => ?_)
  · rw [if_pos c4] at hs
    refine lv_iconst (v := (-1)) hx hb dX12_station_60 (by decide) ?_
    obtain rfl := Option.some.inj hs
    exact re_i F M dX12_station_61
  · rw [if_neg c4] at hs
    refine lv_iload_n hx hb dX12_station_23 rfl (lv_at hl 3 rfl) ?_
    refine lv_i2l hx hb dX12_station_24 rfl ?_
    refine lv_lconst (v := 0) hx hb dX12_station_25 (by decide) ?_
    refine lv_ldc2 (v := 39) hx hb hown (hts _ (List.mem_cons_of_mem _ t_1233)) dX12_station_26 ?_
    obtain ⟨v5, g_v5, hs⟩ := bd hs
    refine ca_Si (As := [.long a1.toInt64, .long 0, .long 39]) (rest := []) F M (c_X12_isIn g_v5) mf_X12_isIn t_1225 rfl ⟨by decide, by decide⟩ ⟨rfl, rfl⟩ ⟨Nat.zero_le _, Nat.zero_le _⟩ hl.1 rfl (by decide) dX12_station_29 (fun H locs M => ?_)
    refine lv_if_eq (tgt := 60) hx hb dX12_station_32 (by decide) (fun c6 => ?_) (fun c6 => ?_)
    · rw [if_pos c6] at hs
      refine lv_iconst (v := (-1)) hx hb dX12_station_60 (by decide) ?_
      obtain rfl := Option.some.inj hs
      exact re_i F M dX12_station_61
    · rw [if_neg c6] at hs
      refine lv_iload_n hx hb dX12_station_35 rfl (lv_at hl 4 rfl) ?_
      refine lv_i2l hx hb dX12_station_36 rfl ?_
      refine lv_lconst (v := 0) hx hb dX12_station_37 (by decide) ?_
      refine lv_ldc2 (v := 99) hx hb hown (hts _ (List.mem_cons_of_mem _ t_1234)) dX12_station_38 ?_
      obtain ⟨v7, g_v7, hs⟩ := bd hs
      refine ca_Si (As := [.long a2.toInt64, .long 0, .long 99]) (rest := []) F M (c_X12_isIn g_v7) mf_X12_isIn t_1225 rfl ⟨by decide, by decide⟩ ⟨rfl, rfl⟩ ⟨Nat.zero_le _, Nat.zero_le _⟩ hl.1 rfl (by decide) dX12_station_41 (fun H locs M => ?_)
      refine lv_if_eq (tgt := 60) hx hb dX12_station_44 (by decide) (fun c8 => ?_) (fun c8 => ?_)
      · rw [if_pos c8] at hs
        refine lv_iconst (v := (-1)) hx hb dX12_station_60 (by decide) ?_
        obtain rfl := Option.some.inj hs
        exact re_i F M dX12_station_61
      · rw [if_neg c8] at hs
        refine lv_iload hx hb dX12_station_47 (lv_at hl 5 rfl) ?_
        refine lv_i2l hx hb dX12_station_49 rfl ?_
        refine lv_lconst (v := 0) hx hb dX12_station_50 (by decide) ?_
        refine lv_ldc2 (v := 99) hx hb hown (hts _ (List.mem_cons_of_mem _ t_1234)) dX12_station_51 ?_
        obtain ⟨v9, g_v9, hs⟩ := bd hs
        refine ca_Si (As := [.long a3.toInt64, .long 0, .long 99]) (rest := []) F M (c_X12_isIn g_v9) mf_X12_isIn t_1225 rfl ⟨by decide, by decide⟩ ⟨rfl, rfl⟩ ⟨Nat.zero_le _, Nat.zero_le _⟩ hl.1 rfl (by decide) dX12_station_54 (fun H locs M => ?_)
        refine lv_if_ne (tgt := 62) hx hb dX12_station_57 (by decide) (fun c10 => ?_) (fun c10 => ?_)
        · rw [if_neg c10] at hs
          refine lv_aload_n hx hb dX12_station_62 rfl (lv_at hl 1 rfl) ?_
          refine lv_iconst (v := 0) hx hb dX12_station_63 (by decide) ?_
          refine lv_iload hx hb dX12_station_64 (lv_at hl 0 rfl) ?_
          obtain ⟨v11, g_v11, hs⟩ := bd hs
          obtain ⟨a45, e_a45, k_a45, g_v11⟩ := cV_some g_v11
          obtain rfl := Option.some.inj e_a45
          refine ca_Vi (bq := th) (As := [.int 0, .int v1]) (rest := []) F M (c_X12_isCall g_v11) mf_X12_isCall t_1235 k_a45 rfl ⟨by decide, by decide⟩ ⟨rfl, rfl⟩ ⟨Nat.zero_le _, Nat.zero_le _⟩ hl.1 rfl (by decide) dX12_station_66 (fun H locs M => ?_)
          refine lv_if_ne (tgt := 75) hx hb dX12_station_69 (by decide) (fun c12 => ?_) (fun c12 => ?_)
          · rw [if_neg c12] at hs
            refine lv_aload_n hx hb dX12_station_75 rfl (lv_at hl 1 rfl) ?_
            refine lv_aload_n hx hb dX12_station_76 rfl (lv_at hl 1 rfl) ?_
            obtain ⟨v13, g_v13, hs⟩ := bd hs
            refine ro_gR F M fg_12_28 t_1034 g_v13 dX12_station_77 ?_
            refine lv_iconst (v := 0) hx hb dX12_station_80 (by decide) ?_
            refine lv_iload hx hb dX12_station_81 (lv_at hl 0 rfl) ?_
            obtain ⟨v14, g_v14, hs⟩ := bd hs
            obtain ⟨a44, e_a44, k_a44, g_v14⟩ := cV_some g_v14
            obtain rfl := Option.some.inj e_a44
            refine ca_Vi (bq := th) (As := [va_rf v13, .int 0, .int v1]) (rest := []) F M (c_X12_withCall g_v14) mf_X12_withCall t_1247 k_a44 rfl ⟨by decide, by decide⟩ ⟨rfl, rfl⟩ ⟨Nat.zero_le _, Nat.zero_le _⟩ hl.1 rfl (by decide) dX12_station_83 (fun H locs M => ?_)
            refine lv_if_lt (tgt := 92) hx hb dX12_station_86 (by decide) (fun c15 => ?_) (fun c15 => ?_)
            · rw [if_pos c15] at hs
              refine lv_aload_n hx hb dX12_station_92 rfl (lv_at hl 1 rfl) ?_
              obtain ⟨v16, g_v16, hs⟩ := bd hs
              refine ro_gI F M fg_12_1 t_1007 g_v16 dX12_station_93 ?_
              refine lv_bipush (v := 12) hx hb dX12_station_96 (by decide) ?_
              refine lv_icmp_ne (tgt := 104) hx hb dX12_station_98 (by decide) (fun c17 => ?_) (fun c17 => ?_)
              · rw [if_neg c17] at hs
                refine lv_aload_n hx hb dX12_station_104 rfl (lv_at hl 1 rfl) ?_
                obtain ⟨v18, g_v18, hs⟩ := bd hs
                refine ro_gR F M fg_12_2 t_1008 g_v18 dX12_station_105 ?_
                refine lv_aload_n hx hb dX12_station_108 rfl (lv_at hl 1 rfl) ?_
                obtain ⟨v19, g_v19, hs⟩ := bd hs
                refine ro_gI F M fg_12_1 t_1007 g_v19 dX12_station_109 ?_
                refine lv_iload_n hx hb dX12_station_112 rfl (lv_at hl 2 rfl) ?_
                obtain ⟨h20, g_h20, hs⟩ := bd hs
                refine ro_sI F M g_h20 dX12_station_113 (fun H locs M => ?_)
                refine lv_aload_n hx hb dX12_station_114 rfl (lv_at hl 1 rfl) ?_
                obtain ⟨v21, g_v21, hs⟩ := bd hs
                refine ro_gR F M fg_12_3 t_1009 g_v21 dX12_station_115 ?_
                refine lv_aload_n hx hb dX12_station_118 rfl (lv_at hl 1 rfl) ?_
                obtain ⟨v22, g_v22, hs⟩ := bd hs
                refine ro_gI F M fg_12_1 t_1007 g_v22 dX12_station_119 ?_
                refine lv_iload_n hx hb dX12_station_122 rfl (lv_at hl 3 rfl) ?_
                obtain ⟨h23, g_h23, hs⟩ := bd hs
                refine ro_sI F M g_h23 dX12_station_123 (fun H locs M => ?_)
                refine lv_aload_n hx hb dX12_station_124 rfl (lv_at hl 1 rfl) ?_
                obtain ⟨v24, g_v24, hs⟩ := bd hs
                refine ro_gR F M fg_12_4 t_1010 g_v24 dX12_station_125 ?_
                refine lv_aload_n hx hb dX12_station_128 rfl (lv_at hl 1 rfl) ?_
                obtain ⟨v25, g_v25, hs⟩ := bd hs
                refine ro_gI F M fg_12_1 t_1007 g_v25 dX12_station_129 ?_
                refine lv_iload_n hx hb dX12_station_132 rfl (lv_at hl 4 rfl) ?_
                obtain ⟨h26, g_h26, hs⟩ := bd hs
                refine ro_sI F M g_h26 dX12_station_133 (fun H locs M => ?_)
                refine lv_aload_n hx hb dX12_station_134 rfl (lv_at hl 1 rfl) ?_
                obtain ⟨v27, g_v27, hs⟩ := bd hs
                refine ro_gR F M fg_12_5 t_1011 g_v27 dX12_station_135 ?_
                refine lv_aload_n hx hb dX12_station_138 rfl (lv_at hl 1 rfl) ?_
                obtain ⟨v28, g_v28, hs⟩ := bd hs
                refine ro_gI F M fg_12_1 t_1007 g_v28 dX12_station_139 ?_
                refine lv_iload hx hb dX12_station_142 (lv_at hl 5 rfl) ?_
                obtain ⟨h29, g_h29, hs⟩ := bd hs
                refine ro_sI F M g_h29 dX12_station_144 (fun H locs M => ?_)
                refine lv_aload_n hx hb dX12_station_145 rfl (lv_at hl 1 rfl) ?_
                obtain ⟨v30, g_v30, hs⟩ := bd hs
                refine ro_gR F M fg_12_6 t_1012 g_v30 dX12_station_146 ?_
                refine lv_aload_n hx hb dX12_station_149 rfl (lv_at hl 1 rfl) ?_
                obtain ⟨v31, g_v31, hs⟩ := bd hs
                refine ro_gI F M fg_12_1 t_1007 g_v31 dX12_station_150 ?_
                refine lv_iload hx hb dX12_station_153 (lv_at hl 0 rfl) ?_
                obtain ⟨h32, g_h32, hs⟩ := bd hs
                refine ro_sI F M g_h32 dX12_station_155 (fun H locs M => ?_)
                refine lv_iconst (v := 0) hx hb dX12_station_156 (by decide) ?_
                refine lv_istore (i := 6) (lv' := [(6, .int 0), (5, .int v1), (0, .ref th), (1, .int a0), (2, .int a1), (3, .int a2), (4, .int a3)]) hx hb dX12_station_157 hl (by decide) rfl (fun ls hl => ?_)
                obtain ⟨q39, g_q39, hs⟩ := bd hs
                refine w_X12_station_L159 F N 0 h32 _ _ _ q39 g_q39 (lv_sub hl [2, 1, 0] rfl) M (fun t_ ls H locs eq_ hl M => ?_) (fun v eq_ => eq_.elim)
                subst eq_
                refine lv_aload_n hx hb dX12_station_194 rfl (lv_at hl 0 rfl) ?_
                refine lv_dup hx hb dX12_station_195 rfl ?_
                obtain ⟨v40, g_v40, hs⟩ := bd hs
                refine ro_gI F M fg_12_1 t_1007 g_v40 dX12_station_196 ?_
                refine lv_iconst (v := 1) hx hb dX12_station_199 (by decide) ?_
                refine lv_iadd hx hb dX12_station_200 ?_
                obtain ⟨h41, g_h41, hs⟩ := bd hs
                refine ro_pI F M fg_12_1 fp_12_1 rfl t_1007 g_h41 dX12_station_201 (fun H locs M => ?_)
                refine lv_aload_n hx hb dX12_station_204 rfl (lv_at hl 0 rfl) ?_
                refine lv_iconst (v := 0) hx hb dX12_station_205 (by decide) ?_
                obtain ⟨h42, g_h42, hs⟩ := bd hs
                refine ro_pZ F M fg_12_17 fp_12_17 rfl t_1023 g_h42 dX12_station_206 (fun H locs M => ?_)
                refine lv_aload_n hx hb dX12_station_209 rfl (lv_at hl 0 rfl) ?_
                obtain ⟨v43, g_v43, hs⟩ := bd hs
                refine ro_gI F M fg_12_1 t_1007 g_v43 dX12_station_210 ?_
                refine lv_iconst (v := 1) hx hb dX12_station_213 (by decide) ?_
                refine lv_isub hx hb dX12_station_214 ?_
                obtain rfl := Option.some.inj hs
                exact re_i F M dX12_station_215
              · rw [if_pos c17] at hs
                refine lv_bipush (v := (-4)) hx hb dX12_station_101 (by decide) ?_
                obtain rfl := Option.some.inj hs
                exact re_i F M dX12_station_103
            · rw [if_neg c15] at hs
              refine lv_bipush (v := (-3)) hx hb dX12_station_89 (by decide) ?_
              obtain rfl := Option.some.inj hs
              exact re_i F M dX12_station_91
          · rw [if_pos c12] at hs
            refine lv_bipush (v := (-2)) hx hb dX12_station_72 (by decide) ?_
            obtain rfl := Option.some.inj hs
            exact re_i F M dX12_station_74
        · rw [if_pos c10] at hs
          refine lv_iconst (v := (-1)) hx hb dX12_station_60 (by decide) ?_
          obtain rfl := Option.some.inj hs
          exact re_i F M dX12_station_61
abbrev rm_X12_isStation : Room := { frames := 1, cells := 0, slots := 0, locals := 25 }
theorem mf_X12_isStation : MV 12 yX12_isStation cX12_isStation 2 (some .boolean) 1 RX12 := ⟨t_1262, t_1261, tS_79, t_12, ⟨by decide +kernel, by decide +kernel, by decide +kernel⟩, rfl, by decide⟩
def s_X12_isStation (h : IH) (th : Nat) (a0 : Int32) : Option (Int32) := (gI h 12 1 (some th)).bind fun v1 => (s_X12_isIn h a0.toInt64 0 ((v1 - 1).toInt64)).bind fun v2 => if v2 = 0 ∨ v2 = 1 then some v2 else none
set_option maxHeartbeats 4000000 in
set_option maxRecDepth 100000 in
theorem c_X12_isStation {l : Launch} {D : va_G} {cy : Nat → ClassId} {sz : Nat} {h : IH} {th : Nat} {a0 : Int32} {qF : Int32} (hs : s_X12_isStation h th a0 = some qF) : Ct l D cy yX12_isStation cX12_isStation 2 (some .boolean) rm_X12_isStation h sz [.ref th, .int a0] h (some (.int qF)) := by
  refine ct_start (by decide +kernel) [(0, .ref th), (1, .int a0)] (Nat.le_of_ble_eq_true rfl) rfl ?_
  intro p e s m args below meth c A H0 ls F hin hsz M hl
  obtain ⟨hx, hb, hr, hml, hown, hlk, hts, hK, hN, hA, hH⟩ := id F
  generalize s.heap = H at M ⊢
  generalize ([] : List Loc) = locs at M ⊢
  unfold s_X12_isStation at hs
  refine lv_iload_n hx hb dX12_isStation_0 rfl (lv_at hl 1 rfl) ?_
  refine lv_i2l hx hb dX12_isStation_1 rfl ?_
  refine lv_lconst (v := 0) hx hb dX12_isStation_2 (by decide) ?_
  refine lv_aload_n hx hb dX12_isStation_3 rfl (lv_at hl 0 rfl) ?_
  obtain ⟨v1, g_v1, hs⟩ := bd hs
  refine ro_gI F M fg_12_1 t_1007 g_v1 dX12_isStation_4 ?_
  refine lv_iconst (v := 1) hx hb dX12_isStation_7 (by decide) ?_
  refine lv_isub hx hb dX12_isStation_8 ?_
  refine lv_i2l hx hb dX12_isStation_9 rfl ?_
  obtain ⟨v2, g_v2, hs⟩ := bd hs
  refine ca_Si (As := [.long a0.toInt64, .long 0, .long ((v1 - 1).toInt64)]) (rest := []) F M (c_X12_isIn g_v2) mf_X12_isIn t_1225 rfl ⟨by decide, by decide⟩ ⟨rfl, rfl⟩ ⟨Nat.zero_le _, Nat.zero_le _⟩ hl.1 rfl (by decide) dX12_isStation_10 (fun H locs M => ?_)
  by_cases zg : v2 = 0 ∨ v2 = 1
  · rw [if_pos zg] at hs
    obtain rfl := Option.some.inj hs
    exact re_z F M zg dX12_isStation_13
  · rw [if_neg zg] at hs; cases hs
abbrev rm_X12_join : Room := { frames := 2, cells := 0, slots := 0, locals := 46 }
theorem mf_X12_join : MV 12 yX12_join cX12_join 5 (some .int) 2 RX12 := ⟨t_1258, t_1256, t_1257, t_12, ⟨by decide +kernel, by decide +kernel, by decide +kernel⟩, rfl, by decide⟩
def s_X12_join_L67 (N : Nat) : Nat → Nat → Int32 → Int32 → Int32 → IH → Option (Int32)
  | 0, _, _, _, _, _ => none
  | n + 1, th, x1, x3, x4, h => (gI h 12 1 (some th)).bind fun v16 => if v16 ≤ x4 then some x3 else (gR h 12 8 (some th)).bind fun v18 => (aI h v18 x4).bind fun v19 => ((if v19 = (x1 + 1) then some 1 else some 0) : Option (Int32)).bind fun q21 => s_X12_join_L67 N n th x1 (x3 + q21) (x4 + 1) h
def s_X12_join (N : Nat) (h : IH) (th : Nat) (a0 : Int32) (a1 : Int32) : Option (Int32 × IH) := (cV h 12 (some th) fun a24 => s_X12_isStation h a24 a1).bind fun v1 => if v1 = 0 then some ((-1), h) else (cV h 12 (some th) fun a23 => s_X12_isStation h a23 a0).bind fun v3 => if v3 = 0 then some ((-1), h) else (gR h 12 2 (some th)).bind fun v5 => (aI h v5 a0).bind fun v6 => if v6 = 4 then (gR h 12 2 (some th)).bind fun v8 => (aI h v8 a1).bind fun v9 => if v9 = 4 then some ((-2), h) else (gR h 12 8 (some th)).bind fun v11 => (aI h v11 a1).bind fun v12 => if v12 ≤ 0 then (gR h 12 8 (some th)).bind fun v14 => (sI h v14 a1 (a0 + 1)).bind fun h15 => (s_X12_join_L67 N N th a0 0 0 h15).bind fun q22 => some (q22, h15) else some ((-3), h) else some ((-1), h)
set_option maxHeartbeats 4000000 in
set_option maxRecDepth 100000 in
theorem w_X12_join_L67 {p : Program} {l : Launch} {e : Env} {s : State} {m : MethodId} {args : Array Value} {below : List Frame} {meth : Method} {c : Code} {D : va_G} {cy : Nat → ClassId} {A : Nat → Prop} {H0 : Heap} {N th : Nat} {x1 : Int32} {h : IH} {qF : Int32 × IH} (F : Fx p s m args meth c D cy A H0 yX12_join cX12_join 5 (some .int)) : ∀ (n : Nat) (x3 : Int32) (x4 : Int32) (ls : Array Slot) (H : Heap) (locs : List Loc) (q : Int32), s_X12_join_L67 N n th x1 x3 x4 h = some q → lv_has ls 5 [(0, .ref th), (1, .int x1), (3, .int x3), (4, .int x4)] → Mo D cy A H0 h H locs → (∀ (t : Int32) (ls : Array Slot) (H : Heap) (locs : List Loc), q = t → lv_has ls 5 [(3, .int t)] → Mo D cy A H0 h H locs → W p l e rm_X12_join s m args below meth c H locs 0 0 (MQ below (QR D cy qF.2 A (some (.int qF.1))) args s 0 0 A) (F0 m 103 ls [])) → (∀ v : Int32 × IH, False → v = qF) → W p l e rm_X12_join s m args below meth c H locs 0 0 (MQ below (QR D cy qF.2 A (some (.int qF.1))) args s 0 0 A) (F0 m 67 ls []) := by
  intro n
  induction n with
  | zero => intro x3 x4 ls H locs q hs; rw [s_X12_join_L67.eq_1] at hs; cases hs
  | succ n ih =>
    intro x3 x4 ls H locs q hs hl M kx kr
    obtain ⟨hx, hb, hr, hml, hown, hlk, hts, hK, hN, hA, hH⟩ := id F
    rw [s_X12_join_L67.eq_2] at hs
    refine lv_iload hx hb dX12_join_67 (lv_at hl 3 rfl) ?_
    refine lv_aload_n hx hb dX12_join_69 rfl (lv_at hl 0 rfl) ?_
    obtain ⟨v16, g_v16, hs⟩ := bd hs
    refine ro_gI F M fg_12_1 t_1007 g_v16 dX12_join_70 ?_
    refine lv_icmp_ge (tgt := 103) hx hb dX12_join_73 (by decide) (fun c17 => ?_) (fun c17 => ?_)
    · rw [if_pos c17] at hs
      exact kx x3 _ _ _ (Option.some.inj hs).symm (lv_sub hl [2] rfl) M
    · rw [if_neg c17] at hs
      refine lv_iload_n hx hb dX12_join_76 rfl (lv_at hl 2 rfl) ?_
      refine lv_aload_n hx hb dX12_join_77 rfl (lv_at hl 0 rfl) ?_
      obtain ⟨v18, g_v18, hs⟩ := bd hs
      refine ro_gR F M fg_12_8 t_1014 g_v18 dX12_join_78 ?_
      refine lv_iload hx hb dX12_join_81 (lv_at hl 3 rfl) ?_
      obtain ⟨v19, g_v19, hs⟩ := bd hs
      refine ro_aI F M g_v19 dX12_join_83 ?_
      refine lv_iload_n hx hb dX12_join_84 rfl (lv_at hl 1 rfl) ?_
      refine lv_iconst (v := 1) hx hb dX12_join_85 (by decide) ?_
      refine lv_iadd hx hb dX12_join_86 ?_
      obtain ⟨q21, hsq21, hs⟩ := bd hs
      have KJ95 : ∀ (ls : Array Slot) (H : Heap) (locs : List Loc), lv_has ls 5 [(0, .ref th), (1, .int x1), (4, .int x4)] → Mo D cy A H0 h H locs → W p l e rm_X12_join s m args below meth c H locs 0 0 (MQ below (QR D cy qF.2 A (some (.int qF.1))) args s 0 0 A) (F0 m 95 ls [.int q21, .int x3]) := by
        intro ls H locs hl M
        refine lv_iadd hx hb dX12_join_95 ?_
        refine lv_istore_n (i := 3) (lv' := [(3, .int (x3 + q21)), (0, .ref th), (1, .int x1), (4, .int x4)]) hx hb dX12_join_96 rfl hl (by decide) rfl (fun ls hl => ?_)
        refine lv_iinc (v := x4 + 1) (lv' := [(4, .int (x4 + 1)), (3, .int (x3 + q21)), (0, .ref th), (1, .int x1)]) hx hb dX12_join_97 hl (k := 3) rfl rfl (by decide) rfl (fun ls hl => ?_)
        refine lv_goto (tgt := 67) hx hb dX12_join_100 (by decide) ?_
        exact ih (x3 + q21) (x4 + 1) _ _ _ _ hs (lv_sub hl [2, 3, 1, 0] rfl) M kx kr
      clear hs
      have hs := hsq21
      refine lv_icmp_ne (tgt := 94) hx hb dX12_join_87 (by decide) (fun c20 => ?_) (fun c20 => ?_)
      · rw [if_neg c20] at hs
        refine lv_iconst (v := 0) hx hb dX12_join_94 (by decide) ?_
        obtain rfl := Option.some.inj hs
        exact KJ95 _ _ _ (lv_sub hl [0, 1, 3] rfl) M
      · rw [if_pos c20] at hs
        refine lv_iconst (v := 1) hx hb dX12_join_90 (by decide) ?_
        refine lv_goto (tgt := 95) hx hb dX12_join_91 (by decide) ?_
        obtain rfl := Option.some.inj hs
        exact KJ95 _ _ _ (lv_sub hl [0, 1, 3] rfl) M
set_option maxHeartbeats 4000000 in
set_option maxRecDepth 100000 in
theorem c_X12_join {l : Launch} {D : va_G} {cy : Nat → ClassId} {sz N : Nat} {h : IH} {th : Nat} {a0 : Int32} {a1 : Int32} {qF : Int32 × IH} (hs : s_X12_join N h th a0 a1 = some qF) : Ct l D cy yX12_join cX12_join 5 (some .int) rm_X12_join h sz [.ref th, .int a0, .int a1] qF.2 (some (.int qF.1)) := by
  refine ct_start (by decide +kernel) [(0, .ref th), (1, .int a0), (2, .int a1)] (Nat.le_of_ble_eq_true rfl) rfl ?_
  intro p e s m args below meth c A H0 ls F hin hsz M hl
  obtain ⟨hx, hb, hr, hml, hown, hlk, hts, hK, hN, hA, hH⟩ := id F
  generalize s.heap = H at M ⊢
  generalize ([] : List Loc) = locs at M ⊢
  unfold s_X12_join at hs
  refine lv_aload_n hx hb dX12_join_0 rfl (lv_at hl 0 rfl) ?_
  refine lv_iload_n hx hb dX12_join_1 rfl (lv_at hl 2 rfl) ?_
  obtain ⟨v1, g_v1, hs⟩ := bd hs
  obtain ⟨a24, e_a24, k_a24, g_v1⟩ := cV_some g_v1
  obtain rfl := Option.some.inj e_a24
  refine ca_Vi (bq := th) (As := [.int a1]) (rest := []) F M (c_X12_isStation g_v1) mf_X12_isStation t_1259 k_a24 rfl ⟨by decide, by decide⟩ ⟨rfl, rfl⟩ ⟨Nat.zero_le _, Nat.zero_le _⟩ hl.1 rfl (by decide) dX12_join_2 (fun H locs M => ?_)
  refine lv_if_eq (tgt := 26) hx hb dX12_join_5 (by decide) (fun c2 => ?_) (fun c2 => ?_)
  · rw [if_pos c2] at hs
    refine lv_iconst (v := (-1)) hx hb dX12_join_26 (by decide) ?_
    obtain rfl := Option.some.inj hs
    exact re_i F M dX12_join_27
  · rw [if_neg c2] at hs
    refine lv_aload_n hx hb dX12_join_8 rfl (lv_at hl 0 rfl) ?_
    refine lv_iload_n hx hb dX12_join_9 rfl (lv_at hl 1 rfl) ?_
    obtain ⟨v3, g_v3, hs⟩ := bd hs
    obtain ⟨a23, e_a23, k_a23, g_v3⟩ := cV_some g_v3
    obtain rfl := Option.some.inj e_a23
    refine ca_Vi (bq := th) (As := [.int a0]) (rest := []) F M (c_X12_isStation g_v3) mf_X12_isStation t_1259 k_a23 rfl ⟨by decide, by decide⟩ ⟨rfl, rfl⟩ ⟨Nat.zero_le _, Nat.zero_le _⟩ hl.1 rfl (by decide) dX12_join_10 (fun H locs M => ?_)
    refine lv_if_eq (tgt := 26) hx hb dX12_join_13 (by decide) (fun c4 => ?_) (fun c4 => ?_)
    · rw [if_pos c4] at hs
      refine lv_iconst (v := (-1)) hx hb dX12_join_26 (by decide) ?_
      obtain rfl := Option.some.inj hs
      exact re_i F M dX12_join_27
    · rw [if_neg c4] at hs
      refine lv_aload_n hx hb dX12_join_16 rfl (lv_at hl 0 rfl) ?_
      obtain ⟨v5, g_v5, hs⟩ := bd hs
      refine ro_gR F M fg_12_2 t_1008 g_v5 dX12_join_17 ?_
      refine lv_iload_n hx hb dX12_join_20 rfl (lv_at hl 1 rfl) ?_
      obtain ⟨v6, g_v6, hs⟩ := bd hs
      refine ro_aI F M g_v6 dX12_join_21 ?_
      refine lv_iconst (v := 4) hx hb dX12_join_22 (by decide) ?_
      refine lv_icmp_eq (tgt := 28) hx hb dX12_join_23 (by decide) (fun c7 => ?_) (fun c7 => ?_)
      · rw [if_pos c7] at hs
        refine lv_aload_n hx hb dX12_join_28 rfl (lv_at hl 0 rfl) ?_
        obtain ⟨v8, g_v8, hs⟩ := bd hs
        refine ro_gR F M fg_12_2 t_1008 g_v8 dX12_join_29 ?_
        refine lv_iload_n hx hb dX12_join_32 rfl (lv_at hl 2 rfl) ?_
        obtain ⟨v9, g_v9, hs⟩ := bd hs
        refine ro_aI F M g_v9 dX12_join_33 ?_
        refine lv_iconst (v := 4) hx hb dX12_join_34 (by decide) ?_
        refine lv_icmp_ne (tgt := 41) hx hb dX12_join_35 (by decide) (fun c10 => ?_) (fun c10 => ?_)
        · rw [if_neg c10] at hs
          refine lv_aload_n hx hb dX12_join_41 rfl (lv_at hl 0 rfl) ?_
          obtain ⟨v11, g_v11, hs⟩ := bd hs
          refine ro_gR F M fg_12_8 t_1014 g_v11 dX12_join_42 ?_
          refine lv_iload_n hx hb dX12_join_45 rfl (lv_at hl 2 rfl) ?_
          obtain ⟨v12, g_v12, hs⟩ := bd hs
          refine ro_aI F M g_v12 dX12_join_46 ?_
          refine lv_if_le (tgt := 53) hx hb dX12_join_47 (by decide) (fun c13 => ?_) (fun c13 => ?_)
          · rw [if_pos c13] at hs
            refine lv_aload_n hx hb dX12_join_53 rfl (lv_at hl 0 rfl) ?_
            obtain ⟨v14, g_v14, hs⟩ := bd hs
            refine ro_gR F M fg_12_8 t_1014 g_v14 dX12_join_54 ?_
            refine lv_iload_n hx hb dX12_join_57 rfl (lv_at hl 2 rfl) ?_
            refine lv_iload_n hx hb dX12_join_58 rfl (lv_at hl 1 rfl) ?_
            refine lv_iconst (v := 1) hx hb dX12_join_59 (by decide) ?_
            refine lv_iadd hx hb dX12_join_60 ?_
            obtain ⟨h15, g_h15, hs⟩ := bd hs
            refine ro_sI F M g_h15 dX12_join_61 (fun H locs M => ?_)
            refine lv_iconst (v := 0) hx hb dX12_join_62 (by decide) ?_
            refine lv_istore_n (i := 3) (lv' := [(3, .int 0), (0, .ref th), (1, .int a0), (2, .int a1)]) hx hb dX12_join_63 rfl hl (by decide) rfl (fun ls hl => ?_)
            refine lv_iconst (v := 0) hx hb dX12_join_64 (by decide) ?_
            refine lv_istore (i := 4) (lv' := [(4, .int 0), (3, .int 0), (0, .ref th), (1, .int a0), (2, .int a1)]) hx hb dX12_join_65 hl (by decide) rfl (fun ls hl => ?_)
            obtain ⟨q22, g_q22, hs⟩ := bd hs
            refine w_X12_join_L67 F N 0 0 _ _ _ q22 g_q22 (lv_sub hl [2, 3, 1, 0] rfl) M (fun t_ ls H locs eq_ hl M => ?_) (fun v eq_ => eq_.elim)
            subst eq_
            refine lv_iload_n hx hb dX12_join_103 rfl (lv_at hl 0 rfl) ?_
            obtain rfl := Option.some.inj hs
            exact re_i F M dX12_join_104
          · rw [if_neg c13] at hs
            refine lv_bipush (v := (-3)) hx hb dX12_join_50 (by decide) ?_
            obtain rfl := Option.some.inj hs
            exact re_i F M dX12_join_52
        · rw [if_pos c10] at hs
          refine lv_bipush (v := (-2)) hx hb dX12_join_38 (by decide) ?_
          obtain rfl := Option.some.inj hs
          exact re_i F M dX12_join_40
      · rw [if_neg c7] at hs
        refine lv_iconst (v := (-1)) hx hb dX12_join_26 (by decide) ?_
        obtain rfl := Option.some.inj hs
        exact re_i F M dX12_join_27
abbrev rm_X12_next : Room := { frames := 0, cells := 0, slots := 0, locals := 0 }
theorem mf_X12_next : MV 12 yX12_next cX12_next 1 none 0 RX12 := ⟨t_1279, t_1278, tS_82, t_12, ⟨by decide +kernel, by decide +kernel, by decide +kernel⟩, rfl, by decide⟩
def s_X12_next_L0 (N : Nat) : Nat → Nat → IH → Option (IH)
  | 0, _, _ => none
  | n + 1, th, h => (gI h 12 40 (some th)).bind fun v1 => (gI h 12 41 (some th)).bind fun v2 => if v2 ≤ v1 then some h else (gR h 12 28 (some th)).bind fun v4 => (gI h 12 40 (some th)).bind fun v5 => (aI h v4 v5).bind fun v6 => if v6 = 32 then (gI h 12 40 (some th)).bind fun v8 => (pI h 12 40 (some th) (v8 + 1)).bind fun h9 => s_X12_next_L0 N n th h9 else some h
def s_X12_next_L46 (N : Nat) : Nat → Nat → IH → Option (IH)
  | 0, _, _ => none
  | n + 1, th, h => (gI h 12 40 (some th)).bind fun v13 => (gI h 12 41 (some th)).bind fun v14 => if v14 ≤ v13 then some h else (gR h 12 28 (some th)).bind fun v16 => (gI h 12 40 (some th)).bind fun v17 => (aI h v16 v17).bind fun v18 => if v18 = 32 then some h else (gI h 12 40 (some th)).bind fun v20 => (pI h 12 40 (some th) (v20 + 1)).bind fun h21 => s_X12_next_L46 N n th h21
def s_X12_next (N : Nat) (h : IH) (th : Nat) : Option (IH) := (s_X12_next_L0 N N th h).bind fun q10 => (gI q10 12 40 (some th)).bind fun v11 => (pI q10 12 42 (some th) v11).bind fun h12 => (s_X12_next_L46 N N th h12).bind fun q22 => (gI q22 12 40 (some th)).bind fun v23 => (gI q22 12 42 (some th)).bind fun v24 => (pI q22 12 43 (some th) (v23 - v24)).bind fun h25 => some h25
set_option maxHeartbeats 4000000 in
set_option maxRecDepth 100000 in
theorem w_X12_next_L0 {p : Program} {l : Launch} {e : Env} {s : State} {m : MethodId} {args : Array Value} {below : List Frame} {meth : Method} {c : Code} {D : va_G} {cy : Nat → ClassId} {A : Nat → Prop} {H0 : Heap} {N th : Nat} {qF : IH} (F : Fx p s m args meth c D cy A H0 yX12_next cX12_next 1 none) : ∀ (n : Nat) (h : IH) (ls : Array Slot) (H : Heap) (locs : List Loc) (q : IH), s_X12_next_L0 N n th h = some q → lv_has ls 1 [(0, .ref th)] → Mo D cy A H0 h H locs → (∀ (t : IH) (ls : Array Slot) (H : Heap) (locs : List Loc), q = t → lv_has ls 1 [(0, .ref th)] → Mo D cy A H0 t H locs → W p l e rm_X12_next s m args below meth c H locs 0 0 (MQ below (QR D cy qF A none) args s 0 0 A) (F0 m 38 ls [])) → (∀ v : IH, False → v = qF) → W p l e rm_X12_next s m args below meth c H locs 0 0 (MQ below (QR D cy qF A none) args s 0 0 A) (F0 m 0 ls []) := by
  intro n
  induction n with
  | zero => intro h ls H locs q hs; rw [s_X12_next_L0.eq_1] at hs; cases hs
  | succ n ih =>
    intro h ls H locs q hs hl M kx kr
    obtain ⟨hx, hb, hr, hml, hown, hlk, hts, hK, hN, hA, hH⟩ := id F
    rw [s_X12_next_L0.eq_2] at hs
    refine lv_aload_n hx hb dX12_next_0 rfl (lv_at hl 0 rfl) ?_
    obtain ⟨v1, g_v1, hs⟩ := bd hs
    refine ro_gI F M fg_12_40 t_1046 g_v1 dX12_next_1 ?_
    refine lv_aload_n hx hb dX12_next_4 rfl (lv_at hl 0 rfl) ?_
    obtain ⟨v2, g_v2, hs⟩ := bd hs
    refine ro_gI F M fg_12_41 t_1047 g_v2 dX12_next_5 ?_
    refine lv_icmp_ge (tgt := 38) hx hb dX12_next_8 (by decide) (fun c3 => ?_) (fun c3 => ?_)
    · rw [if_pos c3] at hs
      exact kx h _ _ _ (Option.some.inj hs).symm (lv_sub hl [0] rfl) M
    · rw [if_neg c3] at hs
      refine lv_aload_n hx hb dX12_next_11 rfl (lv_at hl 0 rfl) ?_
      obtain ⟨v4, g_v4, hs⟩ := bd hs
      refine ro_gR F M fg_12_28 t_1034 g_v4 dX12_next_12 ?_
      refine lv_aload_n hx hb dX12_next_15 rfl (lv_at hl 0 rfl) ?_
      obtain ⟨v5, g_v5, hs⟩ := bd hs
      refine ro_gI F M fg_12_40 t_1046 g_v5 dX12_next_16 ?_
      obtain ⟨v6, g_v6, hs⟩ := bd hs
      refine ro_aI F M g_v6 dX12_next_19 ?_
      refine lv_bipush (v := 32) hx hb dX12_next_20 (by decide) ?_
      refine lv_icmp_ne (tgt := 38) hx hb dX12_next_22 (by decide) (fun c7 => ?_) (fun c7 => ?_)
      · rw [if_neg c7] at hs
        exact kx h _ _ _ (Option.some.inj hs).symm (lv_sub hl [0] rfl) M
      · rw [if_pos c7] at hs
        refine lv_aload_n hx hb dX12_next_25 rfl (lv_at hl 0 rfl) ?_
        refine lv_dup hx hb dX12_next_26 rfl ?_
        obtain ⟨v8, g_v8, hs⟩ := bd hs
        refine ro_gI F M fg_12_40 t_1046 g_v8 dX12_next_27 ?_
        refine lv_iconst (v := 1) hx hb dX12_next_30 (by decide) ?_
        refine lv_iadd hx hb dX12_next_31 ?_
        obtain ⟨h9, g_h9, hs⟩ := bd hs
        refine ro_pI F M fg_12_40 fp_12_40 rfl t_1046 g_h9 dX12_next_32 (fun H locs M => ?_)
        refine lv_goto (tgt := 0) hx hb dX12_next_35 (by decide) ?_
        exact ih h9 _ _ _ _ hs (lv_sub hl [0] rfl) M kx kr
set_option maxHeartbeats 4000000 in
set_option maxRecDepth 100000 in
theorem w_X12_next_L46 {p : Program} {l : Launch} {e : Env} {s : State} {m : MethodId} {args : Array Value} {below : List Frame} {meth : Method} {c : Code} {D : va_G} {cy : Nat → ClassId} {A : Nat → Prop} {H0 : Heap} {N th : Nat} {qF : IH} (F : Fx p s m args meth c D cy A H0 yX12_next cX12_next 1 none) : ∀ (n : Nat) (h : IH) (ls : Array Slot) (H : Heap) (locs : List Loc) (q : IH), s_X12_next_L46 N n th h = some q → lv_has ls 1 [(0, .ref th)] → Mo D cy A H0 h H locs → (∀ (t : IH) (ls : Array Slot) (H : Heap) (locs : List Loc), q = t → lv_has ls 1 [(0, .ref th)] → Mo D cy A H0 t H locs → W p l e rm_X12_next s m args below meth c H locs 0 0 (MQ below (QR D cy qF A none) args s 0 0 A) (F0 m 84 ls [])) → (∀ v : IH, False → v = qF) → W p l e rm_X12_next s m args below meth c H locs 0 0 (MQ below (QR D cy qF A none) args s 0 0 A) (F0 m 46 ls []) := by
  intro n
  induction n with
  | zero => intro h ls H locs q hs; rw [s_X12_next_L46.eq_1] at hs; cases hs
  | succ n ih =>
    intro h ls H locs q hs hl M kx kr
    obtain ⟨hx, hb, hr, hml, hown, hlk, hts, hK, hN, hA, hH⟩ := id F
    rw [s_X12_next_L46.eq_2] at hs
    refine lv_aload_n hx hb dX12_next_46 rfl (lv_at hl 0 rfl) ?_
    obtain ⟨v13, g_v13, hs⟩ := bd hs
    refine ro_gI F M fg_12_40 t_1046 g_v13 dX12_next_47 ?_
    refine lv_aload_n hx hb dX12_next_50 rfl (lv_at hl 0 rfl) ?_
    obtain ⟨v14, g_v14, hs⟩ := bd hs
    refine ro_gI F M fg_12_41 t_1047 g_v14 dX12_next_51 ?_
    refine lv_icmp_ge (tgt := 84) hx hb dX12_next_54 (by decide) (fun c15 => ?_) (fun c15 => ?_)
    · rw [if_pos c15] at hs
      exact kx h _ _ _ (Option.some.inj hs).symm (lv_sub hl [0] rfl) M
    · rw [if_neg c15] at hs
      refine lv_aload_n hx hb dX12_next_57 rfl (lv_at hl 0 rfl) ?_
      obtain ⟨v16, g_v16, hs⟩ := bd hs
      refine ro_gR F M fg_12_28 t_1034 g_v16 dX12_next_58 ?_
      refine lv_aload_n hx hb dX12_next_61 rfl (lv_at hl 0 rfl) ?_
      obtain ⟨v17, g_v17, hs⟩ := bd hs
      refine ro_gI F M fg_12_40 t_1046 g_v17 dX12_next_62 ?_
      obtain ⟨v18, g_v18, hs⟩ := bd hs
      refine ro_aI F M g_v18 dX12_next_65 ?_
      refine lv_bipush (v := 32) hx hb dX12_next_66 (by decide) ?_
      refine lv_icmp_eq (tgt := 84) hx hb dX12_next_68 (by decide) (fun c19 => ?_) (fun c19 => ?_)
      · rw [if_pos c19] at hs
        exact kx h _ _ _ (Option.some.inj hs).symm (lv_sub hl [0] rfl) M
      · rw [if_neg c19] at hs
        refine lv_aload_n hx hb dX12_next_71 rfl (lv_at hl 0 rfl) ?_
        refine lv_dup hx hb dX12_next_72 rfl ?_
        obtain ⟨v20, g_v20, hs⟩ := bd hs
        refine ro_gI F M fg_12_40 t_1046 g_v20 dX12_next_73 ?_
        refine lv_iconst (v := 1) hx hb dX12_next_76 (by decide) ?_
        refine lv_iadd hx hb dX12_next_77 ?_
        obtain ⟨h21, g_h21, hs⟩ := bd hs
        refine ro_pI F M fg_12_40 fp_12_40 rfl t_1046 g_h21 dX12_next_78 (fun H locs M => ?_)
        refine lv_goto (tgt := 46) hx hb dX12_next_81 (by decide) ?_
        exact ih h21 _ _ _ _ hs (lv_sub hl [0] rfl) M kx kr
set_option maxHeartbeats 4000000 in
set_option maxRecDepth 100000 in
theorem c_X12_next {l : Launch} {D : va_G} {cy : Nat → ClassId} {sz N : Nat} {h : IH} {th : Nat} {qF : IH} (hs : s_X12_next N h th = some qF) : Ct l D cy yX12_next cX12_next 1 none rm_X12_next h sz [.ref th] qF none := by
  refine ct_start (by decide +kernel) [(0, .ref th)] (Nat.le_of_ble_eq_true rfl) rfl ?_
  intro p e s m args below meth c A H0 ls F hin hsz M hl
  obtain ⟨hx, hb, hr, hml, hown, hlk, hts, hK, hN, hA, hH⟩ := id F
  generalize s.heap = H at M ⊢
  generalize ([] : List Loc) = locs at M ⊢
  unfold s_X12_next at hs
  obtain ⟨q10, g_q10, hs⟩ := bd hs
  refine w_X12_next_L0 F N h _ _ _ q10 g_q10 (lv_sub hl [0] rfl) M (fun t_ ls H locs eq_ hl M => ?_) (fun v eq_ => eq_.elim)
  subst eq_
  refine lv_aload_n hx hb dX12_next_38 rfl (lv_at hl 0 rfl) ?_
  refine lv_aload_n hx hb dX12_next_39 rfl (lv_at hl 0 rfl) ?_
  obtain ⟨v11, g_v11, hs⟩ := bd hs
  refine ro_gI F M fg_12_40 t_1046 g_v11 dX12_next_40 ?_
  obtain ⟨h12, g_h12, hs⟩ := bd hs
  refine ro_pI F M fg_12_42 fp_12_42 rfl t_1048 g_h12 dX12_next_43 (fun H locs M => ?_)
  obtain ⟨q22, g_q22, hs⟩ := bd hs
  refine w_X12_next_L46 F N h12 _ _ _ q22 g_q22 (lv_sub hl [0] rfl) M (fun t_ ls H locs eq_ hl M => ?_) (fun v eq_ => eq_.elim)
  subst eq_
  refine lv_aload_n hx hb dX12_next_84 rfl (lv_at hl 0 rfl) ?_
  refine lv_aload_n hx hb dX12_next_85 rfl (lv_at hl 0 rfl) ?_
  obtain ⟨v23, g_v23, hs⟩ := bd hs
  refine ro_gI F M fg_12_40 t_1046 g_v23 dX12_next_86 ?_
  refine lv_aload_n hx hb dX12_next_89 rfl (lv_at hl 0 rfl) ?_
  obtain ⟨v24, g_v24, hs⟩ := bd hs
  refine ro_gI F M fg_12_42 t_1048 g_v24 dX12_next_90 ?_
  refine lv_isub hx hb dX12_next_93 ?_
  obtain ⟨h25, g_h25, hs⟩ := bd hs
  refine ro_pI F M fg_12_43 fp_12_43 rfl t_1049 g_h25 dX12_next_94 (fun H locs M => ?_)
  obtain rfl := Option.some.inj hs
  exact re_v F M dX12_next_97
abbrev rm_X12_isByte : Room := { frames := 0, cells := 0, slots := 0, locals := 0 }
theorem mf_X12_isByte : MV 12 yX12_isByte cX12_isByte 2 (some .boolean) 1 RX12 := ⟨t_1283, t_1282, tS_83, t_12, ⟨by decide +kernel, by decide +kernel, by decide +kernel⟩, rfl, by decide⟩
def s_X12_isByte (h : IH) (th : Nat) (a0 : Int32) : Option (Int32) := (gI h 12 43 (some th)).bind fun v1 => ((if v1 = 1 then (gR h 12 28 (some th)).bind fun v3 => (gI h 12 42 (some th)).bind fun v4 => (aI h v3 v4).bind fun v5 => if v5 = a0 then some 1 else some 0 else some 0) : Option (Int32)).bind fun q7 => if q7 = 0 ∨ q7 = 1 then some q7 else none
set_option maxHeartbeats 4000000 in
set_option maxRecDepth 100000 in
theorem c_X12_isByte {l : Launch} {D : va_G} {cy : Nat → ClassId} {sz : Nat} {h : IH} {th : Nat} {a0 : Int32} {qF : Int32} (hs : s_X12_isByte h th a0 = some qF) : Ct l D cy yX12_isByte cX12_isByte 2 (some .boolean) rm_X12_isByte h sz [.ref th, .int a0] h (some (.int qF)) := by
  refine ct_start (by decide +kernel) [(0, .ref th), (1, .int a0)] (Nat.le_of_ble_eq_true rfl) rfl ?_
  intro p e s m args below meth c A H0 ls F hin hsz M hl
  obtain ⟨hx, hb, hr, hml, hown, hlk, hts, hK, hN, hA, hH⟩ := id F
  generalize s.heap = H at M ⊢
  generalize ([] : List Loc) = locs at M ⊢
  unfold s_X12_isByte at hs
  refine lv_aload_n hx hb dX12_isByte_0 rfl (lv_at hl 0 rfl) ?_
  obtain ⟨v1, g_v1, hs⟩ := bd hs
  refine ro_gI F M fg_12_43 t_1049 g_v1 dX12_isByte_1 ?_
  refine lv_iconst (v := 1) hx hb dX12_isByte_4 (by decide) ?_
  obtain ⟨q7, hsq7, hs⟩ := bd hs
  have KJ26 : ∀ (ls : Array Slot) (H : Heap) (locs : List Loc), lv_has ls 2 [] → Mo D cy A H0 h H locs → W p l e rm_X12_isByte s m args below meth c H locs 0 0 (MQ below (QR D cy h A (some (.int qF))) args s 0 0 A) (F0 m 26 ls [.int q7]) := by
    intro ls H locs hl M
    by_cases zg : q7 = 0 ∨ q7 = 1
    · rw [if_pos zg] at hs
      obtain rfl := Option.some.inj hs
      exact re_z F M zg dX12_isByte_26
    · rw [if_neg zg] at hs; cases hs
  clear hs
  have hs := hsq7
  refine lv_icmp_ne (tgt := 25) hx hb dX12_isByte_5 (by decide) (fun c2 => ?_) (fun c2 => ?_)
  · rw [if_neg c2] at hs
    refine lv_iconst (v := 0) hx hb dX12_isByte_25 (by decide) ?_
    obtain rfl := Option.some.inj hs
    exact KJ26 _ _ _ (lv_sub hl [] rfl) M
  · rw [if_pos c2] at hs
    refine lv_aload_n hx hb dX12_isByte_8 rfl (lv_at hl 0 rfl) ?_
    obtain ⟨v3, g_v3, hs⟩ := bd hs
    refine ro_gR F M fg_12_28 t_1034 g_v3 dX12_isByte_9 ?_
    refine lv_aload_n hx hb dX12_isByte_12 rfl (lv_at hl 0 rfl) ?_
    obtain ⟨v4, g_v4, hs⟩ := bd hs
    refine ro_gI F M fg_12_42 t_1048 g_v4 dX12_isByte_13 ?_
    obtain ⟨v5, g_v5, hs⟩ := bd hs
    refine ro_aI F M g_v5 dX12_isByte_16 ?_
    refine lv_iload_n hx hb dX12_isByte_17 rfl (lv_at hl 1 rfl) ?_
    refine lv_icmp_ne (tgt := 25) hx hb dX12_isByte_18 (by decide) (fun c6 => ?_) (fun c6 => ?_)
    · rw [if_neg c6] at hs
      refine lv_iconst (v := 0) hx hb dX12_isByte_25 (by decide) ?_
      obtain rfl := Option.some.inj hs
      exact KJ26 _ _ _ (lv_sub hl [] rfl) M
    · rw [if_pos c6] at hs
      refine lv_iconst (v := 1) hx hb dX12_isByte_21 (by decide) ?_
      refine lv_goto (tgt := 26) hx hb dX12_isByte_22 (by decide) ?_
      obtain rfl := Option.some.inj hs
      exact KJ26 _ _ _ (lv_sub hl [] rfl) M
abbrev rm_X12_isNumber : Room := { frames := 1, cells := 0, slots := 0, locals := 25 }
theorem mf_X12_isNumber : MV 12 yX12_isNumber cX12_isNumber 4 (some .boolean) 1 RX12 := ⟨t_1291, t_1290, tS_85, t_12, ⟨by decide +kernel, by decide +kernel, by decide +kernel⟩, rfl, by decide⟩
def s_X12_isNumber_L14 (N : Nat) : Nat → Nat → Int32 → Int32 → IH → Option (Int32)
  | 0, _, _, _, _ => none
  | n + 1, th, x2, x3, h => (gI h 12 43 (some th)).bind fun v3 => if v3 ≤ x3 then some x2 else if x2 = 0 then some x2 else (gR h 12 28 (some th)).bind fun v6 => (gI h 12 42 (some th)).bind fun v7 => (aI h v6 (v7 + x3)).bind fun v8 => (s_X12_isIn h v8.toInt64 48 57).bind fun v9 => s_X12_isNumber_L14 N n th v9 (x3 + 1) h
def s_X12_isNumber (N : Nat) (h : IH) (th : Nat) (a0 : Int32) : Option (Int32) := (gI h 12 43 (some th)).bind fun v1 => (s_X12_isIn h v1.toInt64 1 a0.toInt64).bind fun v2 => (s_X12_isNumber_L14 N N th v2 0 h).bind fun q10 => if q10 = 0 ∨ q10 = 1 then some q10 else none
set_option maxHeartbeats 4000000 in
set_option maxRecDepth 100000 in
theorem w_X12_isNumber_L14 {p : Program} {l : Launch} {e : Env} {s : State} {m : MethodId} {args : Array Value} {below : List Frame} {meth : Method} {c : Code} {D : va_G} {cy : Nat → ClassId} {A : Nat → Prop} {H0 : Heap} {N th : Nat} {h : IH} {qF : Int32} (F : Fx p s m args meth c D cy A H0 yX12_isNumber cX12_isNumber 4 (some .boolean)) : ∀ (n : Nat) (x2 : Int32) (x3 : Int32) (ls : Array Slot) (H : Heap) (locs : List Loc) (q : Int32), s_X12_isNumber_L14 N n th x2 x3 h = some q → lv_has ls 4 [(0, .ref th), (2, .int x2), (3, .int x3)] → Mo D cy A H0 h H locs → (∀ (t : Int32) (ls : Array Slot) (H : Heap) (locs : List Loc), q = t → lv_has ls 4 [(2, .int t)] → Mo D cy A H0 h H locs → W p l e rm_X12_isNumber s m args below meth c H locs 0 0 (MQ below (QR D cy h A (some (.int qF))) args s 0 0 A) (F0 m 54 ls [])) → (∀ v : Int32, False → v = qF) → W p l e rm_X12_isNumber s m args below meth c H locs 0 0 (MQ below (QR D cy h A (some (.int qF))) args s 0 0 A) (F0 m 14 ls []) := by
  intro n
  induction n with
  | zero => intro x2 x3 ls H locs q hs; rw [s_X12_isNumber_L14.eq_1] at hs; cases hs
  | succ n ih =>
    intro x2 x3 ls H locs q hs hl M kx kr
    obtain ⟨hx, hb, hr, hml, hown, hlk, hts, hK, hN, hA, hH⟩ := id F
    rw [s_X12_isNumber_L14.eq_2] at hs
    refine lv_iload_n hx hb dX12_isNumber_14 rfl (lv_at hl 2 rfl) ?_
    refine lv_aload_n hx hb dX12_isNumber_15 rfl (lv_at hl 0 rfl) ?_
    obtain ⟨v3, g_v3, hs⟩ := bd hs
    refine ro_gI F M fg_12_43 t_1049 g_v3 dX12_isNumber_16 ?_
    refine lv_icmp_ge (tgt := 54) hx hb dX12_isNumber_19 (by decide) (fun c4 => ?_) (fun c4 => ?_)
    · rw [if_pos c4] at hs
      exact kx x2 _ _ _ (Option.some.inj hs).symm (lv_sub hl [1] rfl) M
    · rw [if_neg c4] at hs
      refine lv_iload_n hx hb dX12_isNumber_22 rfl (lv_at hl 1 rfl) ?_
      refine lv_if_eq (tgt := 54) hx hb dX12_isNumber_23 (by decide) (fun c5 => ?_) (fun c5 => ?_)
      · rw [if_pos c5] at hs
        exact kx x2 _ _ _ (Option.some.inj hs).symm (lv_sub hl [1] rfl) M
      · rw [if_neg c5] at hs
        refine lv_aload_n hx hb dX12_isNumber_26 rfl (lv_at hl 0 rfl) ?_
        obtain ⟨v6, g_v6, hs⟩ := bd hs
        refine ro_gR F M fg_12_28 t_1034 g_v6 dX12_isNumber_27 ?_
        refine lv_aload_n hx hb dX12_isNumber_30 rfl (lv_at hl 0 rfl) ?_
        obtain ⟨v7, g_v7, hs⟩ := bd hs
        refine ro_gI F M fg_12_42 t_1048 g_v7 dX12_isNumber_31 ?_
        refine lv_iload_n hx hb dX12_isNumber_34 rfl (lv_at hl 2 rfl) ?_
        refine lv_iadd hx hb dX12_isNumber_35 ?_
        obtain ⟨v8, g_v8, hs⟩ := bd hs
        refine ro_aI F M g_v8 dX12_isNumber_36 ?_
        refine lv_i2l hx hb dX12_isNumber_37 rfl ?_
        refine lv_ldc2 (v := 48) hx hb hown (hts _ (List.mem_cons_of_mem _ t_1243)) dX12_isNumber_38 ?_
        refine lv_ldc2 (v := 57) hx hb hown (hts _ (List.mem_cons_of_mem _ t_1244)) dX12_isNumber_41 ?_
        obtain ⟨v9, g_v9, hs⟩ := bd hs
        refine ca_Si (As := [.long v8.toInt64, .long 48, .long 57]) (rest := []) F M (c_X12_isIn g_v9) mf_X12_isIn t_1225 rfl ⟨by decide, by decide⟩ ⟨rfl, rfl⟩ ⟨Nat.zero_le _, Nat.zero_le _⟩ hl.1 rfl (by decide) dX12_isNumber_44 (fun H locs M => ?_)
        refine lv_istore_n (i := 2) (lv' := [(2, .int v9), (0, .ref th), (3, .int x3)]) hx hb dX12_isNumber_47 rfl hl (by decide) rfl (fun ls hl => ?_)
        refine lv_iinc (v := x3 + 1) (lv' := [(3, .int (x3 + 1)), (2, .int v9), (0, .ref th)]) hx hb dX12_isNumber_48 hl (k := 2) rfl rfl (by decide) rfl (fun ls hl => ?_)
        refine lv_goto (tgt := 14) hx hb dX12_isNumber_51 (by decide) ?_
        exact ih v9 (x3 + 1) _ _ _ _ hs (lv_sub hl [2, 1, 0] rfl) M kx kr
set_option maxHeartbeats 4000000 in
set_option maxRecDepth 100000 in
theorem c_X12_isNumber {l : Launch} {D : va_G} {cy : Nat → ClassId} {sz N : Nat} {h : IH} {th : Nat} {a0 : Int32} {qF : Int32} (hs : s_X12_isNumber N h th a0 = some qF) : Ct l D cy yX12_isNumber cX12_isNumber 4 (some .boolean) rm_X12_isNumber h sz [.ref th, .int a0] h (some (.int qF)) := by
  refine ct_start (by decide +kernel) [(0, .ref th), (1, .int a0)] (Nat.le_of_ble_eq_true rfl) rfl ?_
  intro p e s m args below meth c A H0 ls F hin hsz M hl
  obtain ⟨hx, hb, hr, hml, hown, hlk, hts, hK, hN, hA, hH⟩ := id F
  generalize s.heap = H at M ⊢
  generalize ([] : List Loc) = locs at M ⊢
  unfold s_X12_isNumber at hs
  refine lv_aload_n hx hb dX12_isNumber_0 rfl (lv_at hl 0 rfl) ?_
  obtain ⟨v1, g_v1, hs⟩ := bd hs
  refine ro_gI F M fg_12_43 t_1049 g_v1 dX12_isNumber_1 ?_
  refine lv_i2l hx hb dX12_isNumber_4 rfl ?_
  refine lv_lconst (v := 1) hx hb dX12_isNumber_5 (by decide) ?_
  refine lv_iload_n hx hb dX12_isNumber_6 rfl (lv_at hl 1 rfl) ?_
  refine lv_i2l hx hb dX12_isNumber_7 rfl ?_
  obtain ⟨v2, g_v2, hs⟩ := bd hs
  refine ca_Si (As := [.long v1.toInt64, .long 1, .long a0.toInt64]) (rest := []) F M (c_X12_isIn g_v2) mf_X12_isIn t_1225 rfl ⟨by decide, by decide⟩ ⟨rfl, rfl⟩ ⟨Nat.zero_le _, Nat.zero_le _⟩ hl.1 rfl (by decide) dX12_isNumber_8 (fun H locs M => ?_)
  refine lv_istore_n (i := 2) (lv' := [(2, .int v2), (0, .ref th), (1, .int a0)]) hx hb dX12_isNumber_11 rfl hl (by decide) rfl (fun ls hl => ?_)
  refine lv_iconst (v := 0) hx hb dX12_isNumber_12 (by decide) ?_
  refine lv_istore_n (i := 3) (lv' := [(3, .int 0), (2, .int v2), (0, .ref th), (1, .int a0)]) hx hb dX12_isNumber_13 rfl hl (by decide) rfl (fun ls hl => ?_)
  obtain ⟨q10, g_q10, hs⟩ := bd hs
  refine w_X12_isNumber_L14 F N v2 0 _ _ _ q10 g_q10 (lv_sub hl [2, 1, 0] rfl) M (fun t_ ls H locs eq_ hl M => ?_) (fun v eq_ => eq_.elim)
  subst eq_
  refine lv_iload_n hx hb dX12_isNumber_54 rfl (lv_at hl 0 rfl) ?_
  by_cases zg : q10 = 0 ∨ q10 = 1
  · rw [if_pos zg] at hs
    obtain rfl := Option.some.inj hs
    exact re_z F M zg dX12_isNumber_55
  · rw [if_neg zg] at hs; cases hs
