abbrev rm_X12_isNear : Room := { frames := 0, cells := 0, slots := 0, locals := 0 }
theorem mf_X12_isNear : MV 12 yX12_isNear cX12_isNear 5 (some .boolean) 2 RX12 := ⟨t_1466, t_1465, tS_112, t_12, ⟨by decide +kernel, by decide +kernel, by decide +kernel⟩, rfl, by decide⟩
def s_X12_isNear_L22 (N : Nat) : Nat → Nat → Int32 → Int32 → Int32 → Int32 → IH → Option (Int32)
  | 0, _, _, _, _, _, _ => none
  | n + 1, th, x1, x2, x3, x4, h => (gR h 12 13 (some th)).bind fun v6 => (aI h v6 x1).bind fun v7 => if v7 ≤ x4 then some x3 else (gR h 12 14 (some th)).bind fun v9 => (aI h v9 ((6 * x1) + x4)).bind fun v10 => (gR h 12 7 (some th)).bind fun v11 => (aI h v11 ((6 * x2) + x4)).bind fun v12 => ((if v10 = v12 then some 0 else some 1) : Option (Int32)).bind fun q14 => s_X12_isNear_L22 N n th x1 x2 (x3 + q14) (x4 + 1) h
def s_X12_isNear (N : Nat) (h : IH) (th : Nat) (a0 : Int32) (a1 : Int32) : Option (Int32) := (gR h 12 13 (some th)).bind fun v1 => (aI h v1 a0).bind fun v2 => (gR h 12 6 (some th)).bind fun v3 => (aI h v3 a1).bind fun v4 => if v2 = v4 then (s_X12_isNear_L22 N N th a0 a1 0 0 h).bind fun q15 => ((if q15 = 1 then some 1 else some 0) : Option (Int32)).bind fun q17 => if q17 = 0 ∨ q17 = 1 then some q17 else none else some 0
set_option maxHeartbeats 4000000 in
set_option maxRecDepth 100000 in
theorem w_X12_isNear_L22 {p : Program} {l : Launch} {e : Env} {s : State} {m : MethodId} {args : Array Value} {below : List Frame} {meth : Method} {c : Code} {D : va_G} {cy : Nat → ClassId} {A : Nat → Prop} {H0 : Heap} {N th : Nat} {x1 : Int32} {x2 : Int32} {h : IH} {qF : Int32} (F : Fx p s m args meth c D cy A H0 yX12_isNear cX12_isNear 5 (some .boolean)) : ∀ (n : Nat) (x3 : Int32) (x4 : Int32) (ls : Array Slot) (H : Heap) (locs : List Loc) (q : Int32), s_X12_isNear_L22 N n th x1 x2 x3 x4 h = some q → lv_has ls 5 [(0, .ref th), (1, .int x1), (2, .int x2), (3, .int x3), (4, .int x4)] → Mo D cy A H0 h H locs → (∀ (t : Int32) (ls : Array Slot) (H : Heap) (locs : List Loc), q = t → lv_has ls 5 [(3, .int t)] → Mo D cy A H0 h H locs → W p l e rm_X12_isNear s m args below meth c H locs 0 0 (MQ below (QR D cy h A (some (.int qF))) args s 0 0 A) (F0 m 74 ls [])) → (∀ v : Int32, False → v = qF) → W p l e rm_X12_isNear s m args below meth c H locs 0 0 (MQ below (QR D cy h A (some (.int qF))) args s 0 0 A) (F0 m 22 ls []) := by
  intro n
  induction n with
  | zero => intro x3 x4 ls H locs q hs; rw [s_X12_isNear_L22.eq_1] at hs; cases hs
  | succ n ih =>
    intro x3 x4 ls H locs q hs hl M kx kr
    obtain ⟨hx, hb, hr, hml, hown, hlk, hts, hK, hN, hA, hH⟩ := id F
    rw [s_X12_isNear_L22.eq_2] at hs
    refine lv_iload hx hb dX12_isNear_22 (lv_at hl 4 rfl) ?_
    refine lv_aload_n hx hb dX12_isNear_24 rfl (lv_at hl 0 rfl) ?_
    obtain ⟨v6, g_v6, hs⟩ := bd hs
    refine ro_gR F M fg_12_13 t_1019 g_v6 dX12_isNear_25 ?_
    refine lv_iload_n hx hb dX12_isNear_28 rfl (lv_at hl 1 rfl) ?_
    obtain ⟨v7, g_v7, hs⟩ := bd hs
    refine ro_aI F M g_v7 dX12_isNear_29 ?_
    refine lv_icmp_ge (tgt := 74) hx hb dX12_isNear_30 (by decide) (fun c8 => ?_) (fun c8 => ?_)
    · rw [if_pos c8] at hs
      exact kx x3 _ _ _ (Option.some.inj hs).symm (lv_sub hl [3] rfl) M
    · rw [if_neg c8] at hs
      refine lv_iload_n hx hb dX12_isNear_33 rfl (lv_at hl 3 rfl) ?_
      refine lv_aload_n hx hb dX12_isNear_34 rfl (lv_at hl 0 rfl) ?_
      obtain ⟨v9, g_v9, hs⟩ := bd hs
      refine ro_gR F M fg_12_14 t_1020 g_v9 dX12_isNear_35 ?_
      refine lv_bipush (v := 6) hx hb dX12_isNear_38 (by decide) ?_
      refine lv_iload_n hx hb dX12_isNear_40 rfl (lv_at hl 1 rfl) ?_
      refine lv_imul hx hb dX12_isNear_41 ?_
      refine lv_iload hx hb dX12_isNear_42 (lv_at hl 4 rfl) ?_
      refine lv_iadd hx hb dX12_isNear_44 ?_
      obtain ⟨v10, g_v10, hs⟩ := bd hs
      refine ro_aI F M g_v10 dX12_isNear_45 ?_
      refine lv_aload_n hx hb dX12_isNear_46 rfl (lv_at hl 0 rfl) ?_
      obtain ⟨v11, g_v11, hs⟩ := bd hs
      refine ro_gR F M fg_12_7 t_1013 g_v11 dX12_isNear_47 ?_
      refine lv_bipush (v := 6) hx hb dX12_isNear_50 (by decide) ?_
      refine lv_iload_n hx hb dX12_isNear_52 rfl (lv_at hl 2 rfl) ?_
      refine lv_imul hx hb dX12_isNear_53 ?_
      refine lv_iload hx hb dX12_isNear_54 (lv_at hl 4 rfl) ?_
      refine lv_iadd hx hb dX12_isNear_56 ?_
      obtain ⟨v12, g_v12, hs⟩ := bd hs
      refine ro_aI F M g_v12 dX12_isNear_57 ?_
      obtain ⟨q14, hsq14, hs⟩ := bd hs
      have KJ66 : ∀ (ls : Array Slot) (H : Heap) (locs : List Loc), lv_has ls 5 [(0, .ref th), (1, .int x1), (2, .int x2), (4, .int x4)] → Mo D cy A H0 h H locs → W p l e rm_X12_isNear s m args below meth c H locs 0 0 (MQ below (QR D cy h A (some (.int qF))) args s 0 0 A) (F0 m 66 ls [.int q14, .int x3]) := by
        intro ls H locs hl M
        refine lv_iadd hx hb dX12_isNear_66 ?_
        refine lv_istore_n (i := 3) (lv' := [(3, .int (x3 + q14)), (0, .ref th), (1, .int x1), (2, .int x2), (4, .int x4)]) hx hb dX12_isNear_67 rfl hl (by decide) rfl (fun ls hl => ?_)
        refine lv_iinc (v := x4 + 1) (lv' := [(4, .int (x4 + 1)), (3, .int (x3 + q14)), (0, .ref th), (1, .int x1), (2, .int x2)]) hx hb dX12_isNear_68 hl (k := 4) rfl rfl (by decide) rfl (fun ls hl => ?_)
        refine lv_goto (tgt := 22) hx hb dX12_isNear_71 (by decide) ?_
        exact ih (x3 + q14) (x4 + 1) _ _ _ _ hs (lv_sub hl [2, 3, 4, 1, 0] rfl) M kx kr
      clear hs
      have hs := hsq14
      refine lv_icmp_ne (tgt := 65) hx hb dX12_isNear_58 (by decide) (fun c13 => ?_) (fun c13 => ?_)
      · rw [if_neg c13] at hs
        refine lv_iconst (v := 1) hx hb dX12_isNear_65 (by decide) ?_
        obtain rfl := Option.some.inj hs
        exact KJ66 _ _ _ (lv_sub hl [0, 1, 2, 4] rfl) M
      · rw [if_pos c13] at hs
        refine lv_iconst (v := 0) hx hb dX12_isNear_61 (by decide) ?_
        refine lv_goto (tgt := 66) hx hb dX12_isNear_62 (by decide) ?_
        obtain rfl := Option.some.inj hs
        exact KJ66 _ _ _ (lv_sub hl [0, 1, 2, 4] rfl) M
set_option maxHeartbeats 4000000 in
set_option maxRecDepth 100000 in
theorem c_X12_isNear {l : Launch} {D : va_G} {cy : Nat → ClassId} {sz N : Nat} {h : IH} {th : Nat} {a0 : Int32} {a1 : Int32} {qF : Int32} (hs : s_X12_isNear N h th a0 a1 = some qF) : Ct l D cy yX12_isNear cX12_isNear 5 (some .boolean) rm_X12_isNear h sz [.ref th, .int a0, .int a1] h (some (.int qF)) := by
  refine ct_start (by decide +kernel) [(0, .ref th), (1, .int a0), (2, .int a1)] (Nat.le_of_ble_eq_true rfl) rfl ?_
  intro p e s m args below meth c A H0 ls F hin hsz M hl
  obtain ⟨hx, hb, hr, hml, hown, hlk, hts, hK, hN, hA, hH⟩ := id F
  generalize s.heap = H at M ⊢
  generalize ([] : List Loc) = locs at M ⊢
  unfold s_X12_isNear at hs
  refine lv_aload_n hx hb dX12_isNear_0 rfl (lv_at hl 0 rfl) ?_
  obtain ⟨v1, g_v1, hs⟩ := bd hs
  refine ro_gR F M fg_12_13 t_1019 g_v1 dX12_isNear_1 ?_
  refine lv_iload_n hx hb dX12_isNear_4 rfl (lv_at hl 1 rfl) ?_
  obtain ⟨v2, g_v2, hs⟩ := bd hs
  refine ro_aI F M g_v2 dX12_isNear_5 ?_
  refine lv_aload_n hx hb dX12_isNear_6 rfl (lv_at hl 0 rfl) ?_
  obtain ⟨v3, g_v3, hs⟩ := bd hs
  refine ro_gR F M fg_12_6 t_1012 g_v3 dX12_isNear_7 ?_
  refine lv_iload_n hx hb dX12_isNear_10 rfl (lv_at hl 2 rfl) ?_
  obtain ⟨v4, g_v4, hs⟩ := bd hs
  refine ro_aI F M g_v4 dX12_isNear_11 ?_
  refine lv_icmp_eq (tgt := 17) hx hb dX12_isNear_12 (by decide) (fun c5 => ?_) (fun c5 => ?_)
  · rw [if_pos c5] at hs
    refine lv_iconst (v := 0) hx hb dX12_isNear_17 (by decide) ?_
    refine lv_istore_n (i := 3) (lv' := [(3, .int 0), (0, .ref th), (1, .int a0), (2, .int a1)]) hx hb dX12_isNear_18 rfl hl (by decide) rfl (fun ls hl => ?_)
    refine lv_iconst (v := 0) hx hb dX12_isNear_19 (by decide) ?_
    refine lv_istore (i := 4) (lv' := [(4, .int 0), (3, .int 0), (0, .ref th), (1, .int a0), (2, .int a1)]) hx hb dX12_isNear_20 hl (by decide) rfl (fun ls hl => ?_)
    obtain ⟨q15, g_q15, hs⟩ := bd hs
    refine w_X12_isNear_L22 F N 0 0 _ _ _ q15 g_q15 (lv_sub hl [2, 3, 4, 1, 0] rfl) M (fun t_ ls H locs eq_ hl M => ?_) (fun v eq_ => eq_.elim)
    subst eq_
    refine lv_iload_n hx hb dX12_isNear_74 rfl (lv_at hl 0 rfl) ?_
    refine lv_iconst (v := 1) hx hb dX12_isNear_75 (by decide) ?_
    obtain ⟨q17, hsq17, hs⟩ := bd hs
    have KJ84 : ∀ (ls : Array Slot) (H : Heap) (locs : List Loc), lv_has ls 5 [] → Mo D cy A H0 h H locs → W p l e rm_X12_isNear s m args below meth c H locs 0 0 (MQ below (QR D cy h A (some (.int qF))) args s 0 0 A) (F0 m 84 ls [.int q17]) := by
      intro ls H locs hl M
      by_cases zg : q17 = 0 ∨ q17 = 1
      · rw [if_pos zg] at hs
        obtain rfl := Option.some.inj hs
        exact re_z F M zg dX12_isNear_84
      · rw [if_neg zg] at hs; cases hs
    clear hs
    have hs := hsq17
    refine lv_icmp_ne (tgt := 83) hx hb dX12_isNear_76 (by decide) (fun c16 => ?_) (fun c16 => ?_)
    · rw [if_neg c16] at hs
      refine lv_iconst (v := 0) hx hb dX12_isNear_83 (by decide) ?_
      obtain rfl := Option.some.inj hs
      exact KJ84 _ _ _ (lv_sub hl [] rfl) M
    · rw [if_pos c16] at hs
      refine lv_iconst (v := 1) hx hb dX12_isNear_79 (by decide) ?_
      refine lv_goto (tgt := 84) hx hb dX12_isNear_80 (by decide) ?_
      obtain rfl := Option.some.inj hs
      exact KJ84 _ _ _ (lv_sub hl [] rfl) M
  · rw [if_neg c5] at hs
    refine lv_iconst (v := 0) hx hb dX12_isNear_15 (by decide) ?_
    obtain rfl := Option.some.inj hs
    exact re_z F M (Or.inl rfl) dX12_isNear_16
abbrev rm_X12_meantBy : Room := { frames := 2, cells := 0, slots := 0, locals := 43 }
theorem mf_X12_meantBy : MV 12 yX12_meantBy cX12_meantBy 11 (some .int) 1 RX12 := ⟨t_1462, t_1461, tS_111, t_12, ⟨by decide +kernel, by decide +kernel, by decide +kernel⟩, rfl, by decide⟩
def s_X12_meantBy_L62 (N : Nat) : Nat → Nat → Int32 → Int32 → Int32 → Int64 → Int32 → Int32 → Int32 → IH → Option (Int32 × Int64)
  | 0, _, _, _, _, _, _, _, _, _ => none
  | n + 1, th, x1, x2, x3, x4, x6, x7, x8, h => if (x7 + 16) ≤ x8 then some (x3, x4) else (cV h 12 (some th) fun a32 => s_X12_isContactAt h a32 x8).bind fun v7 => ((if v7 = 0 then some (x3, x4) else (gR h 12 19 (some th)).bind fun v9 => (aI h v9 x8).bind fun v10 => if 0 ≤ v10 then some (x3, x4) else (gR h 12 18 (some th)).bind fun v12 => (aI h v12 x8).bind fun v13 => if v13 = x2 then (cV h 12 (some th) fun a30 => s_X12_fit h a30 x1 x8).bind fun v15 => if v15 = 0 then some (x3, x4) else (gR h 12 11 (some th)).bind fun v17 => (aJ h v17 x8).bind fun v18 => (gR h 12 20 (some th)).bind fun v19 => (aJ h v19 x6).bind fun v20 => (gR h 12 11 (some th)).bind fun v21 => (aJ h v21 x1).bind fun v22 => (gR h 12 20 (some th)).bind fun v23 => (aJ h v23 x2).bind fun v24 => (s_X12_apart h (v22 + v24) (v18 + v20)).bind fun v25 => (gI h 12 21 (some th)).bind fun v26 => if 0 < (lg_cmp v25 v26.toInt64) then some (x3, x4) else if x3 < 0 then some (x6, v18 + v20) else if (lg_cmp (v18 + v20) x4) < 0 then some (x6, v18 + v20) else some (x3, x4) else some (x3, x4)) : Option (Int32 × Int64)).bind fun q31 => s_X12_meantBy_L62 N n th x1 x2 q31.1 q31.2 x6 x7 (x8 + 1) h
def s_X12_meantBy_L13 (N : Nat) : Nat → Nat → Int32 → Int32 → Int32 → Int64 → Int32 → IH → Option (Int32)
  | 0, _, _, _, _, _, _, _ => none
  | n + 1, th, x1, x2, x3, x4, x6, h => (gI h 12 1 (some th)).bind fun v1 => if v1 ≤ x6 then some x3 else ((if x6 = x2 then some (x3, x4) else (cV h 12 (some th) fun a34 => s_X12_isNear N h a34 x1 x6).bind fun v4 => if v4 = 0 then some (x3, x4) else (s_X12_meantBy_L62 N N th x1 x2 x3 x4 x6 ((48 * x6) + (((x1 / 16) - (x1 / 16) / 3 * 3) * 16)) ((48 * x6) + (((x1 / 16) - (x1 / 16) / 3 * 3) * 16)) h).bind fun q33 => some (q33.1, q33.2)) : Option (Int32 × Int64)).bind fun q35 => s_X12_meantBy_L13 N n th x1 x2 q35.1 q35.2 (x6 + 1) h
def s_X12_meantBy (N : Nat) (h : IH) (th : Nat) (a0 : Int32) : Option (Int32) := (s_X12_meantBy_L13 N N th a0 (a0 / 48) (-1) 0 0 h).bind fun q36 => some q36
set_option maxHeartbeats 4000000 in
set_option maxRecDepth 100000 in
theorem w_X12_meantBy_L62 {p : Program} {l : Launch} {e : Env} {s : State} {m : MethodId} {args : Array Value} {below : List Frame} {meth : Method} {c : Code} {D : va_G} {cy : Nat → ClassId} {A : Nat → Prop} {H0 : Heap} {N th : Nat} {x1 : Int32} {x2 : Int32} {x6 : Int32} {x7 : Int32} {h : IH} {qF : Int32} (F : Fx p s m args meth c D cy A H0 yX12_meantBy cX12_meantBy 11 (some .int)) : ∀ (n : Nat) (x3 : Int32) (x4 : Int64) (x8 : Int32) (ls : Array Slot) (H : Heap) (locs : List Loc) (q : Int32 × Int64), s_X12_meantBy_L62 N n th x1 x2 x3 x4 x6 x7 x8 h = some q → lv_has ls 11 [(0, .ref th), (1, .int x1), (2, .int x2), (3, .int x3), (4, .long x4), (6, .int x6), (7, .int x7), (8, .int x8)] → Mo D cy A H0 h H locs → (∀ (t : Int32 × Int64) (ls : Array Slot) (H : Heap) (locs : List Loc), q = t → lv_has ls 11 [(0, .ref th), (1, .int x1), (2, .int x2), (3, .int t.1), (4, .long t.2), (6, .int x6)] → Mo D cy A H0 h H locs → W p l e rm_X12_meantBy s m args below meth c H locs 0 0 (MQ below (QR D cy h A (some (.int qF))) args s 0 0 A) (F0 m 187 ls [])) → (∀ v : Int32, False → v = qF) → W p l e rm_X12_meantBy s m args below meth c H locs 0 0 (MQ below (QR D cy h A (some (.int qF))) args s 0 0 A) (F0 m 62 ls []) := by
  intro n
  induction n with
  | zero => intro x3 x4 x8 ls H locs q hs; rw [s_X12_meantBy_L62.eq_1] at hs; cases hs
  | succ n ih =>
    intro x3 x4 x8 ls H locs q hs hl M kx kr
    obtain ⟨hx, hb, hr, hml, hown, hlk, hts, hK, hN, hA, hH⟩ := id F
    rw [s_X12_meantBy_L62.eq_2] at hs
    refine lv_iload hx hb dX12_meantBy_62 (lv_at hl 7 rfl) ?_
    refine lv_iload hx hb dX12_meantBy_64 (lv_at hl 6 rfl) ?_
    refine lv_bipush (v := 16) hx hb dX12_meantBy_66 (by decide) ?_
    refine lv_iadd hx hb dX12_meantBy_68 ?_
    refine lv_icmp_ge (tgt := 187) hx hb dX12_meantBy_69 (by decide) (fun c6 => ?_) (fun c6 => ?_)
    · rw [if_pos c6] at hs
      exact kx (x3, x4) _ _ _ (Option.some.inj hs).symm (lv_sub hl [0, 1, 2, 3, 4, 5] rfl) M
    · rw [if_neg c6] at hs
      refine lv_aload_n hx hb dX12_meantBy_72 rfl (lv_at hl 0 rfl) ?_
      refine lv_iload hx hb dX12_meantBy_73 (lv_at hl 7 rfl) ?_
      obtain ⟨v7, g_v7, hs⟩ := bd hs
      obtain ⟨a32, e_a32, k_a32, g_v7⟩ := cV_some g_v7
      obtain rfl := Option.some.inj e_a32
      refine ca_Vi (bq := th) (As := [.int x8]) (rest := []) F M (c_X12_isContactAt g_v7) mf_X12_isContactAt t_1352 k_a32 rfl ⟨by decide, by decide⟩ ⟨rfl, rfl⟩ ⟨Nat.zero_le _, Nat.zero_le _⟩ hl.1 rfl (by decide) dX12_meantBy_75 (fun H locs M => ?_)
      obtain ⟨q31, hsq31, hs⟩ := bd hs
      have KJ181 : ∀ (ls : Array Slot) (H : Heap) (locs : List Loc), lv_has ls 11 [(0, .ref th), (1, .int x1), (2, .int x2), (3, .int q31.1), (4, .long q31.2), (6, .int x6), (7, .int x7), (8, .int x8)] → Mo D cy A H0 h H locs → W p l e rm_X12_meantBy s m args below meth c H locs 0 0 (MQ below (QR D cy h A (some (.int qF))) args s 0 0 A) (F0 m 181 ls []) := by
        intro ls H locs hl M
        refine lv_iinc (v := x8 + 1) (lv' := [(8, .int (x8 + 1)), (0, .ref th), (1, .int x1), (2, .int x2), (3, .int q31.1), (4, .long q31.2), (6, .int x6), (7, .int x7)]) hx hb dX12_meantBy_181 hl (k := 7) rfl rfl (by decide) rfl (fun ls hl => ?_)
        refine lv_goto (tgt := 62) hx hb dX12_meantBy_184 (by decide) ?_
        exact ih q31.1 q31.2 (x8 + 1) _ _ _ _ hs (lv_sub hl [1, 2, 3, 4, 5, 6, 7, 0] rfl) M kx kr
      clear hs
      have hs := hsq31
      refine lv_if_eq (tgt := 181) hx hb dX12_meantBy_78 (by decide) (fun c8 => ?_) (fun c8 => ?_)
      · rw [if_pos c8] at hs
        obtain rfl := Option.some.inj hs
        exact KJ181 _ _ _ (lv_sub hl [0, 1, 2, 3, 4, 5, 6, 7] rfl) M
      · rw [if_neg c8] at hs
        refine lv_aload_n hx hb dX12_meantBy_81 rfl (lv_at hl 0 rfl) ?_
        obtain ⟨v9, g_v9, hs⟩ := bd hs
        refine ro_gR F M fg_12_19 t_1025 g_v9 dX12_meantBy_82 ?_
        refine lv_iload hx hb dX12_meantBy_85 (lv_at hl 7 rfl) ?_
        obtain ⟨v10, g_v10, hs⟩ := bd hs
        refine ro_aI F M g_v10 dX12_meantBy_87 ?_
        refine lv_if_ge (tgt := 181) hx hb dX12_meantBy_88 (by decide) (fun c11 => ?_) (fun c11 => ?_)
        · rw [if_pos c11] at hs
          obtain rfl := Option.some.inj hs
          exact KJ181 _ _ _ (lv_sub hl [0, 1, 2, 3, 4, 5, 6, 7] rfl) M
        · rw [if_neg c11] at hs
          refine lv_aload_n hx hb dX12_meantBy_91 rfl (lv_at hl 0 rfl) ?_
          obtain ⟨v12, g_v12, hs⟩ := bd hs
          refine ro_gR F M fg_12_18 t_1024 g_v12 dX12_meantBy_92 ?_
          refine lv_iload hx hb dX12_meantBy_95 (lv_at hl 7 rfl) ?_
          obtain ⟨v13, g_v13, hs⟩ := bd hs
          refine ro_aI F M g_v13 dX12_meantBy_97 ?_
          refine lv_iload_n hx hb dX12_meantBy_98 rfl (lv_at hl 2 rfl) ?_
          refine lv_icmp_ne (tgt := 181) hx hb dX12_meantBy_99 (by decide) (fun c14 => ?_) (fun c14 => ?_)
          · rw [if_neg c14] at hs
            obtain rfl := Option.some.inj hs
            exact KJ181 _ _ _ (lv_sub hl [0, 1, 2, 3, 4, 5, 6, 7] rfl) M
          · rw [if_pos c14] at hs
            refine lv_aload_n hx hb dX12_meantBy_102 rfl (lv_at hl 0 rfl) ?_
            refine lv_iload_n hx hb dX12_meantBy_103 rfl (lv_at hl 1 rfl) ?_
            refine lv_iload hx hb dX12_meantBy_104 (lv_at hl 7 rfl) ?_
            obtain ⟨v15, g_v15, hs⟩ := bd hs
            obtain ⟨a30, e_a30, k_a30, g_v15⟩ := cV_some g_v15
            obtain rfl := Option.some.inj e_a30
            refine ca_Vi (bq := th) (As := [.int x1, .int x8]) (rest := []) F M (c_X12_fit g_v15) mf_X12_fit t_1372 k_a30 rfl ⟨by decide, by decide⟩ ⟨rfl, rfl⟩ ⟨Nat.zero_le _, Nat.zero_le _⟩ hl.1 rfl (by decide) dX12_meantBy_106 (fun H locs M => ?_)
            refine lv_if_ne (tgt := 115) hx hb dX12_meantBy_109 (by decide) (fun c16 => ?_) (fun c16 => ?_)
            · rw [if_neg c16] at hs
              refine lv_aload_n hx hb dX12_meantBy_115 rfl (lv_at hl 0 rfl) ?_
              obtain ⟨v17, g_v17, hs⟩ := bd hs
              refine ro_gR F M fg_12_11 t_1017 g_v17 dX12_meantBy_116 ?_
              refine lv_iload hx hb dX12_meantBy_119 (lv_at hl 7 rfl) ?_
              obtain ⟨v18, g_v18, hs⟩ := bd hs
              refine ro_aJ F M g_v18 dX12_meantBy_121 ?_
              refine lv_aload_n hx hb dX12_meantBy_122 rfl (lv_at hl 0 rfl) ?_
              obtain ⟨v19, g_v19, hs⟩ := bd hs
              refine ro_gR F M fg_12_20 t_1026 g_v19 dX12_meantBy_123 ?_
              refine lv_iload hx hb dX12_meantBy_126 (lv_at hl 5 rfl) ?_
              obtain ⟨v20, g_v20, hs⟩ := bd hs
              refine ro_aJ F M g_v20 dX12_meantBy_128 ?_
              refine lv_ladd hx hb dX12_meantBy_129 ?_
              refine lv_lstore (i := 9) (lv' := [(9, .long (v18 + v20)), (0, .ref th), (1, .int x1), (2, .int x2), (3, .int x3), (4, .long x4), (6, .int x6), (7, .int x7), (8, .int x8)]) hx hb dX12_meantBy_130 hl (by decide) rfl (fun ls hl => ?_)
              refine lv_aload_n hx hb dX12_meantBy_132 rfl (lv_at hl 1 rfl) ?_
              obtain ⟨v21, g_v21, hs⟩ := bd hs
              refine ro_gR F M fg_12_11 t_1017 g_v21 dX12_meantBy_133 ?_
              refine lv_iload_n hx hb dX12_meantBy_136 rfl (lv_at hl 2 rfl) ?_
              obtain ⟨v22, g_v22, hs⟩ := bd hs
              refine ro_aJ F M g_v22 dX12_meantBy_137 ?_
              refine lv_aload_n hx hb dX12_meantBy_138 rfl (lv_at hl 1 rfl) ?_
              obtain ⟨v23, g_v23, hs⟩ := bd hs
              refine ro_gR F M fg_12_20 t_1026 g_v23 dX12_meantBy_139 ?_
              refine lv_iload_n hx hb dX12_meantBy_142 rfl (lv_at hl 3 rfl) ?_
              obtain ⟨v24, g_v24, hs⟩ := bd hs
              refine ro_aJ F M g_v24 dX12_meantBy_143 ?_
              refine lv_ladd hx hb dX12_meantBy_144 ?_
              refine lv_lload hx hb dX12_meantBy_145 (lv_at hl 0 rfl) ?_
              obtain ⟨v25, g_v25, hs⟩ := bd hs
              refine ca_Sl (As := [.long (v22 + v24), .long (v18 + v20)]) (rest := []) F M (c_X12_apart g_v25) mf_X12_apart t_1381 rfl ⟨by decide, by decide⟩ ⟨rfl, rfl⟩ ⟨Nat.zero_le _, Nat.zero_le _⟩ hl.1 rfl (by decide) dX12_meantBy_147 (fun H locs M => ?_)
              refine lv_aload_n hx hb dX12_meantBy_150 rfl (lv_at hl 1 rfl) ?_
              obtain ⟨v26, g_v26, hs⟩ := bd hs
              refine ro_gI F M fg_12_21 t_1027 g_v26 dX12_meantBy_151 ?_
              refine lv_i2l hx hb dX12_meantBy_154 rfl ?_
              refine W.lcmp hx hb dX12_meantBy_155 ?_
              refine lv_if_gt (tgt := 181) hx hb dX12_meantBy_156 (by decide) (fun c27 => ?_) (fun c27 => ?_)
              · rw [if_pos c27] at hs
                obtain rfl := Option.some.inj hs
                exact KJ181 _ _ _ (lv_sub hl [1, 2, 3, 4, 5, 6, 7, 8] rfl) M
              · rw [if_neg c27] at hs
                refine lv_iload_n hx hb dX12_meantBy_159 rfl (lv_at hl 4 rfl) ?_
                refine lv_if_lt (tgt := 174) hx hb dX12_meantBy_160 (by decide) (fun c28 => ?_) (fun c28 => ?_)
                · rw [if_pos c28] at hs
                  refine lv_iload hx hb dX12_meantBy_174 (lv_at hl 6 rfl) ?_
                  refine lv_istore_n (i := 3) (lv' := [(3, .int x6), (9, .long (v18 + v20)), (0, .ref th), (1, .int x1), (2, .int x2), (4, .long x4), (6, .int x6), (7, .int x7), (8, .int x8)]) hx hb dX12_meantBy_176 rfl hl (by decide) rfl (fun ls hl => ?_)
                  refine lv_lload hx hb dX12_meantBy_177 (lv_at hl 1 rfl) ?_
                  refine lv_lstore (i := 4) (lv' := [(4, .long (v18 + v20)), (3, .int x6), (9, .long (v18 + v20)), (0, .ref th), (1, .int x1), (2, .int x2), (6, .int x6), (7, .int x7), (8, .int x8)]) hx hb dX12_meantBy_179 hl (by decide) rfl (fun ls hl => ?_)
                  obtain rfl := Option.some.inj hs
                  exact KJ181 _ _ _ (lv_sub hl [3, 4, 5, 1, 0, 6, 7, 8] rfl) M
                · rw [if_neg c28] at hs
                  refine lv_lload hx hb dX12_meantBy_163 (lv_at hl 0 rfl) ?_
                  refine lv_lload hx hb dX12_meantBy_165 (lv_at hl 5 rfl) ?_
                  refine W.lcmp hx hb dX12_meantBy_167 ?_
                  refine lv_if_lt (tgt := 174) hx hb dX12_meantBy_168 (by decide) (fun c29 => ?_) (fun c29 => ?_)
                  · rw [if_pos c29] at hs
                    refine lv_iload hx hb dX12_meantBy_174 (lv_at hl 6 rfl) ?_
                    refine lv_istore_n (i := 3) (lv' := [(3, .int x6), (9, .long (v18 + v20)), (0, .ref th), (1, .int x1), (2, .int x2), (4, .long x4), (6, .int x6), (7, .int x7), (8, .int x8)]) hx hb dX12_meantBy_176 rfl hl (by decide) rfl (fun ls hl => ?_)
                    refine lv_lload hx hb dX12_meantBy_177 (lv_at hl 1 rfl) ?_
                    refine lv_lstore (i := 4) (lv' := [(4, .long (v18 + v20)), (3, .int x6), (9, .long (v18 + v20)), (0, .ref th), (1, .int x1), (2, .int x2), (6, .int x6), (7, .int x7), (8, .int x8)]) hx hb dX12_meantBy_179 hl (by decide) rfl (fun ls hl => ?_)
                    obtain rfl := Option.some.inj hs
                    exact KJ181 _ _ _ (lv_sub hl [3, 4, 5, 1, 0, 6, 7, 8] rfl) M
                  · rw [if_neg c29] at hs
                    refine lv_goto (tgt := 181) hx hb dX12_meantBy_171 (by decide) ?_
                    obtain rfl := Option.some.inj hs
                    exact KJ181 _ _ _ (lv_sub hl [1, 2, 3, 4, 5, 6, 7, 8] rfl) M
            · rw [if_pos c16] at hs
              refine lv_goto (tgt := 181) hx hb dX12_meantBy_112 (by decide) ?_
              obtain rfl := Option.some.inj hs
              exact KJ181 _ _ _ (lv_sub hl [0, 1, 2, 3, 4, 5, 6, 7] rfl) M
set_option maxHeartbeats 4000000 in
set_option maxRecDepth 100000 in
theorem w_X12_meantBy_L13 {p : Program} {l : Launch} {e : Env} {s : State} {m : MethodId} {args : Array Value} {below : List Frame} {meth : Method} {c : Code} {D : va_G} {cy : Nat → ClassId} {A : Nat → Prop} {H0 : Heap} {N th : Nat} {x1 : Int32} {x2 : Int32} {h : IH} {qF : Int32} (F : Fx p s m args meth c D cy A H0 yX12_meantBy cX12_meantBy 11 (some .int)) : ∀ (n : Nat) (x3 : Int32) (x4 : Int64) (x6 : Int32) (ls : Array Slot) (H : Heap) (locs : List Loc) (q : Int32), s_X12_meantBy_L13 N n th x1 x2 x3 x4 x6 h = some q → lv_has ls 11 [(0, .ref th), (1, .int x1), (2, .int x2), (3, .int x3), (4, .long x4), (6, .int x6)] → Mo D cy A H0 h H locs → (∀ (t : Int32) (ls : Array Slot) (H : Heap) (locs : List Loc), q = t → lv_has ls 11 [(3, .int t)] → Mo D cy A H0 h H locs → W p l e rm_X12_meantBy s m args below meth c H locs 0 0 (MQ below (QR D cy h A (some (.int qF))) args s 0 0 A) (F0 m 193 ls [])) → (∀ v : Int32, False → v = qF) → W p l e rm_X12_meantBy s m args below meth c H locs 0 0 (MQ below (QR D cy h A (some (.int qF))) args s 0 0 A) (F0 m 13 ls []) := by
  intro n
  induction n with
  | zero => intro x3 x4 x6 ls H locs q hs; rw [s_X12_meantBy_L13.eq_1] at hs; cases hs
  | succ n ih =>
    intro x3 x4 x6 ls H locs q hs hl M kx kr
    obtain ⟨hx, hb, hr, hml, hown, hlk, hts, hK, hN, hA, hH⟩ := id F
    rw [s_X12_meantBy_L13.eq_2] at hs
    refine lv_iload hx hb dX12_meantBy_13 (lv_at hl 5 rfl) ?_
    refine lv_aload_n hx hb dX12_meantBy_15 rfl (lv_at hl 0 rfl) ?_
    obtain ⟨v1, g_v1, hs⟩ := bd hs
    refine ro_gI F M fg_12_1 t_1007 g_v1 dX12_meantBy_16 ?_
    refine lv_icmp_ge (tgt := 193) hx hb dX12_meantBy_19 (by decide) (fun c2 => ?_) (fun c2 => ?_)
    · rw [if_pos c2] at hs
      exact kx x3 _ _ _ (Option.some.inj hs).symm (lv_sub hl [3] rfl) M
    · rw [if_neg c2] at hs
      refine lv_iload hx hb dX12_meantBy_22 (lv_at hl 5 rfl) ?_
      refine lv_iload_n hx hb dX12_meantBy_24 rfl (lv_at hl 2 rfl) ?_
      obtain ⟨q35, hsq35, hs⟩ := bd hs
      have KJ187 : ∀ (ls : Array Slot) (H : Heap) (locs : List Loc), lv_has ls 11 [(0, .ref th), (1, .int x1), (2, .int x2), (3, .int q35.1), (4, .long q35.2), (6, .int x6)] → Mo D cy A H0 h H locs → W p l e rm_X12_meantBy s m args below meth c H locs 0 0 (MQ below (QR D cy h A (some (.int qF))) args s 0 0 A) (F0 m 187 ls []) := by
        intro ls H locs hl M
        refine lv_iinc (v := x6 + 1) (lv' := [(6, .int (x6 + 1)), (0, .ref th), (1, .int x1), (2, .int x2), (3, .int q35.1), (4, .long q35.2)]) hx hb dX12_meantBy_187 hl (k := 5) rfl rfl (by decide) rfl (fun ls hl => ?_)
        refine lv_goto (tgt := 13) hx hb dX12_meantBy_190 (by decide) ?_
        exact ih q35.1 q35.2 (x6 + 1) _ _ _ _ hs (lv_sub hl [1, 2, 3, 4, 5, 0] rfl) M kx kr
      clear hs
      have hs := hsq35
      refine lv_icmp_eq (tgt := 187) hx hb dX12_meantBy_25 (by decide) (fun c3 => ?_) (fun c3 => ?_)
      · rw [if_pos c3] at hs
        obtain rfl := Option.some.inj hs
        exact KJ187 _ _ _ (lv_sub hl [0, 1, 2, 3, 4, 5] rfl) M
      · rw [if_neg c3] at hs
        refine lv_aload_n hx hb dX12_meantBy_28 rfl (lv_at hl 0 rfl) ?_
        refine lv_iload_n hx hb dX12_meantBy_29 rfl (lv_at hl 1 rfl) ?_
        refine lv_iload hx hb dX12_meantBy_30 (lv_at hl 5 rfl) ?_
        obtain ⟨v4, g_v4, hs⟩ := bd hs
        obtain ⟨a34, e_a34, k_a34, g_v4⟩ := cV_some g_v4
        obtain rfl := Option.some.inj e_a34
        refine ca_Vi (bq := th) (As := [.int x1, .int x6]) (rest := []) F M (c_X12_isNear g_v4) mf_X12_isNear t_1463 k_a34 rfl ⟨by decide, by decide⟩ ⟨rfl, rfl⟩ ⟨Nat.zero_le _, Nat.zero_le _⟩ hl.1 rfl (by decide) dX12_meantBy_32 (fun H locs M => ?_)
        refine lv_if_ne (tgt := 41) hx hb dX12_meantBy_35 (by decide) (fun c5 => ?_) (fun c5 => ?_)
        · rw [if_neg c5] at hs
          refine lv_bipush (v := 48) hx hb dX12_meantBy_41 (by decide) ?_
          refine lv_iload hx hb dX12_meantBy_43 (lv_at hl 5 rfl) ?_
          refine lv_imul hx hb dX12_meantBy_45 ?_
          refine lv_iload_n hx hb dX12_meantBy_46 rfl (lv_at hl 1 rfl) ?_
          refine lv_bipush (v := 16) hx hb dX12_meantBy_47 (by decide) ?_
          refine lv_idiv hx hb dX12_meantBy_49 (by decide) ?_
          refine lv_iconst (v := 3) hx hb dX12_meantBy_50 (by decide) ?_
          refine lv_irem hx hb dX12_meantBy_51 (by decide) ?_
          refine lv_bipush (v := 16) hx hb dX12_meantBy_52 (by decide) ?_
          refine lv_imul hx hb dX12_meantBy_54 ?_
          refine lv_iadd hx hb dX12_meantBy_55 ?_
          refine lv_istore (i := 7) (lv' := [(7, .int ((48 * x6) + (((x1 / 16) - (x1 / 16) / 3 * 3) * 16))), (0, .ref th), (1, .int x1), (2, .int x2), (3, .int x3), (4, .long x4), (6, .int x6)]) hx hb dX12_meantBy_56 hl (by decide) rfl (fun ls hl => ?_)
          refine lv_iload hx hb dX12_meantBy_58 (lv_at hl 0 rfl) ?_
          refine lv_istore (i := 8) (lv' := [(8, .int ((48 * x6) + (((x1 / 16) - (x1 / 16) / 3 * 3) * 16))), (7, .int ((48 * x6) + (((x1 / 16) - (x1 / 16) / 3 * 3) * 16))), (0, .ref th), (1, .int x1), (2, .int x2), (3, .int x3), (4, .long x4), (6, .int x6)]) hx hb dX12_meantBy_60 hl (by decide) rfl (fun ls hl => ?_)
          obtain ⟨q33, g_q33, hs⟩ := bd hs
          refine w_X12_meantBy_L62 F N x3 x4 ((48 * x6) + (((x1 / 16) - (x1 / 16) / 3 * 3) * 16)) _ _ _ q33 g_q33 (lv_sub hl [2, 3, 4, 5, 6, 7, 1, 0] rfl) M (fun t_ ls H locs eq_ hl M => ?_) (fun v eq_ => eq_.elim)
          subst eq_
          obtain rfl := Option.some.inj hs
          exact KJ187 _ _ _ (lv_sub hl [0, 1, 2, 3, 4, 5] rfl) M
        · rw [if_pos c5] at hs
          refine lv_goto (tgt := 187) hx hb dX12_meantBy_38 (by decide) ?_
          obtain rfl := Option.some.inj hs
          exact KJ187 _ _ _ (lv_sub hl [0, 1, 2, 3, 4, 5] rfl) M
set_option maxHeartbeats 4000000 in
set_option maxRecDepth 100000 in
theorem c_X12_meantBy {l : Launch} {D : va_G} {cy : Nat → ClassId} {sz N : Nat} {h : IH} {th : Nat} {a0 : Int32} {qF : Int32} (hs : s_X12_meantBy N h th a0 = some qF) : Ct l D cy yX12_meantBy cX12_meantBy 11 (some .int) rm_X12_meantBy h sz [.ref th, .int a0] h (some (.int qF)) := by
  refine ct_start (by decide +kernel) [(0, .ref th), (1, .int a0)] (Nat.le_of_ble_eq_true rfl) rfl ?_
  intro p e s m args below meth c A H0 ls F hin hsz M hl
  obtain ⟨hx, hb, hr, hml, hown, hlk, hts, hK, hN, hA, hH⟩ := id F
  generalize s.heap = H at M ⊢
  generalize ([] : List Loc) = locs at M ⊢
  unfold s_X12_meantBy at hs
  refine lv_iload_n hx hb dX12_meantBy_0 rfl (lv_at hl 1 rfl) ?_
  refine lv_bipush (v := 48) hx hb dX12_meantBy_1 (by decide) ?_
  refine lv_idiv hx hb dX12_meantBy_3 (by decide) ?_
  refine lv_istore_n (i := 2) (lv' := [(2, .int (a0 / 48)), (0, .ref th), (1, .int a0)]) hx hb dX12_meantBy_4 rfl hl (by decide) rfl (fun ls hl => ?_)
  refine lv_iconst (v := (-1)) hx hb dX12_meantBy_5 (by decide) ?_
  refine lv_istore_n (i := 3) (lv' := [(3, .int (-1)), (2, .int (a0 / 48)), (0, .ref th), (1, .int a0)]) hx hb dX12_meantBy_6 rfl hl (by decide) rfl (fun ls hl => ?_)
  refine lv_lconst (v := 0) hx hb dX12_meantBy_7 (by decide) ?_
  refine lv_lstore (i := 4) (lv' := [(4, .long 0), (3, .int (-1)), (2, .int (a0 / 48)), (0, .ref th), (1, .int a0)]) hx hb dX12_meantBy_8 hl (by decide) rfl (fun ls hl => ?_)
  refine lv_iconst (v := 0) hx hb dX12_meantBy_10 (by decide) ?_
  refine lv_istore (i := 6) (lv' := [(6, .int 0), (4, .long 0), (3, .int (-1)), (2, .int (a0 / 48)), (0, .ref th), (1, .int a0)]) hx hb dX12_meantBy_11 hl (by decide) rfl (fun ls hl => ?_)
  obtain ⟨q36, g_q36, hs⟩ := bd hs
  refine w_X12_meantBy_L13 F N (-1) 0 0 _ _ _ q36 g_q36 (lv_sub hl [4, 5, 3, 2, 1, 0] rfl) M (fun t_ ls H locs eq_ hl M => ?_) (fun v eq_ => eq_.elim)
  subst eq_
  refine lv_iload_n hx hb dX12_meantBy_193 rfl (lv_at hl 0 rfl) ?_
  obtain rfl := Option.some.inj hs
  exact re_i F M dX12_meantBy_194
abbrev rm_X12_isSameCall : Room := { frames := 0, cells := 0, slots := 0, locals := 0 }
theorem mf_X12_isSameCall : MV 12 yX12_isSameCall cX12_isSameCall 5 (some .boolean) 2 RX12 := ⟨t_1474, t_1473, tS_114, t_12, ⟨by decide +kernel, by decide +kernel, by decide +kernel⟩, rfl, by decide⟩
def s_X12_isSameCall_L24 (N : Nat) : Nat → Nat → Int32 → Int32 → Int32 → Int32 → IH → Option (Int32)
  | 0, _, _, _, _, _, _ => none
  | n + 1, th, x1, x2, x3, x4, h => (gR h 12 13 (some th)).bind fun v7 => (aI h v7 x1).bind fun v8 => if v8 ≤ x4 then some x3 else if x3 = 0 then some x3 else (gR h 12 14 (some th)).bind fun v11 => (aI h v11 ((6 * x1) + x4)).bind fun v12 => (gR h 12 14 (some th)).bind fun v13 => (aI h v13 ((6 * x2) + x4)).bind fun v14 => ((if v12 = v14 then some 1 else some 0) : Option (Int32)).bind fun q16 => s_X12_isSameCall_L24 N n th x1 x2 q16 (x4 + 1) h
def s_X12_isSameCall (N : Nat) (h : IH) (th : Nat) (a0 : Int32) (a1 : Int32) : Option (Int32) := (gR h 12 13 (some th)).bind fun v1 => (aI h v1 a0).bind fun v2 => (gR h 12 13 (some th)).bind fun v3 => (aI h v3 a1).bind fun v4 => ((if v2 = v4 then some 1 else some 0) : Option (Int32)).bind fun q6 => (s_X12_isSameCall_L24 N N th a0 a1 q6 0 h).bind fun q17 => if q17 = 0 ∨ q17 = 1 then some q17 else none
set_option maxHeartbeats 4000000 in
set_option maxRecDepth 100000 in
theorem w_X12_isSameCall_L24 {p : Program} {l : Launch} {e : Env} {s : State} {m : MethodId} {args : Array Value} {below : List Frame} {meth : Method} {c : Code} {D : va_G} {cy : Nat → ClassId} {A : Nat → Prop} {H0 : Heap} {N th : Nat} {x1 : Int32} {x2 : Int32} {h : IH} {qF : Int32} (F : Fx p s m args meth c D cy A H0 yX12_isSameCall cX12_isSameCall 5 (some .boolean)) : ∀ (n : Nat) (x3 : Int32) (x4 : Int32) (ls : Array Slot) (H : Heap) (locs : List Loc) (q : Int32), s_X12_isSameCall_L24 N n th x1 x2 x3 x4 h = some q → lv_has ls 5 [(0, .ref th), (1, .int x1), (2, .int x2), (3, .int x3), (4, .int x4)] → Mo D cy A H0 h H locs → (∀ (t : Int32) (ls : Array Slot) (H : Heap) (locs : List Loc), q = t → lv_has ls 5 [(3, .int t)] → Mo D cy A H0 h H locs → W p l e rm_X12_isSameCall s m args below meth c H locs 0 0 (MQ below (QR D cy h A (some (.int qF))) args s 0 0 A) (F0 m 78 ls [])) → (∀ v : Int32, False → v = qF) → W p l e rm_X12_isSameCall s m args below meth c H locs 0 0 (MQ below (QR D cy h A (some (.int qF))) args s 0 0 A) (F0 m 24 ls []) := by
  intro n
  induction n with
  | zero => intro x3 x4 ls H locs q hs; rw [s_X12_isSameCall_L24.eq_1] at hs; cases hs
  | succ n ih =>
    intro x3 x4 ls H locs q hs hl M kx kr
    obtain ⟨hx, hb, hr, hml, hown, hlk, hts, hK, hN, hA, hH⟩ := id F
    rw [s_X12_isSameCall_L24.eq_2] at hs
    refine lv_iload hx hb dX12_isSameCall_24 (lv_at hl 4 rfl) ?_
    refine lv_aload_n hx hb dX12_isSameCall_26 rfl (lv_at hl 0 rfl) ?_
    obtain ⟨v7, g_v7, hs⟩ := bd hs
    refine ro_gR F M fg_12_13 t_1019 g_v7 dX12_isSameCall_27 ?_
    refine lv_iload_n hx hb dX12_isSameCall_30 rfl (lv_at hl 1 rfl) ?_
    obtain ⟨v8, g_v8, hs⟩ := bd hs
    refine ro_aI F M g_v8 dX12_isSameCall_31 ?_
    refine lv_icmp_ge (tgt := 78) hx hb dX12_isSameCall_32 (by decide) (fun c9 => ?_) (fun c9 => ?_)
    · rw [if_pos c9] at hs
      exact kx x3 _ _ _ (Option.some.inj hs).symm (lv_sub hl [3] rfl) M
    · rw [if_neg c9] at hs
      refine lv_iload_n hx hb dX12_isSameCall_35 rfl (lv_at hl 3 rfl) ?_
      refine lv_if_eq (tgt := 78) hx hb dX12_isSameCall_36 (by decide) (fun c10 => ?_) (fun c10 => ?_)
      · rw [if_pos c10] at hs
        exact kx x3 _ _ _ (Option.some.inj hs).symm (lv_sub hl [3] rfl) M
      · rw [if_neg c10] at hs
        refine lv_aload_n hx hb dX12_isSameCall_39 rfl (lv_at hl 0 rfl) ?_
        obtain ⟨v11, g_v11, hs⟩ := bd hs
        refine ro_gR F M fg_12_14 t_1020 g_v11 dX12_isSameCall_40 ?_
        refine lv_bipush (v := 6) hx hb dX12_isSameCall_43 (by decide) ?_
        refine lv_iload_n hx hb dX12_isSameCall_45 rfl (lv_at hl 1 rfl) ?_
        refine lv_imul hx hb dX12_isSameCall_46 ?_
        refine lv_iload hx hb dX12_isSameCall_47 (lv_at hl 4 rfl) ?_
        refine lv_iadd hx hb dX12_isSameCall_49 ?_
        obtain ⟨v12, g_v12, hs⟩ := bd hs
        refine ro_aI F M g_v12 dX12_isSameCall_50 ?_
        refine lv_aload_n hx hb dX12_isSameCall_51 rfl (lv_at hl 0 rfl) ?_
        obtain ⟨v13, g_v13, hs⟩ := bd hs
        refine ro_gR F M fg_12_14 t_1020 g_v13 dX12_isSameCall_52 ?_
        refine lv_bipush (v := 6) hx hb dX12_isSameCall_55 (by decide) ?_
        refine lv_iload_n hx hb dX12_isSameCall_57 rfl (lv_at hl 2 rfl) ?_
        refine lv_imul hx hb dX12_isSameCall_58 ?_
        refine lv_iload hx hb dX12_isSameCall_59 (lv_at hl 4 rfl) ?_
        refine lv_iadd hx hb dX12_isSameCall_61 ?_
        obtain ⟨v14, g_v14, hs⟩ := bd hs
        refine ro_aI F M g_v14 dX12_isSameCall_62 ?_
        obtain ⟨q16, hsq16, hs⟩ := bd hs
        have KJ71 : ∀ (ls : Array Slot) (H : Heap) (locs : List Loc), lv_has ls 5 [(0, .ref th), (1, .int x1), (2, .int x2), (4, .int x4)] → Mo D cy A H0 h H locs → W p l e rm_X12_isSameCall s m args below meth c H locs 0 0 (MQ below (QR D cy h A (some (.int qF))) args s 0 0 A) (F0 m 71 ls [.int q16]) := by
          intro ls H locs hl M
          refine lv_istore_n (i := 3) (lv' := [(3, .int q16), (0, .ref th), (1, .int x1), (2, .int x2), (4, .int x4)]) hx hb dX12_isSameCall_71 rfl hl (by decide) rfl (fun ls hl => ?_)
          refine lv_iinc (v := x4 + 1) (lv' := [(4, .int (x4 + 1)), (3, .int q16), (0, .ref th), (1, .int x1), (2, .int x2)]) hx hb dX12_isSameCall_72 hl (k := 4) rfl rfl (by decide) rfl (fun ls hl => ?_)
          refine lv_goto (tgt := 24) hx hb dX12_isSameCall_75 (by decide) ?_
          exact ih q16 (x4 + 1) _ _ _ _ hs (lv_sub hl [2, 3, 4, 1, 0] rfl) M kx kr
        clear hs
        have hs := hsq16
        refine lv_icmp_ne (tgt := 70) hx hb dX12_isSameCall_63 (by decide) (fun c15 => ?_) (fun c15 => ?_)
        · rw [if_neg c15] at hs
          refine lv_iconst (v := 0) hx hb dX12_isSameCall_70 (by decide) ?_
          obtain rfl := Option.some.inj hs
          exact KJ71 _ _ _ (lv_sub hl [0, 1, 2, 4] rfl) M
        · rw [if_pos c15] at hs
          refine lv_iconst (v := 1) hx hb dX12_isSameCall_66 (by decide) ?_
          refine lv_goto (tgt := 71) hx hb dX12_isSameCall_67 (by decide) ?_
          obtain rfl := Option.some.inj hs
          exact KJ71 _ _ _ (lv_sub hl [0, 1, 2, 4] rfl) M
set_option maxHeartbeats 4000000 in
set_option maxRecDepth 100000 in
theorem c_X12_isSameCall {l : Launch} {D : va_G} {cy : Nat → ClassId} {sz N : Nat} {h : IH} {th : Nat} {a0 : Int32} {a1 : Int32} {qF : Int32} (hs : s_X12_isSameCall N h th a0 a1 = some qF) : Ct l D cy yX12_isSameCall cX12_isSameCall 5 (some .boolean) rm_X12_isSameCall h sz [.ref th, .int a0, .int a1] h (some (.int qF)) := by
  refine ct_start (by decide +kernel) [(0, .ref th), (1, .int a0), (2, .int a1)] (Nat.le_of_ble_eq_true rfl) rfl ?_
  intro p e s m args below meth c A H0 ls F hin hsz M hl
  obtain ⟨hx, hb, hr, hml, hown, hlk, hts, hK, hN, hA, hH⟩ := id F
  generalize s.heap = H at M ⊢
  generalize ([] : List Loc) = locs at M ⊢
  unfold s_X12_isSameCall at hs
  refine lv_aload_n hx hb dX12_isSameCall_0 rfl (lv_at hl 0 rfl) ?_
  obtain ⟨v1, g_v1, hs⟩ := bd hs
  refine ro_gR F M fg_12_13 t_1019 g_v1 dX12_isSameCall_1 ?_
  refine lv_iload_n hx hb dX12_isSameCall_4 rfl (lv_at hl 1 rfl) ?_
  obtain ⟨v2, g_v2, hs⟩ := bd hs
  refine ro_aI F M g_v2 dX12_isSameCall_5 ?_
  refine lv_aload_n hx hb dX12_isSameCall_6 rfl (lv_at hl 0 rfl) ?_
  obtain ⟨v3, g_v3, hs⟩ := bd hs
  refine ro_gR F M fg_12_13 t_1019 g_v3 dX12_isSameCall_7 ?_
  refine lv_iload_n hx hb dX12_isSameCall_10 rfl (lv_at hl 2 rfl) ?_
  obtain ⟨v4, g_v4, hs⟩ := bd hs
  refine ro_aI F M g_v4 dX12_isSameCall_11 ?_
  obtain ⟨q6, hsq6, hs⟩ := bd hs
  have KJ20 : ∀ (ls : Array Slot) (H : Heap) (locs : List Loc), lv_has ls 5 [(0, .ref th), (1, .int a0), (2, .int a1)] → Mo D cy A H0 h H locs → W p l e rm_X12_isSameCall s m args below meth c H locs 0 0 (MQ below (QR D cy h A (some (.int qF))) args s 0 0 A) (F0 m 20 ls [.int q6]) := by
    intro ls H locs hl M
    refine lv_istore_n (i := 3) (lv' := [(3, .int q6), (0, .ref th), (1, .int a0), (2, .int a1)]) hx hb dX12_isSameCall_20 rfl hl (by decide) rfl (fun ls hl => ?_)
    refine lv_iconst (v := 0) hx hb dX12_isSameCall_21 (by decide) ?_
    refine lv_istore (i := 4) (lv' := [(4, .int 0), (3, .int q6), (0, .ref th), (1, .int a0), (2, .int a1)]) hx hb dX12_isSameCall_22 hl (by decide) rfl (fun ls hl => ?_)
    obtain ⟨q17, g_q17, hs⟩ := bd hs
    refine w_X12_isSameCall_L24 F N q6 0 _ _ _ q17 g_q17 (lv_sub hl [2, 3, 4, 1, 0] rfl) M (fun t_ ls H locs eq_ hl M => ?_) (fun v eq_ => eq_.elim)
    subst eq_
    refine lv_iload_n hx hb dX12_isSameCall_78 rfl (lv_at hl 0 rfl) ?_
    by_cases zg : q17 = 0 ∨ q17 = 1
    · rw [if_pos zg] at hs
      obtain rfl := Option.some.inj hs
      exact re_z F M zg dX12_isSameCall_79
    · rw [if_neg zg] at hs; cases hs
  clear hs
  have hs := hsq6
  refine lv_icmp_ne (tgt := 19) hx hb dX12_isSameCall_12 (by decide) (fun c5 => ?_) (fun c5 => ?_)
  · rw [if_neg c5] at hs
    refine lv_iconst (v := 0) hx hb dX12_isSameCall_19 (by decide) ?_
    obtain rfl := Option.some.inj hs
    exact KJ20 _ _ _ (lv_sub hl [0, 1, 2] rfl) M
  · rw [if_pos c5] at hs
    refine lv_iconst (v := 1) hx hb dX12_isSameCall_15 (by decide) ?_
    refine lv_goto (tgt := 20) hx hb dX12_isSameCall_16 (by decide) ?_
    obtain rfl := Option.some.inj hs
    exact KJ20 _ _ _ (lv_sub hl [0, 1, 2] rfl) M
abbrev rm_X12_standsIn : Room := { frames := 1, cells := 0, slots := 0, locals := 24 }
theorem mf_X12_standsIn : MV 12 yX12_standsIn cX12_standsIn 6 (some .int) 1 RX12 := ⟨t_1470, t_1469, tS_113, t_12, ⟨by decide +kernel, by decide +kernel, by decide +kernel⟩, rfl, by decide⟩
def s_X12_standsIn_L21 (N : Nat) : Nat → Nat → Int32 → Int32 → Int32 → Int32 → Int32 → IH → Option (Int32)
  | 0, _, _, _, _, _, _, _ => none
  | n + 1, th, x1, x2, x3, x4, x5, h => if ((48 * x3) + 48) ≤ x5 then some x4 else ((if x4 = 0 then (cV h 12 (some th) fun a10 => s_X12_isContactAt h a10 x5).bind fun v5 => if v5 = 0 then some 0 else (cV h 12 (some th) fun a9 => s_X12_isSameCall N h a9 x1 x5).bind fun v7 => if v7 = 0 then some 0 else some 1 else some 1) : Option (Int32)).bind fun q11 => s_X12_standsIn_L21 N n th x1 x2 x3 q11 (x5 + 1) h
def s_X12_standsIn_L4 (N : Nat) : Nat → Nat → Int32 → Int32 → Int32 → IH → Option (Int32)
  | 0, _, _, _, _, _ => none
  | n + 1, th, x1, x2, x3, h => (gI h 12 1 (some th)).bind fun v1 => if v1 ≤ x3 then some x2 else (s_X12_standsIn_L21 N N th x1 x2 x3 0 (48 * x3) h).bind fun q12 => ((if q12 = 0 then some 0 else some 1) : Option (Int32)).bind fun q14 => s_X12_standsIn_L4 N n th x1 (x2 + q14) (x3 + 1) h
def s_X12_standsIn (N : Nat) (h : IH) (th : Nat) (a0 : Int32) : Option (Int32) := (s_X12_standsIn_L4 N N th a0 0 0 h).bind fun q15 => some q15
set_option maxHeartbeats 4000000 in
set_option maxRecDepth 100000 in
theorem w_X12_standsIn_L21 {p : Program} {l : Launch} {e : Env} {s : State} {m : MethodId} {args : Array Value} {below : List Frame} {meth : Method} {c : Code} {D : va_G} {cy : Nat → ClassId} {A : Nat → Prop} {H0 : Heap} {N th : Nat} {x1 : Int32} {x2 : Int32} {x3 : Int32} {h : IH} {qF : Int32} (F : Fx p s m args meth c D cy A H0 yX12_standsIn cX12_standsIn 6 (some .int)) : ∀ (n : Nat) (x4 : Int32) (x5 : Int32) (ls : Array Slot) (H : Heap) (locs : List Loc) (q : Int32), s_X12_standsIn_L21 N n th x1 x2 x3 x4 x5 h = some q → lv_has ls 6 [(0, .ref th), (1, .int x1), (2, .int x2), (3, .int x3), (4, .int x4), (5, .int x5)] → Mo D cy A H0 h H locs → (∀ (t : Int32) (ls : Array Slot) (H : Heap) (locs : List Loc), q = t → lv_has ls 6 [(0, .ref th), (1, .int x1), (2, .int x2), (3, .int x3), (4, .int t)] → Mo D cy A H0 h H locs → W p l e rm_X12_standsIn s m args below meth c H locs 0 0 (MQ below (QR D cy h A (some (.int qF))) args s 0 0 A) (F0 m 70 ls [])) → (∀ v : Int32, False → v = qF) → W p l e rm_X12_standsIn s m args below meth c H locs 0 0 (MQ below (QR D cy h A (some (.int qF))) args s 0 0 A) (F0 m 21 ls []) := by
  intro n
  induction n with
  | zero => intro x4 x5 ls H locs q hs; rw [s_X12_standsIn_L21.eq_1] at hs; cases hs
  | succ n ih =>
    intro x4 x5 ls H locs q hs hl M kx kr
    obtain ⟨hx, hb, hr, hml, hown, hlk, hts, hK, hN, hA, hH⟩ := id F
    rw [s_X12_standsIn_L21.eq_2] at hs
    refine lv_iload hx hb dX12_standsIn_21 (lv_at hl 5 rfl) ?_
    refine lv_bipush (v := 48) hx hb dX12_standsIn_23 (by decide) ?_
    refine lv_iload_n hx hb dX12_standsIn_25 rfl (lv_at hl 3 rfl) ?_
    refine lv_imul hx hb dX12_standsIn_26 ?_
    refine lv_bipush (v := 48) hx hb dX12_standsIn_27 (by decide) ?_
    refine lv_iadd hx hb dX12_standsIn_29 ?_
    refine lv_icmp_ge (tgt := 70) hx hb dX12_standsIn_30 (by decide) (fun c3 => ?_) (fun c3 => ?_)
    · rw [if_pos c3] at hs
      exact kx x4 _ _ _ (Option.some.inj hs).symm (lv_sub hl [0, 1, 2, 3, 4] rfl) M
    · rw [if_neg c3] at hs
      refine lv_iload hx hb dX12_standsIn_33 (lv_at hl 4 rfl) ?_
      obtain ⟨q11, hsq11, hs⟩ := bd hs
      have KJ62 : ∀ (ls : Array Slot) (H : Heap) (locs : List Loc), lv_has ls 6 [(0, .ref th), (1, .int x1), (2, .int x2), (3, .int x3), (5, .int x5)] → Mo D cy A H0 h H locs → W p l e rm_X12_standsIn s m args below meth c H locs 0 0 (MQ below (QR D cy h A (some (.int qF))) args s 0 0 A) (F0 m 62 ls [.int q11]) := by
        intro ls H locs hl M
        refine lv_istore (i := 4) (lv' := [(4, .int q11), (0, .ref th), (1, .int x1), (2, .int x2), (3, .int x3), (5, .int x5)]) hx hb dX12_standsIn_62 hl (by decide) rfl (fun ls hl => ?_)
        refine lv_iinc (v := x5 + 1) (lv' := [(5, .int (x5 + 1)), (4, .int q11), (0, .ref th), (1, .int x1), (2, .int x2), (3, .int x3)]) hx hb dX12_standsIn_64 hl (k := 5) rfl rfl (by decide) rfl (fun ls hl => ?_)
        refine lv_goto (tgt := 21) hx hb dX12_standsIn_67 (by decide) ?_
        exact ih q11 (x5 + 1) _ _ _ _ hs (lv_sub hl [2, 3, 4, 5, 1, 0] rfl) M kx kr
      clear hs
      have hs := hsq11
      refine lv_if_ne (tgt := 57) hx hb dX12_standsIn_35 (by decide) (fun c4 => ?_) (fun c4 => ?_)
      · rw [if_neg c4] at hs
        refine lv_iconst (v := 1) hx hb dX12_standsIn_57 (by decide) ?_
        refine lv_goto (tgt := 62) hx hb dX12_standsIn_58 (by decide) ?_
        obtain rfl := Option.some.inj hs
        exact KJ62 _ _ _ (lv_sub hl [0, 1, 2, 3, 5] rfl) M
      · rw [if_pos c4] at hs
        refine lv_aload_n hx hb dX12_standsIn_38 rfl (lv_at hl 0 rfl) ?_
        refine lv_iload hx hb dX12_standsIn_39 (lv_at hl 5 rfl) ?_
        obtain ⟨v5, g_v5, hs⟩ := bd hs
        obtain ⟨a10, e_a10, k_a10, g_v5⟩ := cV_some g_v5
        obtain rfl := Option.some.inj e_a10
        refine ca_Vi (bq := th) (As := [.int x5]) (rest := []) F M (c_X12_isContactAt g_v5) mf_X12_isContactAt t_1352 k_a10 rfl ⟨by decide, by decide⟩ ⟨rfl, rfl⟩ ⟨Nat.zero_le _, Nat.zero_le _⟩ hl.1 rfl (by decide) dX12_standsIn_41 (fun H locs M => ?_)
        refine lv_if_eq (tgt := 61) hx hb dX12_standsIn_44 (by decide) (fun c6 => ?_) (fun c6 => ?_)
        · rw [if_pos c6] at hs
          refine lv_iconst (v := 0) hx hb dX12_standsIn_61 (by decide) ?_
          obtain rfl := Option.some.inj hs
          exact KJ62 _ _ _ (lv_sub hl [0, 1, 2, 3, 5] rfl) M
        · rw [if_neg c6] at hs
          refine lv_aload_n hx hb dX12_standsIn_47 rfl (lv_at hl 0 rfl) ?_
          refine lv_iload_n hx hb dX12_standsIn_48 rfl (lv_at hl 1 rfl) ?_
          refine lv_iload hx hb dX12_standsIn_49 (lv_at hl 5 rfl) ?_
          obtain ⟨v7, g_v7, hs⟩ := bd hs
          obtain ⟨a9, e_a9, k_a9, g_v7⟩ := cV_some g_v7
          obtain rfl := Option.some.inj e_a9
          refine ca_Vi (bq := th) (As := [.int x1, .int x5]) (rest := []) F M (c_X12_isSameCall g_v7) mf_X12_isSameCall t_1471 k_a9 rfl ⟨by decide, by decide⟩ ⟨rfl, rfl⟩ ⟨Nat.zero_le _, Nat.zero_le _⟩ hl.1 rfl (by decide) dX12_standsIn_51 (fun H locs M => ?_)
          refine lv_if_eq (tgt := 61) hx hb dX12_standsIn_54 (by decide) (fun c8 => ?_) (fun c8 => ?_)
          · rw [if_pos c8] at hs
            refine lv_iconst (v := 0) hx hb dX12_standsIn_61 (by decide) ?_
            obtain rfl := Option.some.inj hs
            exact KJ62 _ _ _ (lv_sub hl [0, 1, 2, 3, 5] rfl) M
          · rw [if_neg c8] at hs
            refine lv_iconst (v := 1) hx hb dX12_standsIn_57 (by decide) ?_
            refine lv_goto (tgt := 62) hx hb dX12_standsIn_58 (by decide) ?_
            obtain rfl := Option.some.inj hs
            exact KJ62 _ _ _ (lv_sub hl [0, 1, 2, 3, 5] rfl) M
set_option maxHeartbeats 4000000 in
set_option maxRecDepth 100000 in
theorem w_X12_standsIn_L4 {p : Program} {l : Launch} {e : Env} {s : State} {m : MethodId} {args : Array Value} {below : List Frame} {meth : Method} {c : Code} {D : va_G} {cy : Nat → ClassId} {A : Nat → Prop} {H0 : Heap} {N th : Nat} {x1 : Int32} {h : IH} {qF : Int32} (F : Fx p s m args meth c D cy A H0 yX12_standsIn cX12_standsIn 6 (some .int)) : ∀ (n : Nat) (x2 : Int32) (x3 : Int32) (ls : Array Slot) (H : Heap) (locs : List Loc) (q : Int32), s_X12_standsIn_L4 N n th x1 x2 x3 h = some q → lv_has ls 6 [(0, .ref th), (1, .int x1), (2, .int x2), (3, .int x3)] → Mo D cy A H0 h H locs → (∀ (t : Int32) (ls : Array Slot) (H : Heap) (locs : List Loc), q = t → lv_has ls 6 [(2, .int t)] → Mo D cy A H0 h H locs → W p l e rm_X12_standsIn s m args below meth c H locs 0 0 (MQ below (QR D cy h A (some (.int qF))) args s 0 0 A) (F0 m 89 ls [])) → (∀ v : Int32, False → v = qF) → W p l e rm_X12_standsIn s m args below meth c H locs 0 0 (MQ below (QR D cy h A (some (.int qF))) args s 0 0 A) (F0 m 4 ls []) := by
  intro n
  induction n with
  | zero => intro x2 x3 ls H locs q hs; rw [s_X12_standsIn_L4.eq_1] at hs; cases hs
  | succ n ih =>
    intro x2 x3 ls H locs q hs hl M kx kr
    obtain ⟨hx, hb, hr, hml, hown, hlk, hts, hK, hN, hA, hH⟩ := id F
    rw [s_X12_standsIn_L4.eq_2] at hs
    refine lv_iload_n hx hb dX12_standsIn_4 rfl (lv_at hl 3 rfl) ?_
    refine lv_aload_n hx hb dX12_standsIn_5 rfl (lv_at hl 0 rfl) ?_
    obtain ⟨v1, g_v1, hs⟩ := bd hs
    refine ro_gI F M fg_12_1 t_1007 g_v1 dX12_standsIn_6 ?_
    refine lv_icmp_ge (tgt := 89) hx hb dX12_standsIn_9 (by decide) (fun c2 => ?_) (fun c2 => ?_)
    · rw [if_pos c2] at hs
      exact kx x2 _ _ _ (Option.some.inj hs).symm (lv_sub hl [2] rfl) M
    · rw [if_neg c2] at hs
      refine lv_iconst (v := 0) hx hb dX12_standsIn_12 (by decide) ?_
      refine lv_istore (i := 4) (lv' := [(4, .int 0), (0, .ref th), (1, .int x1), (2, .int x2), (3, .int x3)]) hx hb dX12_standsIn_13 hl (by decide) rfl (fun ls hl => ?_)
      refine lv_bipush (v := 48) hx hb dX12_standsIn_15 (by decide) ?_
      refine lv_iload_n hx hb dX12_standsIn_17 rfl (lv_at hl 4 rfl) ?_
      refine lv_imul hx hb dX12_standsIn_18 ?_
      refine lv_istore (i := 5) (lv' := [(5, .int (48 * x3)), (4, .int 0), (0, .ref th), (1, .int x1), (2, .int x2), (3, .int x3)]) hx hb dX12_standsIn_19 hl (by decide) rfl (fun ls hl => ?_)
      obtain ⟨q12, g_q12, hs⟩ := bd hs
      refine w_X12_standsIn_L21 F N 0 (48 * x3) _ _ _ q12 g_q12 (lv_sub hl [2, 3, 4, 5, 1, 0] rfl) M (fun t_ ls H locs eq_ hl M => ?_) (fun v eq_ => eq_.elim)
      subst eq_
      refine lv_iload_n hx hb dX12_standsIn_70 rfl (lv_at hl 2 rfl) ?_
      refine lv_iload hx hb dX12_standsIn_71 (lv_at hl 4 rfl) ?_
      obtain ⟨q14, hsq14, hs⟩ := bd hs
      have KJ81 : ∀ (ls : Array Slot) (H : Heap) (locs : List Loc), lv_has ls 6 [(0, .ref th), (1, .int x1), (3, .int x3)] → Mo D cy A H0 h H locs → W p l e rm_X12_standsIn s m args below meth c H locs 0 0 (MQ below (QR D cy h A (some (.int qF))) args s 0 0 A) (F0 m 81 ls [.int q14, .int x2]) := by
        intro ls H locs hl M
        refine lv_iadd hx hb dX12_standsIn_81 ?_
        refine lv_istore_n (i := 2) (lv' := [(2, .int (x2 + q14)), (0, .ref th), (1, .int x1), (3, .int x3)]) hx hb dX12_standsIn_82 rfl hl (by decide) rfl (fun ls hl => ?_)
        refine lv_iinc (v := x3 + 1) (lv' := [(3, .int (x3 + 1)), (2, .int (x2 + q14)), (0, .ref th), (1, .int x1)]) hx hb dX12_standsIn_83 hl (k := 3) rfl rfl (by decide) rfl (fun ls hl => ?_)
        refine lv_goto (tgt := 4) hx hb dX12_standsIn_86 (by decide) ?_
        exact ih (x2 + q14) (x3 + 1) _ _ _ _ hs (lv_sub hl [2, 3, 1, 0] rfl) M kx kr
      clear hs
      have hs := hsq14
      refine lv_if_eq (tgt := 80) hx hb dX12_standsIn_73 (by decide) (fun c13 => ?_) (fun c13 => ?_)
      · rw [if_pos c13] at hs
        refine lv_iconst (v := 0) hx hb dX12_standsIn_80 (by decide) ?_
        obtain rfl := Option.some.inj hs
        exact KJ81 _ _ _ (lv_sub hl [0, 1, 3] rfl) M
      · rw [if_neg c13] at hs
        refine lv_iconst (v := 1) hx hb dX12_standsIn_76 (by decide) ?_
        refine lv_goto (tgt := 81) hx hb dX12_standsIn_77 (by decide) ?_
        obtain rfl := Option.some.inj hs
        exact KJ81 _ _ _ (lv_sub hl [0, 1, 3] rfl) M
set_option maxHeartbeats 4000000 in
set_option maxRecDepth 100000 in
theorem c_X12_standsIn {l : Launch} {D : va_G} {cy : Nat → ClassId} {sz N : Nat} {h : IH} {th : Nat} {a0 : Int32} {qF : Int32} (hs : s_X12_standsIn N h th a0 = some qF) : Ct l D cy yX12_standsIn cX12_standsIn 6 (some .int) rm_X12_standsIn h sz [.ref th, .int a0] h (some (.int qF)) := by
  refine ct_start (by decide +kernel) [(0, .ref th), (1, .int a0)] (Nat.le_of_ble_eq_true rfl) rfl ?_
  intro p e s m args below meth c A H0 ls F hin hsz M hl
  obtain ⟨hx, hb, hr, hml, hown, hlk, hts, hK, hN, hA, hH⟩ := id F
  generalize s.heap = H at M ⊢
  generalize ([] : List Loc) = locs at M ⊢
  unfold s_X12_standsIn at hs
  refine lv_iconst (v := 0) hx hb dX12_standsIn_0 (by decide) ?_
  refine lv_istore_n (i := 2) (lv' := [(2, .int 0), (0, .ref th), (1, .int a0)]) hx hb dX12_standsIn_1 rfl hl (by decide) rfl (fun ls hl => ?_)
  refine lv_iconst (v := 0) hx hb dX12_standsIn_2 (by decide) ?_
  refine lv_istore_n (i := 3) (lv' := [(3, .int 0), (2, .int 0), (0, .ref th), (1, .int a0)]) hx hb dX12_standsIn_3 rfl hl (by decide) rfl (fun ls hl => ?_)
  obtain ⟨q15, g_q15, hs⟩ := bd hs
  refine w_X12_standsIn_L4 F N 0 0 _ _ _ q15 g_q15 (lv_sub hl [2, 3, 1, 0] rfl) M (fun t_ ls H locs eq_ hl M => ?_) (fun v eq_ => eq_.elim)
  subst eq_
  refine lv_iload_n hx hb dX12_standsIn_89 rfl (lv_at hl 0 rfl) ?_
  obtain rfl := Option.some.inj hs
  exact re_i F M dX12_standsIn_90
abbrev rm_X12_whyOf : Room := { frames := 3, cells := 0, slots := 0, locals := 73 }
theorem mf_X12_whyOf : MV 12 yX12_whyOf cX12_whyOf 2 (some .int) 1 RX12 := ⟨t_1454, t_1453, tS_109, t_12, ⟨by decide +kernel, by decide +kernel, by decide +kernel⟩, rfl, by decide⟩
def s_X12_whyOf (N : Nat) (h : IH) (th : Nat) (a0 : Int32) : Option (Int32) := (gR h 12 19 (some th)).bind fun v1 => (aI h v1 a0).bind fun v2 => if v2 < 0 then (cV h 12 (some th) fun a25 => s_X12_isWhole h a25 a0).bind fun v4 => if v4 = 0 then some 2 else (gR h 12 18 (some th)).bind fun v6 => (aI h v6 a0).bind fun v7 => if 0 ≤ v7 then (gR h 12 18 (some th)).bind fun v9 => (aI h v9 a0).bind fun v10 => ((if v10 = (a0 / 48) then some 6 else (gR h 12 18 (some th)).bind fun v12 => (aI h v12 a0).bind fun v13 => (cV h 12 (some th) fun a16 => s_X12_hasLog h a16 v13).bind fun v14 => if v14 = 0 then some 6 else some 5) : Option (Int32)).bind fun q17 => some q17 else (cV h 12 (some th) fun a24 => s_X12_meantBy N h a24 a0).bind fun v18 => ((if v18 < 0 then (cV h 12 (some th) fun a22 => s_X12_standsIn N h a22 a0).bind fun v20 => if 3 ≤ v20 then some 6 else some 4 else some 3) : Option (Int32)).bind fun q23 => some q23 else (cV h 12 (some th) fun a29 => s_X12_isDupe N h a29 a0).bind fun v26 => ((if v26 = 0 then some 0 else some 1) : Option (Int32)).bind fun q28 => some q28
set_option maxHeartbeats 4000000 in
set_option maxRecDepth 100000 in
theorem c_X12_whyOf {l : Launch} {D : va_G} {cy : Nat → ClassId} {sz N : Nat} {h : IH} {th : Nat} {a0 : Int32} {qF : Int32} (hs : s_X12_whyOf N h th a0 = some qF) : Ct l D cy yX12_whyOf cX12_whyOf 2 (some .int) rm_X12_whyOf h sz [.ref th, .int a0] h (some (.int qF)) := by
  refine ct_start (by decide +kernel) [(0, .ref th), (1, .int a0)] (Nat.le_of_ble_eq_true rfl) rfl ?_
  intro p e s m args below meth c A H0 ls F hin hsz M hl
  obtain ⟨hx, hb, hr, hml, hown, hlk, hts, hK, hN, hA, hH⟩ := id F
  generalize s.heap = H at M ⊢
  generalize ([] : List Loc) = locs at M ⊢
  unfold s_X12_whyOf at hs
  refine lv_aload_n hx hb dX12_whyOf_0 rfl (lv_at hl 0 rfl) ?_
  obtain ⟨v1, g_v1, hs⟩ := bd hs
  refine ro_gR F M fg_12_19 t_1025 g_v1 dX12_whyOf_1 ?_
  refine lv_iload_n hx hb dX12_whyOf_4 rfl (lv_at hl 1 rfl) ?_
  obtain ⟨v2, g_v2, hs⟩ := bd hs
  refine ro_aI F M g_v2 dX12_whyOf_5 ?_
  refine lv_if_lt (tgt := 23) hx hb dX12_whyOf_6 (by decide) (fun c3 => ?_) (fun c3 => ?_)
  · rw [if_pos c3] at hs
    refine lv_aload_n hx hb dX12_whyOf_23 rfl (lv_at hl 0 rfl) ?_
    refine lv_iload_n hx hb dX12_whyOf_24 rfl (lv_at hl 1 rfl) ?_
    obtain ⟨v4, g_v4, hs⟩ := bd hs
    obtain ⟨a25, e_a25, k_a25, g_v4⟩ := cV_some g_v4
    obtain rfl := Option.some.inj e_a25
    refine ca_Vi (bq := th) (As := [.int a0]) (rest := []) F M (c_X12_isWhole g_v4) mf_X12_isWhole t_1376 k_a25 rfl ⟨by decide, by decide⟩ ⟨rfl, rfl⟩ ⟨Nat.zero_le _, Nat.zero_le _⟩ hl.1 rfl (by decide) dX12_whyOf_25 (fun H locs M => ?_)
    refine lv_if_ne (tgt := 33) hx hb dX12_whyOf_28 (by decide) (fun c5 => ?_) (fun c5 => ?_)
    · rw [if_neg c5] at hs
      refine lv_aload_n hx hb dX12_whyOf_33 rfl (lv_at hl 0 rfl) ?_
      obtain ⟨v6, g_v6, hs⟩ := bd hs
      refine ro_gR F M fg_12_18 t_1024 g_v6 dX12_whyOf_34 ?_
      refine lv_iload_n hx hb dX12_whyOf_37 rfl (lv_at hl 1 rfl) ?_
      obtain ⟨v7, g_v7, hs⟩ := bd hs
      refine ro_aI F M g_v7 dX12_whyOf_38 ?_
      refine lv_if_ge (tgt := 70) hx hb dX12_whyOf_39 (by decide) (fun c8 => ?_) (fun c8 => ?_)
      · rw [if_pos c8] at hs
        refine lv_aload_n hx hb dX12_whyOf_70 rfl (lv_at hl 0 rfl) ?_
        obtain ⟨v9, g_v9, hs⟩ := bd hs
        refine ro_gR F M fg_12_18 t_1024 g_v9 dX12_whyOf_71 ?_
        refine lv_iload_n hx hb dX12_whyOf_74 rfl (lv_at hl 1 rfl) ?_
        obtain ⟨v10, g_v10, hs⟩ := bd hs
        refine ro_aI F M g_v10 dX12_whyOf_75 ?_
        refine lv_iload_n hx hb dX12_whyOf_76 rfl (lv_at hl 1 rfl) ?_
        refine lv_bipush (v := 48) hx hb dX12_whyOf_77 (by decide) ?_
        refine lv_idiv hx hb dX12_whyOf_79 (by decide) ?_
        obtain ⟨q17, hsq17, hs⟩ := bd hs
        have KJ102 : ∀ (ls : Array Slot) (H : Heap) (locs : List Loc), lv_has ls 2 [] → Mo D cy A H0 h H locs → W p l e rm_X12_whyOf s m args below meth c H locs 0 0 (MQ below (QR D cy h A (some (.int qF))) args s 0 0 A) (F0 m 102 ls [.int q17]) := by
          intro ls H locs hl M
          obtain rfl := Option.some.inj hs
          exact re_i F M dX12_whyOf_102
        clear hs
        have hs := hsq17
        refine lv_icmp_eq (tgt := 100) hx hb dX12_whyOf_80 (by decide) (fun c11 => ?_) (fun c11 => ?_)
        · rw [if_pos c11] at hs
          refine lv_bipush (v := 6) hx hb dX12_whyOf_100 (by decide) ?_
          obtain rfl := Option.some.inj hs
          exact KJ102 _ _ _ (lv_sub hl [] rfl) M
        · rw [if_neg c11] at hs
          refine lv_aload_n hx hb dX12_whyOf_83 rfl (lv_at hl 0 rfl) ?_
          refine lv_aload_n hx hb dX12_whyOf_84 rfl (lv_at hl 0 rfl) ?_
          obtain ⟨v12, g_v12, hs⟩ := bd hs
          refine ro_gR F M fg_12_18 t_1024 g_v12 dX12_whyOf_85 ?_
          refine lv_iload_n hx hb dX12_whyOf_88 rfl (lv_at hl 1 rfl) ?_
          obtain ⟨v13, g_v13, hs⟩ := bd hs
          refine ro_aI F M g_v13 dX12_whyOf_89 ?_
          obtain ⟨v14, g_v14, hs⟩ := bd hs
          obtain ⟨a16, e_a16, k_a16, g_v14⟩ := cV_some g_v14
          obtain rfl := Option.some.inj e_a16
          refine ca_Vi (bq := th) (As := [.int v13]) (rest := []) F M (c_X12_hasLog g_v14) mf_X12_hasLog t_1356 k_a16 rfl ⟨by decide, by decide⟩ ⟨rfl, rfl⟩ ⟨Nat.zero_le _, Nat.zero_le _⟩ hl.1 rfl (by decide) dX12_whyOf_90 (fun H locs M => ?_)
          refine lv_if_eq (tgt := 100) hx hb dX12_whyOf_93 (by decide) (fun c15 => ?_) (fun c15 => ?_)
          · rw [if_pos c15] at hs
            refine lv_bipush (v := 6) hx hb dX12_whyOf_100 (by decide) ?_
            obtain rfl := Option.some.inj hs
            exact KJ102 _ _ _ (lv_sub hl [] rfl) M
          · rw [if_neg c15] at hs
            refine lv_iconst (v := 5) hx hb dX12_whyOf_96 (by decide) ?_
            refine lv_goto (tgt := 102) hx hb dX12_whyOf_97 (by decide) ?_
            obtain rfl := Option.some.inj hs
            exact KJ102 _ _ _ (lv_sub hl [] rfl) M
      · rw [if_neg c8] at hs
        refine lv_aload_n hx hb dX12_whyOf_42 rfl (lv_at hl 0 rfl) ?_
        refine lv_iload_n hx hb dX12_whyOf_43 rfl (lv_at hl 1 rfl) ?_
        obtain ⟨v18, g_v18, hs⟩ := bd hs
        obtain ⟨a24, e_a24, k_a24, g_v18⟩ := cV_some g_v18
        obtain rfl := Option.some.inj e_a24
        refine ca_Vi (bq := th) (As := [.int a0]) (rest := []) F M (c_X12_meantBy g_v18) mf_X12_meantBy t_1459 k_a24 rfl ⟨by decide, by decide⟩ ⟨rfl, rfl⟩ ⟨Nat.zero_le _, Nat.zero_le _⟩ hl.1 rfl (by decide) dX12_whyOf_44 (fun H locs M => ?_)
        obtain ⟨q23, hsq23, hs⟩ := bd hs
        have KJ69 : ∀ (ls : Array Slot) (H : Heap) (locs : List Loc), lv_has ls 2 [] → Mo D cy A H0 h H locs → W p l e rm_X12_whyOf s m args below meth c H locs 0 0 (MQ below (QR D cy h A (some (.int qF))) args s 0 0 A) (F0 m 69 ls [.int q23]) := by
          intro ls H locs hl M
          obtain rfl := Option.some.inj hs
          exact re_i F M dX12_whyOf_69
        clear hs
        have hs := hsq23
        refine lv_if_lt (tgt := 54) hx hb dX12_whyOf_47 (by decide) (fun c19 => ?_) (fun c19 => ?_)
        · rw [if_pos c19] at hs
          refine lv_aload_n hx hb dX12_whyOf_54 rfl (lv_at hl 0 rfl) ?_
          refine lv_iload_n hx hb dX12_whyOf_55 rfl (lv_at hl 1 rfl) ?_
          obtain ⟨v20, g_v20, hs⟩ := bd hs
          obtain ⟨a22, e_a22, k_a22, g_v20⟩ := cV_some g_v20
          obtain rfl := Option.some.inj e_a22
          refine ca_Vi (bq := th) (As := [.int a0]) (rest := []) F M (c_X12_standsIn g_v20) mf_X12_standsIn t_1467 k_a22 rfl ⟨by decide, by decide⟩ ⟨rfl, rfl⟩ ⟨Nat.zero_le _, Nat.zero_le _⟩ hl.1 rfl (by decide) dX12_whyOf_56 (fun H locs M => ?_)
          refine lv_iconst (v := 3) hx hb dX12_whyOf_59 (by decide) ?_
          refine lv_icmp_ge (tgt := 67) hx hb dX12_whyOf_60 (by decide) (fun c21 => ?_) (fun c21 => ?_)
          · rw [if_pos c21] at hs
            refine lv_bipush (v := 6) hx hb dX12_whyOf_67 (by decide) ?_
            obtain rfl := Option.some.inj hs
            exact KJ69 _ _ _ (lv_sub hl [] rfl) M
          · rw [if_neg c21] at hs
            refine lv_iconst (v := 4) hx hb dX12_whyOf_63 (by decide) ?_
            refine lv_goto (tgt := 69) hx hb dX12_whyOf_64 (by decide) ?_
            obtain rfl := Option.some.inj hs
            exact KJ69 _ _ _ (lv_sub hl [] rfl) M
        · rw [if_neg c19] at hs
          refine lv_iconst (v := 3) hx hb dX12_whyOf_50 (by decide) ?_
          refine lv_goto (tgt := 69) hx hb dX12_whyOf_51 (by decide) ?_
          obtain rfl := Option.some.inj hs
          exact KJ69 _ _ _ (lv_sub hl [] rfl) M
    · rw [if_pos c5] at hs
      refine lv_iconst (v := 2) hx hb dX12_whyOf_31 (by decide) ?_
      obtain rfl := Option.some.inj hs
      exact re_i F M dX12_whyOf_32
  · rw [if_neg c3] at hs
    refine lv_aload_n hx hb dX12_whyOf_9 rfl (lv_at hl 0 rfl) ?_
    refine lv_iload_n hx hb dX12_whyOf_10 rfl (lv_at hl 1 rfl) ?_
    obtain ⟨v26, g_v26, hs⟩ := bd hs
    obtain ⟨a29, e_a29, k_a29, g_v26⟩ := cV_some g_v26
    obtain rfl := Option.some.inj e_a29
    refine ca_Vi (bq := th) (As := [.int a0]) (rest := []) F M (c_X12_isDupe g_v26) mf_X12_isDupe t_1455 k_a29 rfl ⟨by decide, by decide⟩ ⟨rfl, rfl⟩ ⟨Nat.zero_le _, Nat.zero_le _⟩ hl.1 rfl (by decide) dX12_whyOf_11 (fun H locs M => ?_)
    obtain ⟨q28, hsq28, hs⟩ := bd hs
    have KJ22 : ∀ (ls : Array Slot) (H : Heap) (locs : List Loc), lv_has ls 2 [] → Mo D cy A H0 h H locs → W p l e rm_X12_whyOf s m args below meth c H locs 0 0 (MQ below (QR D cy h A (some (.int qF))) args s 0 0 A) (F0 m 22 ls [.int q28]) := by
      intro ls H locs hl M
      obtain rfl := Option.some.inj hs
      exact re_i F M dX12_whyOf_22
    clear hs
    have hs := hsq28
    refine lv_if_eq (tgt := 21) hx hb dX12_whyOf_14 (by decide) (fun c27 => ?_) (fun c27 => ?_)
    · rw [if_pos c27] at hs
      refine lv_iconst (v := 0) hx hb dX12_whyOf_21 (by decide) ?_
      obtain rfl := Option.some.inj hs
      exact KJ22 _ _ _ (lv_sub hl [] rfl) M
    · rw [if_neg c27] at hs
      refine lv_iconst (v := 1) hx hb dX12_whyOf_17 (by decide) ?_
      refine lv_goto (tgt := 22) hx hb dX12_whyOf_18 (by decide) ?_
      obtain rfl := Option.some.inj hs
      exact KJ22 _ _ _ (lv_sub hl [] rfl) M
abbrev rm_X12_why : Room := { frames := 7, cells := 0, slots := 0, locals := 177 }
theorem mf_X12_why : MV 12 yX12_why cX12_why 5 (some .int) 3 RX12 := ⟨t_1450, t_1448, t_1449, t_12, ⟨by decide +kernel, by decide +kernel, by decide +kernel⟩, rfl, by decide⟩
def s_X12_why (N : Nat) (h : IH) (th : Nat) (a0 : Int32) (a1 : Int32) (a2 : Int32) : Option (Int32 × IH) := (cV h 12 (some th) fun a11 => s_X12_begin N h a11 a0).bind fun v1 => (cV v1 12 (some th) fun a10 => s_X12_reasonOfContact v1 a10 a0 a1 a2).bind fun v2 => ((if v2 ≤ 0 then (s_X12_entryAt v1 a0 a1 a2).bind fun v4 => (cV v1 12 (some th) fun a6 => s_X12_whyOf N v1 a6 v4).bind fun v5 => some (v5, v1) else (cV v1 12 (some th) fun a8 => s_X12_found v1 a8 v2).bind fun v7 => some (v7.1, v7.2)) : Option (Int32 × IH)).bind fun q9 => some (q9.1, q9.2)
set_option maxHeartbeats 4000000 in
set_option maxRecDepth 100000 in
theorem c_X12_why {l : Launch} {D : va_G} {cy : Nat → ClassId} {sz N : Nat} {h : IH} {th : Nat} {a0 : Int32} {a1 : Int32} {a2 : Int32} {qF : Int32 × IH} (hs : s_X12_why N h th a0 a1 a2 = some qF) : Ct l D cy yX12_why cX12_why 5 (some .int) rm_X12_why h sz [.ref th, .int a0, .int a1, .int a2] qF.2 (some (.int qF.1)) := by
  refine ct_start (by decide +kernel) [(0, .ref th), (1, .int a0), (2, .int a1), (3, .int a2)] (Nat.le_of_ble_eq_true rfl) rfl ?_
  intro p e s m args below meth c A H0 ls F hin hsz M hl
  obtain ⟨hx, hb, hr, hml, hown, hlk, hts, hK, hN, hA, hH⟩ := id F
  generalize s.heap = H at M ⊢
  generalize ([] : List Loc) = locs at M ⊢
  unfold s_X12_why at hs
  refine lv_aload_n hx hb dX12_why_0 rfl (lv_at hl 0 rfl) ?_
  refine lv_iload_n hx hb dX12_why_1 rfl (lv_at hl 1 rfl) ?_
  obtain ⟨v1, g_v1, hs⟩ := bd hs
  obtain ⟨a11, e_a11, k_a11, g_v1⟩ := cV_some g_v1
  obtain rfl := Option.some.inj e_a11
  refine ca_Vv (bq := th) (As := [.int a0]) (rest := []) F M (c_X12_begin g_v1) mf_X12_begin t_1340 k_a11 rfl ⟨by decide, by decide⟩ ⟨rfl, rfl⟩ ⟨Nat.zero_le _, Nat.zero_le _⟩ hl.1 rfl (by decide) dX12_why_2 (fun H locs M => ?_)
  refine lv_aload_n hx hb dX12_why_5 rfl (lv_at hl 0 rfl) ?_
  refine lv_iload_n hx hb dX12_why_6 rfl (lv_at hl 1 rfl) ?_
  refine lv_iload_n hx hb dX12_why_7 rfl (lv_at hl 2 rfl) ?_
  refine lv_iload_n hx hb dX12_why_8 rfl (lv_at hl 3 rfl) ?_
  obtain ⟨v2, g_v2, hs⟩ := bd hs
  obtain ⟨a10, e_a10, k_a10, g_v2⟩ := cV_some g_v2
  obtain rfl := Option.some.inj e_a10
  refine ca_Vi (bq := th) (As := [.int a0, .int a1, .int a2]) (rest := []) F M (c_X12_reasonOfContact g_v2) mf_X12_reasonOfContact t_1431 k_a10 rfl ⟨by decide, by decide⟩ ⟨rfl, rfl⟩ ⟨Nat.zero_le _, Nat.zero_le _⟩ hl.1 rfl (by decide) dX12_why_9 (fun H locs M => ?_)
  refine lv_istore (i := 4) (lv' := [(4, .int v2), (0, .ref th), (1, .int a0), (2, .int a1), (3, .int a2)]) hx hb dX12_why_12 hl (by decide) rfl (fun ls hl => ?_)
  refine lv_iload hx hb dX12_why_14 (lv_at hl 0 rfl) ?_
  obtain ⟨q9, hsq9, hs⟩ := bd hs
  have KJ38 : ∀ (ls : Array Slot) (H : Heap) (locs : List Loc), lv_has ls 5 [] → Mo D cy A H0 q9.2 H locs → W p l e rm_X12_why s m args below meth c H locs 0 0 (MQ below (QR D cy qF.2 A (some (.int qF.1))) args s 0 0 A) (F0 m 38 ls [.int q9.1]) := by
    intro ls H locs hl M
    obtain rfl := Option.some.inj hs
    exact re_i F M dX12_why_38
  clear hs
  have hs := hsq9
  refine lv_if_le (tgt := 28) hx hb dX12_why_16 (by decide) (fun c3 => ?_) (fun c3 => ?_)
  · rw [if_pos c3] at hs
    refine lv_aload_n hx hb dX12_why_28 rfl (lv_at hl 1 rfl) ?_
    refine lv_iload_n hx hb dX12_why_29 rfl (lv_at hl 2 rfl) ?_
    refine lv_iload_n hx hb dX12_why_30 rfl (lv_at hl 3 rfl) ?_
    refine lv_iload_n hx hb dX12_why_31 rfl (lv_at hl 4 rfl) ?_
    obtain ⟨v4, g_v4, hs⟩ := bd hs
    refine ca_Si (As := [.int a0, .int a1, .int a2]) (rest := [.ref th]) F M (c_X12_entryAt g_v4) mf_X12_entryAt t_1420 rfl ⟨by decide, by decide⟩ ⟨rfl, rfl⟩ ⟨Nat.zero_le _, Nat.zero_le _⟩ hl.1 rfl (by simp [cat_rf, cat_i, cat_j, cat_r]) dX12_why_32 (fun H locs M => ?_)
    obtain ⟨v5, g_v5, hs⟩ := bd hs
    obtain ⟨a6, e_a6, k_a6, g_v5⟩ := cV_some g_v5
    obtain rfl := Option.some.inj e_a6
    refine ca_Vi (bq := th) (As := [.int v4]) (rest := []) F M (c_X12_whyOf g_v5) mf_X12_whyOf t_1451 k_a6 rfl ⟨by decide, by decide⟩ ⟨rfl, rfl⟩ ⟨Nat.zero_le _, Nat.zero_le _⟩ hl.1 rfl (by decide) dX12_why_35 (fun H locs M => ?_)
    obtain rfl := Option.some.inj hs
    exact KJ38 _ _ _ (lv_sub hl [] rfl) M
  · rw [if_neg c3] at hs
    refine lv_aload_n hx hb dX12_why_19 rfl (lv_at hl 1 rfl) ?_
    refine lv_iload hx hb dX12_why_20 (lv_at hl 0 rfl) ?_
    obtain ⟨v7, g_v7, hs⟩ := bd hs
    obtain ⟨a8, e_a8, k_a8, g_v7⟩ := cV_some g_v7
    obtain rfl := Option.some.inj e_a8
    refine ca_Vi (bq := th) (As := [.int v2]) (rest := []) F M (c_X12_found g_v7) mf_X12_found t_1408 k_a8 rfl ⟨by decide, by decide⟩ ⟨rfl, rfl⟩ ⟨Nat.zero_le _, Nat.zero_le _⟩ hl.1 rfl (by decide) dX12_why_22 (fun H locs M => ?_)
    refine lv_goto (tgt := 38) hx hb dX12_why_25 (by decide) ?_
    obtain rfl := Option.some.inj hs
    exact KJ38 _ _ _ (lv_sub hl [] rfl) M
abbrev rm_X12_meant : Room := { frames := 7, cells := 0, slots := 0, locals := 177 }
theorem mf_X12_meant : MV 12 yX12_meant cX12_meant 6 (some .int) 3 RX12 := ⟨t_1478, t_1476, t_1477, t_12, ⟨by decide +kernel, by decide +kernel, by decide +kernel⟩, rfl, by decide⟩
def s_X12_meant (N : Nat) (h : IH) (th : Nat) (a0 : Int32) (a1 : Int32) (a2 : Int32) : Option (Int32 × IH) := (cV h 12 (some th) fun a14 => s_X12_begin N h a14 a0).bind fun v1 => (cV v1 12 (some th) fun a13 => s_X12_reasonOfContact v1 a13 a0 a1 a2).bind fun v2 => if v2 ≤ 0 then (s_X12_entryAt v1 a0 a1 a2).bind fun v4 => (cV v1 12 (some th) fun a10 => s_X12_whyOf N v1 a10 v4).bind fun v5 => ((if v5 = 3 then (cV v1 12 (some th) fun a8 => s_X12_meantBy N v1 a8 v4).bind fun v7 => some v7 else some (-1)) : Option (Int32)).bind fun q9 => some (q9, v1) else (cV v1 12 (some th) fun a12 => s_X12_found v1 a12 v2).bind fun v11 => some (v11.1, v11.2)
set_option maxHeartbeats 4000000 in
set_option maxRecDepth 100000 in
theorem c_X12_meant {l : Launch} {D : va_G} {cy : Nat → ClassId} {sz N : Nat} {h : IH} {th : Nat} {a0 : Int32} {a1 : Int32} {a2 : Int32} {qF : Int32 × IH} (hs : s_X12_meant N h th a0 a1 a2 = some qF) : Ct l D cy yX12_meant cX12_meant 6 (some .int) rm_X12_meant h sz [.ref th, .int a0, .int a1, .int a2] qF.2 (some (.int qF.1)) := by
  refine ct_start (by decide +kernel) [(0, .ref th), (1, .int a0), (2, .int a1), (3, .int a2)] (Nat.le_of_ble_eq_true rfl) rfl ?_
  intro p e s m args below meth c A H0 ls F hin hsz M hl
  obtain ⟨hx, hb, hr, hml, hown, hlk, hts, hK, hN, hA, hH⟩ := id F
  generalize s.heap = H at M ⊢
  generalize ([] : List Loc) = locs at M ⊢
  unfold s_X12_meant at hs
  refine lv_aload_n hx hb dX12_meant_0 rfl (lv_at hl 0 rfl) ?_
  refine lv_iload_n hx hb dX12_meant_1 rfl (lv_at hl 1 rfl) ?_
  obtain ⟨v1, g_v1, hs⟩ := bd hs
  obtain ⟨a14, e_a14, k_a14, g_v1⟩ := cV_some g_v1
  obtain rfl := Option.some.inj e_a14
  refine ca_Vv (bq := th) (As := [.int a0]) (rest := []) F M (c_X12_begin g_v1) mf_X12_begin t_1340 k_a14 rfl ⟨by decide, by decide⟩ ⟨rfl, rfl⟩ ⟨Nat.zero_le _, Nat.zero_le _⟩ hl.1 rfl (by decide) dX12_meant_2 (fun H locs M => ?_)
  refine lv_aload_n hx hb dX12_meant_5 rfl (lv_at hl 0 rfl) ?_
  refine lv_iload_n hx hb dX12_meant_6 rfl (lv_at hl 1 rfl) ?_
  refine lv_iload_n hx hb dX12_meant_7 rfl (lv_at hl 2 rfl) ?_
  refine lv_iload_n hx hb dX12_meant_8 rfl (lv_at hl 3 rfl) ?_
  obtain ⟨v2, g_v2, hs⟩ := bd hs
  obtain ⟨a13, e_a13, k_a13, g_v2⟩ := cV_some g_v2
  obtain rfl := Option.some.inj e_a13
  refine ca_Vi (bq := th) (As := [.int a0, .int a1, .int a2]) (rest := []) F M (c_X12_reasonOfContact g_v2) mf_X12_reasonOfContact t_1431 k_a13 rfl ⟨by decide, by decide⟩ ⟨rfl, rfl⟩ ⟨Nat.zero_le _, Nat.zero_le _⟩ hl.1 rfl (by decide) dX12_meant_9 (fun H locs M => ?_)
  refine lv_istore (i := 4) (lv' := [(4, .int v2), (0, .ref th), (1, .int a0), (2, .int a1), (3, .int a2)]) hx hb dX12_meant_12 hl (by decide) rfl (fun ls hl => ?_)
  refine lv_iload hx hb dX12_meant_14 (lv_at hl 0 rfl) ?_
  refine lv_if_le (tgt := 26) hx hb dX12_meant_16 (by decide) (fun c3 => ?_) (fun c3 => ?_)
  · rw [if_pos c3] at hs
    refine lv_iload_n hx hb dX12_meant_26 rfl (lv_at hl 2 rfl) ?_
    refine lv_iload_n hx hb dX12_meant_27 rfl (lv_at hl 3 rfl) ?_
    refine lv_iload_n hx hb dX12_meant_28 rfl (lv_at hl 4 rfl) ?_
    obtain ⟨v4, g_v4, hs⟩ := bd hs
    refine ca_Si (As := [.int a0, .int a1, .int a2]) (rest := []) F M (c_X12_entryAt g_v4) mf_X12_entryAt t_1420 rfl ⟨by decide, by decide⟩ ⟨rfl, rfl⟩ ⟨Nat.zero_le _, Nat.zero_le _⟩ hl.1 rfl (by decide) dX12_meant_29 (fun H locs M => ?_)
    refine lv_istore (i := 5) (lv' := [(5, .int v4), (4, .int v2), (0, .ref th), (1, .int a0), (2, .int a1), (3, .int a2)]) hx hb dX12_meant_32 hl (by decide) rfl (fun ls hl => ?_)
    refine lv_aload_n hx hb dX12_meant_34 rfl (lv_at hl 2 rfl) ?_
    refine lv_iload hx hb dX12_meant_35 (lv_at hl 0 rfl) ?_
    obtain ⟨v5, g_v5, hs⟩ := bd hs
    obtain ⟨a10, e_a10, k_a10, g_v5⟩ := cV_some g_v5
    obtain rfl := Option.some.inj e_a10
    refine ca_Vi (bq := th) (As := [.int v4]) (rest := []) F M (c_X12_whyOf g_v5) mf_X12_whyOf t_1451 k_a10 rfl ⟨by decide, by decide⟩ ⟨rfl, rfl⟩ ⟨Nat.zero_le _, Nat.zero_le _⟩ hl.1 rfl (by decide) dX12_meant_37 (fun H locs M => ?_)
    refine lv_iconst (v := 3) hx hb dX12_meant_40 (by decide) ?_
    obtain ⟨q9, hsq9, hs⟩ := bd hs
    have KJ54 : ∀ (ls : Array Slot) (H : Heap) (locs : List Loc), lv_has ls 6 [] → Mo D cy A H0 v1 H locs → W p l e rm_X12_meant s m args below meth c H locs 0 0 (MQ below (QR D cy qF.2 A (some (.int qF.1))) args s 0 0 A) (F0 m 54 ls [.int q9]) := by
      intro ls H locs hl M
      obtain rfl := Option.some.inj hs
      exact re_i F M dX12_meant_54
    clear hs
    have hs := hsq9
    refine lv_icmp_ne (tgt := 53) hx hb dX12_meant_41 (by decide) (fun c6 => ?_) (fun c6 => ?_)
    · rw [if_neg c6] at hs
      refine lv_iconst (v := (-1)) hx hb dX12_meant_53 (by decide) ?_
      obtain rfl := Option.some.inj hs
      exact KJ54 _ _ _ (lv_sub hl [] rfl) M
    · rw [if_pos c6] at hs
      refine lv_aload_n hx hb dX12_meant_44 rfl (lv_at hl 2 rfl) ?_
      refine lv_iload hx hb dX12_meant_45 (lv_at hl 0 rfl) ?_
      obtain ⟨v7, g_v7, hs⟩ := bd hs
      obtain ⟨a8, e_a8, k_a8, g_v7⟩ := cV_some g_v7
      obtain rfl := Option.some.inj e_a8
      refine ca_Vi (bq := th) (As := [.int v4]) (rest := []) F M (c_X12_meantBy g_v7) mf_X12_meantBy t_1459 k_a8 rfl ⟨by decide, by decide⟩ ⟨rfl, rfl⟩ ⟨Nat.zero_le _, Nat.zero_le _⟩ hl.1 rfl (by decide) dX12_meant_47 (fun H locs M => ?_)
      refine lv_goto (tgt := 54) hx hb dX12_meant_50 (by decide) ?_
      obtain rfl := Option.some.inj hs
      exact KJ54 _ _ _ (lv_sub hl [] rfl) M
  · rw [if_neg c3] at hs
    refine lv_aload_n hx hb dX12_meant_19 rfl (lv_at hl 1 rfl) ?_
    refine lv_iload hx hb dX12_meant_20 (lv_at hl 0 rfl) ?_
    obtain ⟨v11, g_v11, hs⟩ := bd hs
    obtain ⟨a12, e_a12, k_a12, g_v11⟩ := cV_some g_v11
    obtain rfl := Option.some.inj e_a12
    refine ca_Vi (bq := th) (As := [.int v2]) (rest := []) F M (c_X12_found g_v11) mf_X12_found t_1408 k_a12 rfl ⟨by decide, by decide⟩ ⟨rfl, rfl⟩ ⟨Nat.zero_le _, Nat.zero_le _⟩ hl.1 rfl (by decide) dX12_meant_22 (fun H locs M => ?_)
    obtain rfl := Option.some.inj hs
    exact re_i F M dX12_meant_25
abbrev rm_X12_distance : Room := { frames := 0, cells := 0, slots := 0, locals := 0 }
theorem mf_X12_distance : MV 12 yX12_distance cX12_distance 4 (some .int) 0 RX12 := ⟨t_1494, t_1493, tS_117, t_12, ⟨by decide +kernel, by decide +kernel, by decide +kernel⟩, rfl, by decide⟩
def s_X12_distance_L42 (N : Nat) : Nat → Int32 → Int32 → Int32 → IH → Option (Int32)
  | 0, _, _, _, _ => none
  | n + 1, x1, x2, x3, h => if ((x1 * x1) + (x2 * x2)) < ((x3 + 1) * (x3 + 1)) then some x3 else s_X12_distance_L42 N n x1 x2 (x3 + 1) h
def s_X12_distance (N : Nat) (h : IH) (th : Nat) : Option (Int32) := (gR h 12 4 (some th)).bind fun v1 => (gI h 12 53 (some th)).bind fun v2 => (aI h v1 v2).bind fun v3 => (gR h 12 4 (some th)).bind fun v4 => (gI h 12 54 (some th)).bind fun v5 => (aI h v4 v5).bind fun v6 => (gR h 12 5 (some th)).bind fun v7 => (gI h 12 53 (some th)).bind fun v8 => (aI h v7 v8).bind fun v9 => (gR h 12 5 (some th)).bind fun v10 => (gI h 12 54 (some th)).bind fun v11 => (aI h v10 v11).bind fun v12 => (s_X12_distance_L42 N N (v3 - v6) (v9 - v12) 0 h).bind fun q14 => some q14
set_option maxHeartbeats 4000000 in
set_option maxRecDepth 100000 in
theorem w_X12_distance_L42 {p : Program} {l : Launch} {e : Env} {s : State} {m : MethodId} {args : Array Value} {below : List Frame} {meth : Method} {c : Code} {D : va_G} {cy : Nat → ClassId} {A : Nat → Prop} {H0 : Heap} {N : Nat} {x1 : Int32} {x2 : Int32} {h : IH} {qF : Int32} (F : Fx p s m args meth c D cy A H0 yX12_distance cX12_distance 4 (some .int)) : ∀ (n : Nat) (x3 : Int32) (ls : Array Slot) (H : Heap) (locs : List Loc) (q : Int32), s_X12_distance_L42 N n x1 x2 x3 h = some q → lv_has ls 4 [(1, .int x1), (2, .int x2), (3, .int x3)] → Mo D cy A H0 h H locs → (∀ (t : Int32) (ls : Array Slot) (H : Heap) (locs : List Loc), q = t → lv_has ls 4 [(3, .int t)] → Mo D cy A H0 h H locs → W p l e rm_X12_distance s m args below meth c H locs 0 0 (MQ below (QR D cy h A (some (.int qF))) args s 0 0 A) (F0 m 65 ls [])) → (∀ v : Int32, False → v = qF) → W p l e rm_X12_distance s m args below meth c H locs 0 0 (MQ below (QR D cy h A (some (.int qF))) args s 0 0 A) (F0 m 42 ls []) := by
  intro n
  induction n with
  | zero => intro x3 ls H locs q hs; rw [s_X12_distance_L42.eq_1] at hs; cases hs
  | succ n ih =>
    intro x3 ls H locs q hs hl M kx kr
    obtain ⟨hx, hb, hr, hml, hown, hlk, hts, hK, hN, hA, hH⟩ := id F
    rw [s_X12_distance_L42.eq_2] at hs
    refine lv_iload_n hx hb dX12_distance_42 rfl (lv_at hl 2 rfl) ?_
    refine lv_iconst (v := 1) hx hb dX12_distance_43 (by decide) ?_
    refine lv_iadd hx hb dX12_distance_44 ?_
    refine lv_iload_n hx hb dX12_distance_45 rfl (lv_at hl 2 rfl) ?_
    refine lv_iconst (v := 1) hx hb dX12_distance_46 (by decide) ?_
    refine lv_iadd hx hb dX12_distance_47 ?_
    refine lv_imul hx hb dX12_distance_48 ?_
    refine lv_iload_n hx hb dX12_distance_49 rfl (lv_at hl 0 rfl) ?_
    refine lv_iload_n hx hb dX12_distance_50 rfl (lv_at hl 0 rfl) ?_
    refine lv_imul hx hb dX12_distance_51 ?_
    refine lv_iload_n hx hb dX12_distance_52 rfl (lv_at hl 1 rfl) ?_
    refine lv_iload_n hx hb dX12_distance_53 rfl (lv_at hl 1 rfl) ?_
    refine lv_imul hx hb dX12_distance_54 ?_
    refine lv_iadd hx hb dX12_distance_55 ?_
    refine lv_icmp_gt (tgt := 65) hx hb dX12_distance_56 (by decide) (fun c13 => ?_) (fun c13 => ?_)
    · rw [if_pos c13] at hs
      exact kx x3 _ _ _ (Option.some.inj hs).symm (lv_sub hl [2] rfl) M
    · rw [if_neg c13] at hs
      refine lv_iinc (v := x3 + 1) (lv' := [(3, .int (x3 + 1)), (1, .int x1), (2, .int x2)]) hx hb dX12_distance_59 hl (k := 2) rfl rfl (by decide) rfl (fun ls hl => ?_)
      refine lv_goto (tgt := 42) hx hb dX12_distance_62 (by decide) ?_
      exact ih (x3 + 1) _ _ _ _ hs (lv_sub hl [1, 2, 0] rfl) M kx kr
set_option maxHeartbeats 4000000 in
set_option maxRecDepth 100000 in
theorem c_X12_distance {l : Launch} {D : va_G} {cy : Nat → ClassId} {sz N : Nat} {h : IH} {th : Nat} {qF : Int32} (hs : s_X12_distance N h th = some qF) : Ct l D cy yX12_distance cX12_distance 4 (some .int) rm_X12_distance h sz [.ref th] h (some (.int qF)) := by
  refine ct_start (by decide +kernel) [(0, .ref th)] (Nat.le_of_ble_eq_true rfl) rfl ?_
  intro p e s m args below meth c A H0 ls F hin hsz M hl
  obtain ⟨hx, hb, hr, hml, hown, hlk, hts, hK, hN, hA, hH⟩ := id F
  generalize s.heap = H at M ⊢
  generalize ([] : List Loc) = locs at M ⊢
  unfold s_X12_distance at hs
  refine lv_aload_n hx hb dX12_distance_0 rfl (lv_at hl 0 rfl) ?_
  obtain ⟨v1, g_v1, hs⟩ := bd hs
  refine ro_gR F M fg_12_4 t_1010 g_v1 dX12_distance_1 ?_
  refine lv_aload_n hx hb dX12_distance_4 rfl (lv_at hl 0 rfl) ?_
  obtain ⟨v2, g_v2, hs⟩ := bd hs
  refine ro_gI F M fg_12_53 t_1059 g_v2 dX12_distance_5 ?_
  obtain ⟨v3, g_v3, hs⟩ := bd hs
  refine ro_aI F M g_v3 dX12_distance_8 ?_
  refine lv_aload_n hx hb dX12_distance_9 rfl (lv_at hl 0 rfl) ?_
  obtain ⟨v4, g_v4, hs⟩ := bd hs
  refine ro_gR F M fg_12_4 t_1010 g_v4 dX12_distance_10 ?_
  refine lv_aload_n hx hb dX12_distance_13 rfl (lv_at hl 0 rfl) ?_
  obtain ⟨v5, g_v5, hs⟩ := bd hs
  refine ro_gI F M fg_12_54 t_1060 g_v5 dX12_distance_14 ?_
  obtain ⟨v6, g_v6, hs⟩ := bd hs
  refine ro_aI F M g_v6 dX12_distance_17 ?_
  refine lv_isub hx hb dX12_distance_18 ?_
  refine lv_istore_n (i := 1) (lv' := [(1, .int (v3 - v6)), (0, .ref th)]) hx hb dX12_distance_19 rfl hl (by decide) rfl (fun ls hl => ?_)
  refine lv_aload_n hx hb dX12_distance_20 rfl (lv_at hl 1 rfl) ?_
  obtain ⟨v7, g_v7, hs⟩ := bd hs
  refine ro_gR F M fg_12_5 t_1011 g_v7 dX12_distance_21 ?_
  refine lv_aload_n hx hb dX12_distance_24 rfl (lv_at hl 1 rfl) ?_
  obtain ⟨v8, g_v8, hs⟩ := bd hs
  refine ro_gI F M fg_12_53 t_1059 g_v8 dX12_distance_25 ?_
  obtain ⟨v9, g_v9, hs⟩ := bd hs
  refine ro_aI F M g_v9 dX12_distance_28 ?_
  refine lv_aload_n hx hb dX12_distance_29 rfl (lv_at hl 1 rfl) ?_
  obtain ⟨v10, g_v10, hs⟩ := bd hs
  refine ro_gR F M fg_12_5 t_1011 g_v10 dX12_distance_30 ?_
  refine lv_aload_n hx hb dX12_distance_33 rfl (lv_at hl 1 rfl) ?_
  obtain ⟨v11, g_v11, hs⟩ := bd hs
  refine ro_gI F M fg_12_54 t_1060 g_v11 dX12_distance_34 ?_
  obtain ⟨v12, g_v12, hs⟩ := bd hs
  refine ro_aI F M g_v12 dX12_distance_37 ?_
  refine lv_isub hx hb dX12_distance_38 ?_
  refine lv_istore_n (i := 2) (lv' := [(2, .int (v9 - v12)), (1, .int (v3 - v6)), (0, .ref th)]) hx hb dX12_distance_39 rfl hl (by decide) rfl (fun ls hl => ?_)
  refine lv_iconst (v := 0) hx hb dX12_distance_40 (by decide) ?_
  refine lv_istore_n (i := 3) (lv' := [(3, .int 0), (2, .int (v9 - v12)), (1, .int (v3 - v6)), (0, .ref th)]) hx hb dX12_distance_41 rfl hl (by decide) rfl (fun ls hl => ?_)
  obtain ⟨q14, g_q14, hs⟩ := bd hs
  refine w_X12_distance_L42 F N 0 _ _ _ q14 g_q14 (lv_sub hl [2, 1, 0] rfl) M (fun t_ ls H locs eq_ hl M => ?_) (fun v eq_ => eq_.elim)
  subst eq_
  refine lv_iload_n hx hb dX12_distance_65 rfl (lv_at hl 0 rfl) ?_
  obtain rfl := Option.some.inj hs
  exact re_i F M dX12_distance_66
abbrev rm_X12_rate : Room := { frames := 7, cells := 0, slots := 0, locals := 177 }
theorem mf_X12_rate : MV 12 yX12_rate cX12_rate 9 (some .long) 1 RX12 := ⟨t_1514, t_1512, t_1513, t_12, ⟨by decide +kernel, by decide +kernel, by decide +kernel⟩, rfl, by decide⟩
def s_X12_rate_L53 (N : Nat) : Nat → Nat → Int32 → Int64 → Int64 → Int32 → Int32 → Int32 → IH → Option (Int64 × Int64 × Int32)
  | 0, _, _, _, _, _, _, _, _ => none
  | n + 1, th, x1, x2, x4, x6, x7, x8, h => if ((48 * x1) + 48) ≤ x8 then some (x2, x4, x7) else (cV h 12 (some th) fun a36 => s_X12_isContactAt h a36 x8).bind fun v11 => ((if v11 = 0 then some (x2, x4, x6, x7) else ((if x6 = 0 then (gR h 12 11 (some th)).bind fun v14 => (aJ h v14 x8).bind fun v15 => some v15 else (gR h 12 11 (some th)).bind fun v16 => (aJ h v16 x8).bind fun v17 => if 0 ≤ (lg_cmp v17 x2) then some x2 else (gR h 12 11 (some th)).bind fun v19 => (aJ h v19 x8).bind fun v20 => some v20) : Option (Int64)).bind fun q21 => ((if x6 = 0 then (gR h 12 11 (some th)).bind fun v23 => (aJ h v23 x8).bind fun v24 => some v24 else (gR h 12 11 (some th)).bind fun v25 => (aJ h v25 x8).bind fun v26 => if (lg_cmp v26 x4) ≤ 0 then some x4 else (gR h 12 11 (some th)).bind fun v28 => (aJ h v28 x8).bind fun v29 => some v29) : Option (Int64)).bind fun q30 => (cV h 12 (some th) fun a34 => s_X12_whyOf N h a34 x8).bind fun v31 => ((if v31 = 0 then some 1 else some 0) : Option (Int32)).bind fun q33 => some (q21, q30, x6 + 1, x7 + q33)) : Option (Int64 × Int64 × Int32 × Int32)).bind fun q35 => s_X12_rate_L53 N n th x1 q35.1 q35.2.1 q35.2.2.1 q35.2.2.2 (x8 + 1) h
def s_X12_rate (N : Nat) (h : IH) (th : Nat) (a0 : Int32) : Option (Int64 × IH) := (cV h 12 (some th) fun a45 => s_X12_begin N h a45 a0).bind fun v1 => (cV v1 12 (some th) fun a44 => s_X12_isStation v1 a44 a0).bind fun v2 => if v2 = 0 then (cV v1 12 (some th) fun a5 => s_X12_found v1 a5 4).bind fun v4 => some (v4.1.toInt64, v4.2) else (cV v1 12 (some th) fun a43 => s_X12_hasLog v1 a43 a0).bind fun v6 => if v6 = 0 then (cV v1 12 (some th) fun a9 => s_X12_found v1 a9 7).bind fun v8 => some (v8.1.toInt64, v8.2) else (s_X12_rate_L53 N N th a0 0 0 0 0 (48 * a0) v1).bind fun q37 => ((if (lg_cmp q37.2.1 q37.1) = 0 then (cV v1 12 (some th) fun a40 => s_X12_found v1 a40 5).bind fun v39 => some (v39.1.toInt64, v39.2) else if (q37.2.1 - q37.1) = 0 then none else some ((3600 * q37.2.2.toInt64) / (q37.2.1 - q37.1), v1)) : Option (Int64 × IH)).bind fun q42 => some (q42.1, q42.2)
set_option maxHeartbeats 4000000 in
set_option maxRecDepth 100000 in
theorem w_X12_rate_L53 {p : Program} {l : Launch} {e : Env} {s : State} {m : MethodId} {args : Array Value} {below : List Frame} {meth : Method} {c : Code} {D : va_G} {cy : Nat → ClassId} {A : Nat → Prop} {H0 : Heap} {N th : Nat} {x1 : Int32} {h : IH} {qF : Int64 × IH} (F : Fx p s m args meth c D cy A H0 yX12_rate cX12_rate 9 (some .long)) : ∀ (n : Nat) (x2 : Int64) (x4 : Int64) (x6 : Int32) (x7 : Int32) (x8 : Int32) (ls : Array Slot) (H : Heap) (locs : List Loc) (q : Int64 × Int64 × Int32), s_X12_rate_L53 N n th x1 x2 x4 x6 x7 x8 h = some q → lv_has ls 9 [(0, .ref th), (1, .int x1), (2, .long x2), (4, .long x4), (6, .int x6), (7, .int x7), (8, .int x8)] → Mo D cy A H0 h H locs → (∀ (t : Int64 × Int64 × Int32) (ls : Array Slot) (H : Heap) (locs : List Loc), q = t → lv_has ls 9 [(0, .ref th), (2, .long t.1), (4, .long t.2.1), (7, .int t.2.2)] → Mo D cy A H0 h H locs → W p l e rm_X12_rate s m args below meth c H locs 0 0 (MQ below (QR D cy qF.2 A (some (.long qF.1))) args s 0 0 A) (F0 m 166 ls [])) → (∀ v : Int64 × IH, False → v = qF) → W p l e rm_X12_rate s m args below meth c H locs 0 0 (MQ below (QR D cy qF.2 A (some (.long qF.1))) args s 0 0 A) (F0 m 53 ls []) := by
  intro n
  induction n with
  | zero => intro x2 x4 x6 x7 x8 ls H locs q hs; rw [s_X12_rate_L53.eq_1] at hs; cases hs
  | succ n ih =>
    intro x2 x4 x6 x7 x8 ls H locs q hs hl M kx kr
    obtain ⟨hx, hb, hr, hml, hown, hlk, hts, hK, hN, hA, hH⟩ := id F
    rw [s_X12_rate_L53.eq_2] at hs
    refine lv_iload hx hb dX12_rate_53 (lv_at hl 6 rfl) ?_
    refine lv_bipush (v := 48) hx hb dX12_rate_55 (by decide) ?_
    refine lv_iload_n hx hb dX12_rate_57 rfl (lv_at hl 1 rfl) ?_
    refine lv_imul hx hb dX12_rate_58 ?_
    refine lv_bipush (v := 48) hx hb dX12_rate_59 (by decide) ?_
    refine lv_iadd hx hb dX12_rate_61 ?_
    refine lv_icmp_ge (tgt := 166) hx hb dX12_rate_62 (by decide) (fun c10 => ?_) (fun c10 => ?_)
    · rw [if_pos c10] at hs
      exact kx (x2, x4, x7) _ _ _ (Option.some.inj hs).symm (lv_sub hl [0, 2, 3, 5] rfl) M
    · rw [if_neg c10] at hs
      refine lv_aload_n hx hb dX12_rate_65 rfl (lv_at hl 0 rfl) ?_
      refine lv_iload hx hb dX12_rate_66 (lv_at hl 6 rfl) ?_
      obtain ⟨v11, g_v11, hs⟩ := bd hs
      obtain ⟨a36, e_a36, k_a36, g_v11⟩ := cV_some g_v11
      obtain rfl := Option.some.inj e_a36
      refine ca_Vi (bq := th) (As := [.int x8]) (rest := []) F M (c_X12_isContactAt g_v11) mf_X12_isContactAt t_1352 k_a36 rfl ⟨by decide, by decide⟩ ⟨rfl, rfl⟩ ⟨Nat.zero_le _, Nat.zero_le _⟩ hl.1 rfl (by decide) dX12_rate_68 (fun H locs M => ?_)
      obtain ⟨q35, hsq35, hs⟩ := bd hs
      have KJ160 : ∀ (ls : Array Slot) (H : Heap) (locs : List Loc), lv_has ls 9 [(0, .ref th), (1, .int x1), (2, .long q35.1), (4, .long q35.2.1), (6, .int q35.2.2.1), (7, .int q35.2.2.2), (8, .int x8)] → Mo D cy A H0 h H locs → W p l e rm_X12_rate s m args below meth c H locs 0 0 (MQ below (QR D cy qF.2 A (some (.long qF.1))) args s 0 0 A) (F0 m 160 ls []) := by
        intro ls H locs hl M
        refine lv_iinc (v := x8 + 1) (lv' := [(8, .int (x8 + 1)), (0, .ref th), (1, .int x1), (2, .long q35.1), (4, .long q35.2.1), (6, .int q35.2.2.1), (7, .int q35.2.2.2)]) hx hb dX12_rate_160 hl (k := 6) rfl rfl (by decide) rfl (fun ls hl => ?_)
        refine lv_goto (tgt := 53) hx hb dX12_rate_163 (by decide) ?_
        exact ih q35.1 q35.2.1 q35.2.2.1 q35.2.2.2 (x8 + 1) _ _ _ _ hs (lv_sub hl [1, 2, 3, 4, 5, 6, 0] rfl) M kx kr
      clear hs
      have hs := hsq35
      refine lv_if_ne (tgt := 77) hx hb dX12_rate_71 (by decide) (fun c12 => ?_) (fun c12 => ?_)
      · rw [if_neg c12] at hs
        refine lv_iload hx hb dX12_rate_77 (lv_at hl 4 rfl) ?_
        obtain ⟨q21, hsq21, hs⟩ := bd hs
        have KJ105 : ∀ (ls : Array Slot) (H : Heap) (locs : List Loc), lv_has ls 9 [(0, .ref th), (1, .int x1), (4, .long x4), (6, .int x6), (7, .int x7), (8, .int x8)] → Mo D cy A H0 h H locs → W p l e rm_X12_rate s m args below meth c H locs 0 0 (MQ below (QR D cy qF.2 A (some (.long qF.1))) args s 0 0 A) (F0 m 105 ls [.long q21]) := by
          intro ls H locs hl M
          refine lv_lstore_n (i := 2) (lv' := [(2, .long q21), (0, .ref th), (1, .int x1), (4, .long x4), (6, .int x6), (7, .int x7), (8, .int x8)]) hx hb dX12_rate_105 rfl hl (by decide) rfl (fun ls hl => ?_)
          refine lv_iload hx hb dX12_rate_106 (lv_at hl 4 rfl) ?_
          obtain ⟨q30, hsq30, hs⟩ := bd hs
          have KJ136 : ∀ (ls : Array Slot) (H : Heap) (locs : List Loc), lv_has ls 9 [(0, .ref th), (1, .int x1), (2, .long q21), (6, .int x6), (7, .int x7), (8, .int x8)] → Mo D cy A H0 h H locs → W p l e rm_X12_rate s m args below meth c H locs 0 0 (MQ below (QR D cy qF.2 A (some (.long qF.1))) args s 0 0 A) (F0 m 136 ls [.long q30]) := by
            intro ls H locs hl M
            refine lv_lstore (i := 4) (lv' := [(4, .long q30), (0, .ref th), (1, .int x1), (2, .long q21), (6, .int x6), (7, .int x7), (8, .int x8)]) hx hb dX12_rate_136 hl (by decide) rfl (fun ls hl => ?_)
            refine lv_iinc (v := x6 + 1) (lv' := [(6, .int (x6 + 1)), (4, .long q30), (0, .ref th), (1, .int x1), (2, .long q21), (7, .int x7), (8, .int x8)]) hx hb dX12_rate_138 hl (k := 4) rfl rfl (by decide) rfl (fun ls hl => ?_)
            refine lv_iload hx hb dX12_rate_141 (lv_at hl 5 rfl) ?_
            refine lv_aload_n hx hb dX12_rate_143 rfl (lv_at hl 2 rfl) ?_
            refine lv_iload hx hb dX12_rate_144 (lv_at hl 6 rfl) ?_
            obtain ⟨v31, g_v31, hs⟩ := bd hs
            obtain ⟨a34, e_a34, k_a34, g_v31⟩ := cV_some g_v31
            obtain rfl := Option.some.inj e_a34
            refine ca_Vi (bq := th) (As := [.int x8]) (rest := [.int x7]) F M (c_X12_whyOf g_v31) mf_X12_whyOf t_1451 k_a34 rfl ⟨by decide, by decide⟩ ⟨rfl, rfl⟩ ⟨Nat.zero_le _, Nat.zero_le _⟩ hl.1 rfl (by simp [cat_rf, cat_i, cat_j, cat_r]) dX12_rate_146 (fun H locs M => ?_)
            obtain ⟨q33, hsq33, hs⟩ := bd hs
            have KJ157 : ∀ (ls : Array Slot) (H : Heap) (locs : List Loc), lv_has ls 9 [(0, .ref th), (1, .int x1), (2, .long q21), (4, .long q30), (6, .int (x6 + 1)), (8, .int x8)] → Mo D cy A H0 h H locs → W p l e rm_X12_rate s m args below meth c H locs 0 0 (MQ below (QR D cy qF.2 A (some (.long qF.1))) args s 0 0 A) (F0 m 157 ls [.int q33, .int x7]) := by
              intro ls H locs hl M
              refine lv_iadd hx hb dX12_rate_157 ?_
              refine lv_istore (i := 7) (lv' := [(7, .int (x7 + q33)), (0, .ref th), (1, .int x1), (2, .long q21), (4, .long q30), (6, .int (x6 + 1)), (8, .int x8)]) hx hb dX12_rate_158 hl (by decide) rfl (fun ls hl => ?_)
              obtain rfl := Option.some.inj hs
              exact KJ160 _ _ _ (lv_sub hl [1, 2, 3, 4, 5, 0, 6] rfl) M
            clear hs
            have hs := hsq33
            refine lv_if_ne (tgt := 156) hx hb dX12_rate_149 (by decide) (fun c32 => ?_) (fun c32 => ?_)
            · rw [if_neg c32] at hs
              refine lv_iconst (v := 0) hx hb dX12_rate_156 (by decide) ?_
              obtain rfl := Option.some.inj hs
              exact KJ157 _ _ _ (lv_sub hl [2, 3, 4, 1, 0, 6] rfl) M
            · rw [if_pos c32] at hs
              refine lv_iconst (v := 1) hx hb dX12_rate_152 (by decide) ?_
              refine lv_goto (tgt := 157) hx hb dX12_rate_153 (by decide) ?_
              obtain rfl := Option.some.inj hs
              exact KJ157 _ _ _ (lv_sub hl [2, 3, 4, 1, 0, 6] rfl) M
          clear hs
          have hs := hsq30
          refine lv_if_eq (tgt := 124) hx hb dX12_rate_108 (by decide) (fun c22 => ?_) (fun c22 => ?_)
          · rw [if_pos c22] at hs
            refine lv_aload_n hx hb dX12_rate_124 rfl (lv_at hl 1 rfl) ?_
            obtain ⟨v23, g_v23, hs⟩ := bd hs
            refine ro_gR F M fg_12_11 t_1017 g_v23 dX12_rate_125 ?_
            refine lv_iload hx hb dX12_rate_128 (lv_at hl 6 rfl) ?_
            obtain ⟨v24, g_v24, hs⟩ := bd hs
            refine ro_aJ F M g_v24 dX12_rate_130 ?_
            refine lv_goto (tgt := 136) hx hb dX12_rate_131 (by decide) ?_
            obtain rfl := Option.some.inj hs
            exact KJ136 _ _ _ (lv_sub hl [1, 2, 0, 4, 5, 6] rfl) M
          · rw [if_neg c22] at hs
            refine lv_aload_n hx hb dX12_rate_111 rfl (lv_at hl 1 rfl) ?_
            obtain ⟨v25, g_v25, hs⟩ := bd hs
            refine ro_gR F M fg_12_11 t_1017 g_v25 dX12_rate_112 ?_
            refine lv_iload hx hb dX12_rate_115 (lv_at hl 6 rfl) ?_
            obtain ⟨v26, g_v26, hs⟩ := bd hs
            refine ro_aJ F M g_v26 dX12_rate_117 ?_
            refine lv_lload hx hb dX12_rate_118 (lv_at hl 3 rfl) ?_
            refine W.lcmp hx hb dX12_rate_120 ?_
            refine lv_if_le (tgt := 134) hx hb dX12_rate_121 (by decide) (fun c27 => ?_) (fun c27 => ?_)
            · rw [if_pos c27] at hs
              refine lv_lload hx hb dX12_rate_134 (lv_at hl 3 rfl) ?_
              obtain rfl := Option.some.inj hs
              exact KJ136 _ _ _ (lv_sub hl [1, 2, 0, 4, 5, 6] rfl) M
            · rw [if_neg c27] at hs
              refine lv_aload_n hx hb dX12_rate_124 rfl (lv_at hl 1 rfl) ?_
              obtain ⟨v28, g_v28, hs⟩ := bd hs
              refine ro_gR F M fg_12_11 t_1017 g_v28 dX12_rate_125 ?_
              refine lv_iload hx hb dX12_rate_128 (lv_at hl 6 rfl) ?_
              obtain ⟨v29, g_v29, hs⟩ := bd hs
              refine ro_aJ F M g_v29 dX12_rate_130 ?_
              refine lv_goto (tgt := 136) hx hb dX12_rate_131 (by decide) ?_
              obtain rfl := Option.some.inj hs
              exact KJ136 _ _ _ (lv_sub hl [1, 2, 0, 4, 5, 6] rfl) M
        clear hs
        have hs := hsq21
        refine lv_if_eq (tgt := 94) hx hb dX12_rate_79 (by decide) (fun c13 => ?_) (fun c13 => ?_)
        · rw [if_pos c13] at hs
          refine lv_aload_n hx hb dX12_rate_94 rfl (lv_at hl 0 rfl) ?_
          obtain ⟨v14, g_v14, hs⟩ := bd hs
          refine ro_gR F M fg_12_11 t_1017 g_v14 dX12_rate_95 ?_
          refine lv_iload hx hb dX12_rate_98 (lv_at hl 6 rfl) ?_
          obtain ⟨v15, g_v15, hs⟩ := bd hs
          refine ro_aJ F M g_v15 dX12_rate_100 ?_
          refine lv_goto (tgt := 105) hx hb dX12_rate_101 (by decide) ?_
          obtain rfl := Option.some.inj hs
          exact KJ105 _ _ _ (lv_sub hl [0, 1, 3, 4, 5, 6] rfl) M
        · rw [if_neg c13] at hs
          refine lv_aload_n hx hb dX12_rate_82 rfl (lv_at hl 0 rfl) ?_
          obtain ⟨v16, g_v16, hs⟩ := bd hs
          refine ro_gR F M fg_12_11 t_1017 g_v16 dX12_rate_83 ?_
          refine lv_iload hx hb dX12_rate_86 (lv_at hl 6 rfl) ?_
          obtain ⟨v17, g_v17, hs⟩ := bd hs
          refine ro_aJ F M g_v17 dX12_rate_88 ?_
          refine lv_lload_n hx hb dX12_rate_89 rfl (lv_at hl 2 rfl) ?_
          refine W.lcmp hx hb dX12_rate_90 ?_
          refine lv_if_ge (tgt := 104) hx hb dX12_rate_91 (by decide) (fun c18 => ?_) (fun c18 => ?_)
          · rw [if_pos c18] at hs
            refine lv_lload_n hx hb dX12_rate_104 rfl (lv_at hl 2 rfl) ?_
            obtain rfl := Option.some.inj hs
            exact KJ105 _ _ _ (lv_sub hl [0, 1, 3, 4, 5, 6] rfl) M
          · rw [if_neg c18] at hs
            refine lv_aload_n hx hb dX12_rate_94 rfl (lv_at hl 0 rfl) ?_
            obtain ⟨v19, g_v19, hs⟩ := bd hs
            refine ro_gR F M fg_12_11 t_1017 g_v19 dX12_rate_95 ?_
            refine lv_iload hx hb dX12_rate_98 (lv_at hl 6 rfl) ?_
            obtain ⟨v20, g_v20, hs⟩ := bd hs
            refine ro_aJ F M g_v20 dX12_rate_100 ?_
            refine lv_goto (tgt := 105) hx hb dX12_rate_101 (by decide) ?_
            obtain rfl := Option.some.inj hs
            exact KJ105 _ _ _ (lv_sub hl [0, 1, 3, 4, 5, 6] rfl) M
      · rw [if_pos c12] at hs
        refine lv_goto (tgt := 160) hx hb dX12_rate_74 (by decide) ?_
        obtain rfl := Option.some.inj hs
        exact KJ160 _ _ _ (lv_sub hl [0, 1, 2, 3, 4, 5, 6] rfl) M
set_option maxHeartbeats 4000000 in
set_option maxRecDepth 100000 in
theorem c_X12_rate {l : Launch} {D : va_G} {cy : Nat → ClassId} {sz N : Nat} {h : IH} {th : Nat} {a0 : Int32} {qF : Int64 × IH} (hs : s_X12_rate N h th a0 = some qF) : Ct l D cy yX12_rate cX12_rate 9 (some .long) rm_X12_rate h sz [.ref th, .int a0] qF.2 (some (.long qF.1)) := by
  refine ct_start (by decide +kernel) [(0, .ref th), (1, .int a0)] (Nat.le_of_ble_eq_true rfl) rfl ?_
  intro p e s m args below meth c A H0 ls F hin hsz M hl
  obtain ⟨hx, hb, hr, hml, hown, hlk, hts, hK, hN, hA, hH⟩ := id F
  generalize s.heap = H at M ⊢
  generalize ([] : List Loc) = locs at M ⊢
  unfold s_X12_rate at hs
  refine lv_aload_n hx hb dX12_rate_0 rfl (lv_at hl 0 rfl) ?_
  refine lv_iload_n hx hb dX12_rate_1 rfl (lv_at hl 1 rfl) ?_
  obtain ⟨v1, g_v1, hs⟩ := bd hs
  obtain ⟨a45, e_a45, k_a45, g_v1⟩ := cV_some g_v1
  obtain rfl := Option.some.inj e_a45
  refine ca_Vv (bq := th) (As := [.int a0]) (rest := []) F M (c_X12_begin g_v1) mf_X12_begin t_1340 k_a45 rfl ⟨by decide, by decide⟩ ⟨rfl, rfl⟩ ⟨Nat.zero_le _, Nat.zero_le _⟩ hl.1 rfl (by decide) dX12_rate_2 (fun H locs M => ?_)
  refine lv_aload_n hx hb dX12_rate_5 rfl (lv_at hl 0 rfl) ?_
  refine lv_iload_n hx hb dX12_rate_6 rfl (lv_at hl 1 rfl) ?_
  obtain ⟨v2, g_v2, hs⟩ := bd hs
  obtain ⟨a44, e_a44, k_a44, g_v2⟩ := cV_some g_v2
  obtain rfl := Option.some.inj e_a44
  refine ca_Vi (bq := th) (As := [.int a0]) (rest := []) F M (c_X12_isStation g_v2) mf_X12_isStation t_1259 k_a44 rfl ⟨by decide, by decide⟩ ⟨rfl, rfl⟩ ⟨Nat.zero_le _, Nat.zero_le _⟩ hl.1 rfl (by decide) dX12_rate_7 (fun H locs M => ?_)
  refine lv_if_ne (tgt := 20) hx hb dX12_rate_10 (by decide) (fun c3 => ?_) (fun c3 => ?_)
  · rw [if_neg c3] at hs
    refine lv_aload_n hx hb dX12_rate_20 rfl (lv_at hl 0 rfl) ?_
    refine lv_iload_n hx hb dX12_rate_21 rfl (lv_at hl 1 rfl) ?_
    obtain ⟨v6, g_v6, hs⟩ := bd hs
    obtain ⟨a43, e_a43, k_a43, g_v6⟩ := cV_some g_v6
    obtain rfl := Option.some.inj e_a43
    refine ca_Vi (bq := th) (As := [.int a0]) (rest := []) F M (c_X12_hasLog g_v6) mf_X12_hasLog t_1356 k_a43 rfl ⟨by decide, by decide⟩ ⟨rfl, rfl⟩ ⟨Nat.zero_le _, Nat.zero_le _⟩ hl.1 rfl (by decide) dX12_rate_22 (fun H locs M => ?_)
    refine lv_if_ne (tgt := 36) hx hb dX12_rate_25 (by decide) (fun c7 => ?_) (fun c7 => ?_)
    · rw [if_neg c7] at hs
      refine lv_lconst (v := 0) hx hb dX12_rate_36 (by decide) ?_
      refine lv_lstore_n (i := 2) (lv' := [(2, .long 0), (0, .ref th), (1, .int a0)]) hx hb dX12_rate_37 rfl hl (by decide) rfl (fun ls hl => ?_)
      refine lv_lconst (v := 0) hx hb dX12_rate_38 (by decide) ?_
      refine lv_lstore (i := 4) (lv' := [(4, .long 0), (2, .long 0), (0, .ref th), (1, .int a0)]) hx hb dX12_rate_39 hl (by decide) rfl (fun ls hl => ?_)
      refine lv_iconst (v := 0) hx hb dX12_rate_41 (by decide) ?_
      refine lv_istore (i := 6) (lv' := [(6, .int 0), (4, .long 0), (2, .long 0), (0, .ref th), (1, .int a0)]) hx hb dX12_rate_42 hl (by decide) rfl (fun ls hl => ?_)
      refine lv_iconst (v := 0) hx hb dX12_rate_44 (by decide) ?_
      refine lv_istore (i := 7) (lv' := [(7, .int 0), (6, .int 0), (4, .long 0), (2, .long 0), (0, .ref th), (1, .int a0)]) hx hb dX12_rate_45 hl (by decide) rfl (fun ls hl => ?_)
      refine lv_bipush (v := 48) hx hb dX12_rate_47 (by decide) ?_
      refine lv_iload_n hx hb dX12_rate_49 rfl (lv_at hl 5 rfl) ?_
      refine lv_imul hx hb dX12_rate_50 ?_
      refine lv_istore (i := 8) (lv' := [(8, .int (48 * a0)), (7, .int 0), (6, .int 0), (4, .long 0), (2, .long 0), (0, .ref th), (1, .int a0)]) hx hb dX12_rate_51 hl (by decide) rfl (fun ls hl => ?_)
      obtain ⟨q37, g_q37, hs⟩ := bd hs
      refine w_X12_rate_L53 F N 0 0 0 0 (48 * a0) _ _ _ q37 g_q37 (lv_sub hl [5, 6, 4, 3, 2, 1, 0] rfl) M (fun t_ ls H locs eq_ hl M => ?_) (fun v eq_ => eq_.elim)
      subst eq_
      refine lv_lload hx hb dX12_rate_166 (lv_at hl 2 rfl) ?_
      refine lv_lload_n hx hb dX12_rate_168 rfl (lv_at hl 1 rfl) ?_
      refine W.lcmp hx hb dX12_rate_169 ?_
      obtain ⟨q42, hsq42, hs⟩ := bd hs
      have KJ194 : ∀ (ls : Array Slot) (H : Heap) (locs : List Loc), lv_has ls 9 [] → Mo D cy A H0 q42.2 H locs → W p l e rm_X12_rate s m args below meth c H locs 0 0 (MQ below (QR D cy qF.2 A (some (.long qF.1))) args s 0 0 A) (F0 m 194 ls [.long q42.1]) := by
        intro ls H locs hl M
        obtain rfl := Option.some.inj hs
        exact re_l F M dX12_rate_194
      clear hs
      have hs := hsq42
      refine lv_if_ne (tgt := 182) hx hb dX12_rate_170 (by decide) (fun c38 => ?_) (fun c38 => ?_)
      · rw [if_neg c38] at hs
        refine lv_ldc2 (v := 3600) hx hb hown (hts _ (List.mem_cons_of_mem _ t_1330)) dX12_rate_182 ?_
        refine lv_iload hx hb dX12_rate_185 (lv_at hl 3 rfl) ?_
        refine lv_i2l hx hb dX12_rate_187 rfl ?_
        refine lv_lmul hx hb dX12_rate_188 ?_
        refine lv_lload hx hb dX12_rate_189 (lv_at hl 2 rfl) ?_
        refine lv_lload_n hx hb dX12_rate_191 rfl (lv_at hl 1 rfl) ?_
        refine lv_lsub hx hb dX12_rate_192 ?_
        by_cases z41 : (q37.2.1 - q37.1) = 0
        · rw [if_pos z41] at hs; cases hs
        rw [if_neg z41] at hs
        refine lv_ldiv hx hb dX12_rate_193 z41 ?_
        obtain rfl := Option.some.inj hs
        exact KJ194 _ _ _ (lv_sub hl [] rfl) M
      · rw [if_pos c38] at hs
        refine lv_aload_n hx hb dX12_rate_173 rfl (lv_at hl 0 rfl) ?_
        refine lv_iconst (v := 5) hx hb dX12_rate_174 (by decide) ?_
        obtain ⟨v39, g_v39, hs⟩ := bd hs
        obtain ⟨a40, e_a40, k_a40, g_v39⟩ := cV_some g_v39
        obtain rfl := Option.some.inj e_a40
        refine ca_Vi (bq := th) (As := [.int 5]) (rest := []) F M (c_X12_found g_v39) mf_X12_found t_1408 k_a40 rfl ⟨by decide, by decide⟩ ⟨rfl, rfl⟩ ⟨Nat.zero_le _, Nat.zero_le _⟩ hl.1 rfl (by decide) dX12_rate_175 (fun H locs M => ?_)
        refine lv_i2l hx hb dX12_rate_178 rfl ?_
        refine lv_goto (tgt := 194) hx hb dX12_rate_179 (by decide) ?_
        obtain rfl := Option.some.inj hs
        exact KJ194 _ _ _ (lv_sub hl [] rfl) M
    · rw [if_pos c7] at hs
      refine lv_aload_n hx hb dX12_rate_28 rfl (lv_at hl 0 rfl) ?_
      refine lv_bipush (v := 7) hx hb dX12_rate_29 (by decide) ?_
      obtain ⟨v8, g_v8, hs⟩ := bd hs
      obtain ⟨a9, e_a9, k_a9, g_v8⟩ := cV_some g_v8
      obtain rfl := Option.some.inj e_a9
      refine ca_Vi (bq := th) (As := [.int 7]) (rest := []) F M (c_X12_found g_v8) mf_X12_found t_1408 k_a9 rfl ⟨by decide, by decide⟩ ⟨rfl, rfl⟩ ⟨Nat.zero_le _, Nat.zero_le _⟩ hl.1 rfl (by decide) dX12_rate_31 (fun H locs M => ?_)
      refine lv_i2l hx hb dX12_rate_34 rfl ?_
      obtain rfl := Option.some.inj hs
      exact re_l F M dX12_rate_35
  · rw [if_pos c3] at hs
    refine lv_aload_n hx hb dX12_rate_13 rfl (lv_at hl 0 rfl) ?_
    refine lv_iconst (v := 4) hx hb dX12_rate_14 (by decide) ?_
    obtain ⟨v4, g_v4, hs⟩ := bd hs
    obtain ⟨a5, e_a5, k_a5, g_v4⟩ := cV_some g_v4
    obtain rfl := Option.some.inj e_a5
    refine ca_Vi (bq := th) (As := [.int 4]) (rest := []) F M (c_X12_found g_v4) mf_X12_found t_1408 k_a5 rfl ⟨by decide, by decide⟩ ⟨rfl, rfl⟩ ⟨Nat.zero_le _, Nat.zero_le _⟩ hl.1 rfl (by decide) dX12_rate_15 (fun H locs M => ?_)
    refine lv_i2l hx hb dX12_rate_18 rfl ?_
    obtain rfl := Option.some.inj hs
    exact re_l F M dX12_rate_19
abbrev rm_X12_isPlaced : Room := { frames := 0, cells := 0, slots := 0, locals := 0 }
theorem mf_X12_isPlaced : MV 12 yX12_isPlaced cX12_isPlaced 2 (some .boolean) 1 RX12 := ⟨t_1522, t_1521, tS_121, t_12, ⟨by decide +kernel, by decide +kernel, by decide +kernel⟩, rfl, by decide⟩
def s_X12_isPlaced (h : IH) (th : Nat) (a0 : Int32) : Option (Int32) := (gR h 12 2 (some th)).bind fun v1 => (aI h v1 a0).bind fun v2 => ((if v2 = 4 then some 0 else (gR h 12 2 (some th)).bind fun v4 => (aI h v4 a0).bind fun v5 => if v5 = 3 then some 0 else some 1) : Option (Int32)).bind fun q7 => if q7 = 0 ∨ q7 = 1 then some q7 else none
set_option maxHeartbeats 4000000 in
set_option maxRecDepth 100000 in
theorem c_X12_isPlaced {l : Launch} {D : va_G} {cy : Nat → ClassId} {sz : Nat} {h : IH} {th : Nat} {a0 : Int32} {qF : Int32} (hs : s_X12_isPlaced h th a0 = some qF) : Ct l D cy yX12_isPlaced cX12_isPlaced 2 (some .boolean) rm_X12_isPlaced h sz [.ref th, .int a0] h (some (.int qF)) := by
  refine ct_start (by decide +kernel) [(0, .ref th), (1, .int a0)] (Nat.le_of_ble_eq_true rfl) rfl ?_
  intro p e s m args below meth c A H0 ls F hin hsz M hl
  obtain ⟨hx, hb, hr, hml, hown, hlk, hts, hK, hN, hA, hH⟩ := id F
  generalize s.heap = H at M ⊢
  generalize ([] : List Loc) = locs at M ⊢
  unfold s_X12_isPlaced at hs
  refine lv_aload_n hx hb dX12_isPlaced_0 rfl (lv_at hl 0 rfl) ?_
  obtain ⟨v1, g_v1, hs⟩ := bd hs
  refine ro_gR F M fg_12_2 t_1008 g_v1 dX12_isPlaced_1 ?_
  refine lv_iload_n hx hb dX12_isPlaced_4 rfl (lv_at hl 1 rfl) ?_
  obtain ⟨v2, g_v2, hs⟩ := bd hs
  refine ro_aI F M g_v2 dX12_isPlaced_5 ?_
  refine lv_iconst (v := 4) hx hb dX12_isPlaced_6 (by decide) ?_
  obtain ⟨q7, hsq7, hs⟩ := bd hs
  have KJ25 : ∀ (ls : Array Slot) (H : Heap) (locs : List Loc), lv_has ls 2 [] → Mo D cy A H0 h H locs → W p l e rm_X12_isPlaced s m args below meth c H locs 0 0 (MQ below (QR D cy h A (some (.int qF))) args s 0 0 A) (F0 m 25 ls [.int q7]) := by
    intro ls H locs hl M
    by_cases zg : q7 = 0 ∨ q7 = 1
    · rw [if_pos zg] at hs
      obtain rfl := Option.some.inj hs
      exact re_z F M zg dX12_isPlaced_25
    · rw [if_neg zg] at hs; cases hs
  clear hs
  have hs := hsq7
  refine lv_icmp_eq (tgt := 24) hx hb dX12_isPlaced_7 (by decide) (fun c3 => ?_) (fun c3 => ?_)
  · rw [if_pos c3] at hs
    refine lv_iconst (v := 0) hx hb dX12_isPlaced_24 (by decide) ?_
    obtain rfl := Option.some.inj hs
    exact KJ25 _ _ _ (lv_sub hl [] rfl) M
  · rw [if_neg c3] at hs
    refine lv_aload_n hx hb dX12_isPlaced_10 rfl (lv_at hl 0 rfl) ?_
    obtain ⟨v4, g_v4, hs⟩ := bd hs
    refine ro_gR F M fg_12_2 t_1008 g_v4 dX12_isPlaced_11 ?_
    refine lv_iload_n hx hb dX12_isPlaced_14 rfl (lv_at hl 1 rfl) ?_
    obtain ⟨v5, g_v5, hs⟩ := bd hs
    refine ro_aI F M g_v5 dX12_isPlaced_15 ?_
    refine lv_iconst (v := 3) hx hb dX12_isPlaced_16 (by decide) ?_
    refine lv_icmp_eq (tgt := 24) hx hb dX12_isPlaced_17 (by decide) (fun c6 => ?_) (fun c6 => ?_)
    · rw [if_pos c6] at hs
      refine lv_iconst (v := 0) hx hb dX12_isPlaced_24 (by decide) ?_
      obtain rfl := Option.some.inj hs
      exact KJ25 _ _ _ (lv_sub hl [] rfl) M
    · rw [if_neg c6] at hs
      refine lv_iconst (v := 1) hx hb dX12_isPlaced_20 (by decide) ?_
      refine lv_goto (tgt := 25) hx hb dX12_isPlaced_21 (by decide) ?_
      obtain rfl := Option.some.inj hs
      exact KJ25 _ _ _ (lv_sub hl [] rfl) M
abbrev rm_X12_known : Room := { frames := 7, cells := 0, slots := 0, locals := 177 }
theorem mf_X12_known : MV 12 yX12_known cX12_known 5 (some .int) 2 RX12 := ⟨t_1534, t_1532, t_1533, t_12, ⟨by decide +kernel, by decide +kernel, by decide +kernel⟩, rfl, by decide⟩
def s_X12_known_L24 (N : Nat) : Nat → Nat → Int32 → Int32 → Int32 → Int32 → IH → Option (Int32)
  | 0, _, _, _, _, _, _ => none
  | n + 1, th, x1, x2, x3, x4, h => (gI h 12 32 (some th)).bind fun v6 => if v6 ≤ x4 then some x3 else (gR h 12 33 (some th)).bind fun v8 => (aI h v8 x4).bind fun v9 => ((if v9 = x1 then some x4 else some x3) : Option (Int32)).bind fun q11 => s_X12_known_L24 N n th x1 x2 q11 (x4 + 1) h
def s_X12_known (N : Nat) (h : IH) (th : Nat) (a0 : Int32) (a1 : Int32) : Option (Int32 × IH) := (cV h 12 (some th) fun a25 => s_X12_begin N h a25 a1).bind fun v1 => (cV v1 12 (some th) fun a24 => s_X12_isStation v1 a24 a1).bind fun v2 => if v2 = 0 then (cV v1 12 (some th) fun a5 => s_X12_found v1 a5 4).bind fun v4 => some (v4.1, v4.2) else (s_X12_known_L24 N N th a0 a1 (-1) 0 v1).bind fun q12 => ((if q12 < 0 then (cV v1 12 (some th) fun a15 => s_X12_found v1 a15 2).bind fun v14 => some (v14.1, v14.2) else (gR v1 12 34 (some th)).bind fun v16 => (aI v1 v16 q12).bind fun v17 => if a1 < v17 then (gR v1 12 35 (some th)).bind fun v19 => (aI v1 v19 ((12 * q12) + a1)).bind fun v20 => some (v20, v1) else (cV v1 12 (some th) fun a22 => s_X12_found v1 a22 2).bind fun v21 => some (v21.1, v21.2)) : Option (Int32 × IH)).bind fun q23 => some (q23.1, q23.2)
set_option maxHeartbeats 4000000 in
set_option maxRecDepth 100000 in
theorem w_X12_known_L24 {p : Program} {l : Launch} {e : Env} {s : State} {m : MethodId} {args : Array Value} {below : List Frame} {meth : Method} {c : Code} {D : va_G} {cy : Nat → ClassId} {A : Nat → Prop} {H0 : Heap} {N th : Nat} {x1 : Int32} {x2 : Int32} {h : IH} {qF : Int32 × IH} (F : Fx p s m args meth c D cy A H0 yX12_known cX12_known 5 (some .int)) : ∀ (n : Nat) (x3 : Int32) (x4 : Int32) (ls : Array Slot) (H : Heap) (locs : List Loc) (q : Int32), s_X12_known_L24 N n th x1 x2 x3 x4 h = some q → lv_has ls 5 [(0, .ref th), (1, .int x1), (2, .int x2), (3, .int x3), (4, .int x4)] → Mo D cy A H0 h H locs → (∀ (t : Int32) (ls : Array Slot) (H : Heap) (locs : List Loc), q = t → lv_has ls 5 [(0, .ref th), (2, .int x2), (3, .int t)] → Mo D cy A H0 h H locs → W p l e rm_X12_known s m args below meth c H locs 0 0 (MQ below (QR D cy qF.2 A (some (.int qF.1))) args s 0 0 A) (F0 m 57 ls [])) → (∀ v : Int32 × IH, False → v = qF) → W p l e rm_X12_known s m args below meth c H locs 0 0 (MQ below (QR D cy qF.2 A (some (.int qF.1))) args s 0 0 A) (F0 m 24 ls []) := by
  intro n
  induction n with
  | zero => intro x3 x4 ls H locs q hs; rw [s_X12_known_L24.eq_1] at hs; cases hs
  | succ n ih =>
    intro x3 x4 ls H locs q hs hl M kx kr
    obtain ⟨hx, hb, hr, hml, hown, hlk, hts, hK, hN, hA, hH⟩ := id F
    rw [s_X12_known_L24.eq_2] at hs
    refine lv_iload hx hb dX12_known_24 (lv_at hl 4 rfl) ?_
    refine lv_aload_n hx hb dX12_known_26 rfl (lv_at hl 0 rfl) ?_
    obtain ⟨v6, g_v6, hs⟩ := bd hs
    refine ro_gI F M fg_12_32 t_1038 g_v6 dX12_known_27 ?_
    refine lv_icmp_ge (tgt := 57) hx hb dX12_known_30 (by decide) (fun c7 => ?_) (fun c7 => ?_)
    · rw [if_pos c7] at hs
      exact kx x3 _ _ _ (Option.some.inj hs).symm (lv_sub hl [0, 2, 3] rfl) M
    · rw [if_neg c7] at hs
      refine lv_aload_n hx hb dX12_known_33 rfl (lv_at hl 0 rfl) ?_
      obtain ⟨v8, g_v8, hs⟩ := bd hs
      refine ro_gR F M fg_12_33 t_1039 g_v8 dX12_known_34 ?_
      refine lv_iload hx hb dX12_known_37 (lv_at hl 4 rfl) ?_
      obtain ⟨v9, g_v9, hs⟩ := bd hs
      refine ro_aI F M g_v9 dX12_known_39 ?_
      refine lv_iload_n hx hb dX12_known_40 rfl (lv_at hl 1 rfl) ?_
      obtain ⟨q11, hsq11, hs⟩ := bd hs
      have KJ50 : ∀ (ls : Array Slot) (H : Heap) (locs : List Loc), lv_has ls 5 [(0, .ref th), (1, .int x1), (2, .int x2), (4, .int x4)] → Mo D cy A H0 h H locs → W p l e rm_X12_known s m args below meth c H locs 0 0 (MQ below (QR D cy qF.2 A (some (.int qF.1))) args s 0 0 A) (F0 m 50 ls [.int q11]) := by
        intro ls H locs hl M
        refine lv_istore_n (i := 3) (lv' := [(3, .int q11), (0, .ref th), (1, .int x1), (2, .int x2), (4, .int x4)]) hx hb dX12_known_50 rfl hl (by decide) rfl (fun ls hl => ?_)
        refine lv_iinc (v := x4 + 1) (lv' := [(4, .int (x4 + 1)), (3, .int q11), (0, .ref th), (1, .int x1), (2, .int x2)]) hx hb dX12_known_51 hl (k := 4) rfl rfl (by decide) rfl (fun ls hl => ?_)
        refine lv_goto (tgt := 24) hx hb dX12_known_54 (by decide) ?_
        exact ih q11 (x4 + 1) _ _ _ _ hs (lv_sub hl [2, 3, 4, 1, 0] rfl) M kx kr
      clear hs
      have hs := hsq11
      refine lv_icmp_ne (tgt := 49) hx hb dX12_known_41 (by decide) (fun c10 => ?_) (fun c10 => ?_)
      · rw [if_neg c10] at hs
        refine lv_iload_n hx hb dX12_known_49 rfl (lv_at hl 3 rfl) ?_
        obtain rfl := Option.some.inj hs
        exact KJ50 _ _ _ (lv_sub hl [0, 1, 2, 4] rfl) M
      · rw [if_pos c10] at hs
        refine lv_iload hx hb dX12_known_44 (lv_at hl 4 rfl) ?_
        refine lv_goto (tgt := 50) hx hb dX12_known_46 (by decide) ?_
        obtain rfl := Option.some.inj hs
        exact KJ50 _ _ _ (lv_sub hl [0, 1, 2, 4] rfl) M
set_option maxHeartbeats 4000000 in
set_option maxRecDepth 100000 in
theorem c_X12_known {l : Launch} {D : va_G} {cy : Nat → ClassId} {sz N : Nat} {h : IH} {th : Nat} {a0 : Int32} {a1 : Int32} {qF : Int32 × IH} (hs : s_X12_known N h th a0 a1 = some qF) : Ct l D cy yX12_known cX12_known 5 (some .int) rm_X12_known h sz [.ref th, .int a0, .int a1] qF.2 (some (.int qF.1)) := by
  refine ct_start (by decide +kernel) [(0, .ref th), (1, .int a0), (2, .int a1)] (Nat.le_of_ble_eq_true rfl) rfl ?_
  intro p e s m args below meth c A H0 ls F hin hsz M hl
  obtain ⟨hx, hb, hr, hml, hown, hlk, hts, hK, hN, hA, hH⟩ := id F
  generalize s.heap = H at M ⊢
  generalize ([] : List Loc) = locs at M ⊢
  unfold s_X12_known at hs
  refine lv_aload_n hx hb dX12_known_0 rfl (lv_at hl 0 rfl) ?_
  refine lv_iload_n hx hb dX12_known_1 rfl (lv_at hl 2 rfl) ?_
  obtain ⟨v1, g_v1, hs⟩ := bd hs
  obtain ⟨a25, e_a25, k_a25, g_v1⟩ := cV_some g_v1
  obtain rfl := Option.some.inj e_a25
  refine ca_Vv (bq := th) (As := [.int a1]) (rest := []) F M (c_X12_begin g_v1) mf_X12_begin t_1340 k_a25 rfl ⟨by decide, by decide⟩ ⟨rfl, rfl⟩ ⟨Nat.zero_le _, Nat.zero_le _⟩ hl.1 rfl (by decide) dX12_known_2 (fun H locs M => ?_)
  refine lv_aload_n hx hb dX12_known_5 rfl (lv_at hl 0 rfl) ?_
  refine lv_iload_n hx hb dX12_known_6 rfl (lv_at hl 2 rfl) ?_
  obtain ⟨v2, g_v2, hs⟩ := bd hs
  obtain ⟨a24, e_a24, k_a24, g_v2⟩ := cV_some g_v2
  obtain rfl := Option.some.inj e_a24
  refine ca_Vi (bq := th) (As := [.int a1]) (rest := []) F M (c_X12_isStation g_v2) mf_X12_isStation t_1259 k_a24 rfl ⟨by decide, by decide⟩ ⟨rfl, rfl⟩ ⟨Nat.zero_le _, Nat.zero_le _⟩ hl.1 rfl (by decide) dX12_known_7 (fun H locs M => ?_)
  refine lv_if_ne (tgt := 19) hx hb dX12_known_10 (by decide) (fun c3 => ?_) (fun c3 => ?_)
  · rw [if_neg c3] at hs
    refine lv_iconst (v := (-1)) hx hb dX12_known_19 (by decide) ?_
    refine lv_istore_n (i := 3) (lv' := [(3, .int (-1)), (0, .ref th), (1, .int a0), (2, .int a1)]) hx hb dX12_known_20 rfl hl (by decide) rfl (fun ls hl => ?_)
    refine lv_iconst (v := 0) hx hb dX12_known_21 (by decide) ?_
    refine lv_istore (i := 4) (lv' := [(4, .int 0), (3, .int (-1)), (0, .ref th), (1, .int a0), (2, .int a1)]) hx hb dX12_known_22 hl (by decide) rfl (fun ls hl => ?_)
    obtain ⟨q12, g_q12, hs⟩ := bd hs
    refine w_X12_known_L24 F N (-1) 0 _ _ _ q12 g_q12 (lv_sub hl [2, 3, 4, 1, 0] rfl) M (fun t_ ls H locs eq_ hl M => ?_) (fun v eq_ => eq_.elim)
    subst eq_
    refine lv_iload_n hx hb dX12_known_57 rfl (lv_at hl 2 rfl) ?_
    obtain ⟨q23, hsq23, hs⟩ := bd hs
    have KJ90 : ∀ (ls : Array Slot) (H : Heap) (locs : List Loc), lv_has ls 5 [] → Mo D cy A H0 q23.2 H locs → W p l e rm_X12_known s m args below meth c H locs 0 0 (MQ below (QR D cy qF.2 A (some (.int qF.1))) args s 0 0 A) (F0 m 90 ls [.int q23.1]) := by
      intro ls H locs hl M
      obtain rfl := Option.some.inj hs
      exact re_i F M dX12_known_90
    clear hs
    have hs := hsq23
    refine lv_if_lt (tgt := 71) hx hb dX12_known_58 (by decide) (fun c13 => ?_) (fun c13 => ?_)
    · rw [if_pos c13] at hs
      refine lv_aload_n hx hb dX12_known_71 rfl (lv_at hl 0 rfl) ?_
      refine lv_iconst (v := 2) hx hb dX12_known_72 (by decide) ?_
      obtain ⟨v14, g_v14, hs⟩ := bd hs
      obtain ⟨a15, e_a15, k_a15, g_v14⟩ := cV_some g_v14
      obtain rfl := Option.some.inj e_a15
      refine ca_Vi (bq := th) (As := [.int 2]) (rest := []) F M (c_X12_found g_v14) mf_X12_found t_1408 k_a15 rfl ⟨by decide, by decide⟩ ⟨rfl, rfl⟩ ⟨Nat.zero_le _, Nat.zero_le _⟩ hl.1 rfl (by decide) dX12_known_73 (fun H locs M => ?_)
      refine lv_goto (tgt := 90) hx hb dX12_known_76 (by decide) ?_
      obtain rfl := Option.some.inj hs
      exact KJ90 _ _ _ (lv_sub hl [] rfl) M
    · rw [if_neg c13] at hs
      refine lv_iload_n hx hb dX12_known_61 rfl (lv_at hl 1 rfl) ?_
      refine lv_aload_n hx hb dX12_known_62 rfl (lv_at hl 0 rfl) ?_
      obtain ⟨v16, g_v16, hs⟩ := bd hs
      refine ro_gR F M fg_12_34 t_1040 g_v16 dX12_known_63 ?_
      refine lv_iload_n hx hb dX12_known_66 rfl (lv_at hl 2 rfl) ?_
      obtain ⟨v17, g_v17, hs⟩ := bd hs
      refine ro_aI F M g_v17 dX12_known_67 ?_
      refine lv_icmp_lt (tgt := 79) hx hb dX12_known_68 (by decide) (fun c18 => ?_) (fun c18 => ?_)
      · rw [if_pos c18] at hs
        refine lv_aload_n hx hb dX12_known_79 rfl (lv_at hl 0 rfl) ?_
        obtain ⟨v19, g_v19, hs⟩ := bd hs
        refine ro_gR F M fg_12_35 t_1041 g_v19 dX12_known_80 ?_
        refine lv_bipush (v := 12) hx hb dX12_known_83 (by decide) ?_
        refine lv_iload_n hx hb dX12_known_85 rfl (lv_at hl 2 rfl) ?_
        refine lv_imul hx hb dX12_known_86 ?_
        refine lv_iload_n hx hb dX12_known_87 rfl (lv_at hl 1 rfl) ?_
        refine lv_iadd hx hb dX12_known_88 ?_
        obtain ⟨v20, g_v20, hs⟩ := bd hs
        refine ro_aI F M g_v20 dX12_known_89 ?_
        obtain rfl := Option.some.inj hs
        exact KJ90 _ _ _ (lv_sub hl [] rfl) M
      · rw [if_neg c18] at hs
        refine lv_aload_n hx hb dX12_known_71 rfl (lv_at hl 0 rfl) ?_
        refine lv_iconst (v := 2) hx hb dX12_known_72 (by decide) ?_
        obtain ⟨v21, g_v21, hs⟩ := bd hs
        obtain ⟨a22, e_a22, k_a22, g_v21⟩ := cV_some g_v21
        obtain rfl := Option.some.inj e_a22
        refine ca_Vi (bq := th) (As := [.int 2]) (rest := []) F M (c_X12_found g_v21) mf_X12_found t_1408 k_a22 rfl ⟨by decide, by decide⟩ ⟨rfl, rfl⟩ ⟨Nat.zero_le _, Nat.zero_le _⟩ hl.1 rfl (by decide) dX12_known_73 (fun H locs M => ?_)
        refine lv_goto (tgt := 90) hx hb dX12_known_76 (by decide) ?_
        obtain rfl := Option.some.inj hs
        exact KJ90 _ _ _ (lv_sub hl [] rfl) M
  · rw [if_pos c3] at hs
    refine lv_aload_n hx hb dX12_known_13 rfl (lv_at hl 0 rfl) ?_
    refine lv_iconst (v := 4) hx hb dX12_known_14 (by decide) ?_
    obtain ⟨v4, g_v4, hs⟩ := bd hs
    obtain ⟨a5, e_a5, k_a5, g_v4⟩ := cV_some g_v4
    obtain rfl := Option.some.inj e_a5
    refine ca_Vi (bq := th) (As := [.int 4]) (rest := []) F M (c_X12_found g_v4) mf_X12_found t_1408 k_a5 rfl ⟨by decide, by decide⟩ ⟨rfl, rfl⟩ ⟨Nat.zero_le _, Nat.zero_le _⟩ hl.1 rfl (by decide) dX12_known_15 (fun H locs M => ?_)
    obtain rfl := Option.some.inj hs
    exact re_i F M dX12_known_18
abbrev rm_X12_finding : Room := { frames := 0, cells := 0, slots := 0, locals := 0 }
theorem mf_X12_finding : MV 12 yX12_finding cX12_finding 1 (some .int) 0 RX12 := ⟨t_1538, t_1536, t_1537, t_12, ⟨by decide +kernel, by decide +kernel, by decide +kernel⟩, rfl, by decide⟩
def s_X12_finding (h : IH) (th : Nat) : Option (Int32) := (gI h 12 36 (some th)).bind fun v1 => some v1
set_option maxHeartbeats 4000000 in
set_option maxRecDepth 100000 in
theorem c_X12_finding {l : Launch} {D : va_G} {cy : Nat → ClassId} {sz : Nat} {h : IH} {th : Nat} {qF : Int32} (hs : s_X12_finding h th = some qF) : Ct l D cy yX12_finding cX12_finding 1 (some .int) rm_X12_finding h sz [.ref th] h (some (.int qF)) := by
  refine ct_start (by decide +kernel) [(0, .ref th)] (Nat.le_of_ble_eq_true rfl) rfl ?_
  intro p e s m args below meth c A H0 ls F hin hsz M hl
  obtain ⟨hx, hb, hr, hml, hown, hlk, hts, hK, hN, hA, hH⟩ := id F
  generalize s.heap = H at M ⊢
  generalize ([] : List Loc) = locs at M ⊢
  unfold s_X12_finding at hs
  refine lv_aload_n hx hb dX12_finding_0 rfl (lv_at hl 0 rfl) ?_
  obtain ⟨v1, g_v1, hs⟩ := bd hs
  refine ro_gI F M fg_12_36 t_1042 g_v1 dX12_finding_1 ?_
  obtain rfl := Option.some.inj hs
  exact re_i F M dX12_finding_4
abbrev rm_X12_count : Room := { frames := 0, cells := 0, slots := 0, locals := 0 }
theorem mf_X12_count : MV 12 yX12_count cX12_count 2 (some .int) 1 RX12 := ⟨t_1542, t_1540, t_1541, t_12, ⟨by decide +kernel, by decide +kernel, by decide +kernel⟩, rfl, by decide⟩
def s_X12_count (h : IH) (th : Nat) (a0 : Int32) : Option (Int32) := if a0 = 0 then (gI h 12 1 (some th)).bind fun v9 => some v9 else if a0 = 1 then (gI h 12 29 (some th)).bind fun v10 => some v10 else if a0 = 2 then (gI h 12 30 (some th)).bind fun v11 => some v11 else if a0 = 3 then (gI h 12 39 (some th)).bind fun v12 => some v12 else if a0 = 4 then (gI h 12 39 (some th)).bind fun v13 => some v13 else if a0 = 5 then (gI h 12 37 (some th)).bind fun v14 => some v14 else if a0 = 6 then (gI h 12 38 (some th)).bind fun v15 => some v15 else if a0 = 7 then (gI h 12 32 (some th)).bind fun v16 => some v16 else some (-1)
set_option maxHeartbeats 4000000 in
set_option maxRecDepth 100000 in
theorem c_X12_count {l : Launch} {D : va_G} {cy : Nat → ClassId} {sz : Nat} {h : IH} {th : Nat} {a0 : Int32} {qF : Int32} (hs : s_X12_count h th a0 = some qF) : Ct l D cy yX12_count cX12_count 2 (some .int) rm_X12_count h sz [.ref th, .int a0] h (some (.int qF)) := by
  refine ct_start (by decide +kernel) [(0, .ref th), (1, .int a0)] (Nat.le_of_ble_eq_true rfl) rfl ?_
  intro p e s m args below meth c A H0 ls F hin hsz M hl
  obtain ⟨hx, hb, hr, hml, hown, hlk, hts, hK, hN, hA, hH⟩ := id F
  generalize s.heap = H at M ⊢
  generalize ([] : List Loc) = locs at M ⊢
  unfold s_X12_count at hs
  refine lv_iload_n hx hb dX12_count_0 rfl (lv_at hl 1 rfl) ?_
  by_cases c1 : a0 = 0
  · rw [if_pos c1] at hs
    refine lv_tableIn (tgt := 48) hx hb dX12_count_1 (by rw [c1]; decide) (by rw [c1]; decide) (by rw [c1]; rfl) (by decide) ?_
    refine lv_aload_n hx hb dX12_count_48 rfl (lv_at hl 0 rfl) ?_
    obtain ⟨v9, g_v9, hs⟩ := bd hs
    refine ro_gI F M fg_12_1 t_1007 g_v9 dX12_count_49 ?_
    obtain rfl := Option.some.inj hs
    exact re_i F M dX12_count_52
  rw [if_neg c1] at hs
  by_cases c2 : a0 = 1
  · rw [if_pos c2] at hs
    refine lv_tableIn (tgt := 53) hx hb dX12_count_1 (by rw [c2]; decide) (by rw [c2]; decide) (by rw [c2]; rfl) (by decide) ?_
    refine lv_aload_n hx hb dX12_count_53 rfl (lv_at hl 0 rfl) ?_
    obtain ⟨v10, g_v10, hs⟩ := bd hs
    refine ro_gI F M fg_12_29 t_1035 g_v10 dX12_count_54 ?_
    obtain rfl := Option.some.inj hs
    exact re_i F M dX12_count_57
  rw [if_neg c2] at hs
  by_cases c3 : a0 = 2
  · rw [if_pos c3] at hs
    refine lv_tableIn (tgt := 58) hx hb dX12_count_1 (by rw [c3]; decide) (by rw [c3]; decide) (by rw [c3]; rfl) (by decide) ?_
    refine lv_aload_n hx hb dX12_count_58 rfl (lv_at hl 0 rfl) ?_
    obtain ⟨v11, g_v11, hs⟩ := bd hs
    refine ro_gI F M fg_12_30 t_1036 g_v11 dX12_count_59 ?_
    obtain rfl := Option.some.inj hs
    exact re_i F M dX12_count_62
  rw [if_neg c3] at hs
  by_cases c4 : a0 = 3
  · rw [if_pos c4] at hs
    refine lv_tableIn (tgt := 63) hx hb dX12_count_1 (by rw [c4]; decide) (by rw [c4]; decide) (by rw [c4]; rfl) (by decide) ?_
    refine lv_aload_n hx hb dX12_count_63 rfl (lv_at hl 0 rfl) ?_
    obtain ⟨v12, g_v12, hs⟩ := bd hs
    refine ro_gI F M fg_12_39 t_1045 g_v12 dX12_count_64 ?_
    obtain rfl := Option.some.inj hs
    exact re_i F M dX12_count_67
  rw [if_neg c4] at hs
  by_cases c5 : a0 = 4
  · rw [if_pos c5] at hs
    refine lv_tableIn (tgt := 68) hx hb dX12_count_1 (by rw [c5]; decide) (by rw [c5]; decide) (by rw [c5]; rfl) (by decide) ?_
    refine lv_aload_n hx hb dX12_count_68 rfl (lv_at hl 0 rfl) ?_
    obtain ⟨v13, g_v13, hs⟩ := bd hs
    refine ro_gI F M fg_12_39 t_1045 g_v13 dX12_count_69 ?_
    obtain rfl := Option.some.inj hs
    exact re_i F M dX12_count_72
  rw [if_neg c5] at hs
  by_cases c6 : a0 = 5
  · rw [if_pos c6] at hs
    refine lv_tableIn (tgt := 73) hx hb dX12_count_1 (by rw [c6]; decide) (by rw [c6]; decide) (by rw [c6]; rfl) (by decide) ?_
    refine lv_aload_n hx hb dX12_count_73 rfl (lv_at hl 0 rfl) ?_
    obtain ⟨v14, g_v14, hs⟩ := bd hs
    refine ro_gI F M fg_12_37 t_1043 g_v14 dX12_count_74 ?_
    obtain rfl := Option.some.inj hs
    exact re_i F M dX12_count_77
  rw [if_neg c6] at hs
  by_cases c7 : a0 = 6
  · rw [if_pos c7] at hs
    refine lv_tableIn (tgt := 78) hx hb dX12_count_1 (by rw [c7]; decide) (by rw [c7]; decide) (by rw [c7]; rfl) (by decide) ?_
    refine lv_aload_n hx hb dX12_count_78 rfl (lv_at hl 0 rfl) ?_
    obtain ⟨v15, g_v15, hs⟩ := bd hs
    refine ro_gI F M fg_12_38 t_1044 g_v15 dX12_count_79 ?_
    obtain rfl := Option.some.inj hs
    exact re_i F M dX12_count_82
  rw [if_neg c7] at hs
  by_cases c8 : a0 = 7
  · rw [if_pos c8] at hs
    refine lv_tableIn (tgt := 83) hx hb dX12_count_1 (by rw [c8]; decide) (by rw [c8]; decide) (by rw [c8]; rfl) (by decide) ?_
    refine lv_aload_n hx hb dX12_count_83 rfl (lv_at hl 0 rfl) ?_
    obtain ⟨v16, g_v16, hs⟩ := bd hs
    refine ro_gI F M fg_12_32 t_1038 g_v16 dX12_count_84 ?_
    obtain rfl := Option.some.inj hs
    exact re_i F M dX12_count_87
  rw [if_neg c8] at hs
  refine lv_tableOut (tgt := 88) hx hb dX12_count_1 (by have := ne_ti (k := 0) (n := 0) rfl c1; have := ne_ti (k := 1) (n := 1) rfl c2; have := ne_ti (k := 2) (n := 2) rfl c3; have := ne_ti (k := 3) (n := 3) rfl c4; have := ne_ti (k := 4) (n := 4) rfl c5; have := ne_ti (k := 5) (n := 5) rfl c6; have := ne_ti (k := 6) (n := 6) rfl c7; have := ne_ti (k := 7) (n := 7) rfl c8; omega) (by decide) ?_
  refine lv_iconst (v := (-1)) hx hb dX12_count_88 (by decide) ?_
  obtain rfl := Option.some.inj hs
  exact re_i F M dX12_count_89
