abbrev rm_X12_offsetOf : Room := { frames := 4, cells := 0, slots := 0, locals := 101 }
theorem mf_X12_offsetOf : MV 12 yX12_offsetOf cX12_offsetOf 13 (some .long) 1 RX12 := ⟨t_1363, t_1362, tS_96, t_12, ⟨by decide +kernel, by decide +kernel, by decide +kernel⟩, rfl, by decide⟩
def s_X12_offsetOf_L7 (N : Nat) : Nat → Nat → Int32 → Int32 → Int32 → IH → Option (Int32)
  | 0, _, _, _, _, _ => none
  | n + 1, th, x1, x2, x3, h => if ((48 * x1) + 48) ≤ x3 then some x2 else (cV h 12 (some th) fun a16 => s_X12_isContactAt h a16 x3).bind fun v2 => ((if v2 = 0 then some 0 else (gR h 12 18 (some th)).bind fun v4 => (aI h v4 x3).bind fun v5 => if v5 < 0 then some 0 else (gR h 12 18 (some th)).bind fun v7 => (aI h v7 x3).bind fun v8 => if v8 = x1 then some 0 else (gR h 12 18 (some th)).bind fun v10 => (aI h v10 x3).bind fun v11 => (cV h 12 (some th) fun a14 => s_X12_hasLog h a14 v11).bind fun v12 => if v12 = 0 then some 0 else some 1) : Option (Int32)).bind fun q15 => s_X12_offsetOf_L7 N n th x1 (x2 + q15) (x3 + 1) h
def s_X12_offsetOf_L216 (N : Nat) : Nat → Nat → Int32 → Int32 → Int64 → Int32 → Int32 → Int32 → Int32 → Int32 → IH → Option (Int64 × Int32)
  | 0, _, _, _, _, _, _, _, _, _, _ => none
  | n + 1, th, x1, x2, x3, x5, x6, x7, x8, x9, h => if 2 ≤ x9 then some (x3, x5) else (gR h 12 11 (some th)).bind fun v40 => (aJ h v40 x8).bind fun v41 => (gR h 12 11 (some th)).bind fun v42 => (aJ h v42 x6).bind fun v43 => (gI h 12 21 (some th)).bind fun v44 => ((if x5 = 0 then some 1 else (s_X12_plain h ((v41 - v43) + (x9.toInt64 * v44.toInt64))).bind fun v46 => (s_X12_plain h x3).bind fun v47 => if (lg_cmp v46 v47) < 0 then some 1 else (s_X12_plain h ((v41 - v43) + (x9.toInt64 * v44.toInt64))).bind fun v49 => (s_X12_plain h x3).bind fun v50 => if (lg_cmp v49 v50) = 0 then if 0 ≤ (lg_cmp ((v41 - v43) + (x9.toInt64 * v44.toInt64)) x3) then some 0 else some 1 else some 0) : Option (Int32)).bind fun q53 => ((if q53 = 0 then some (x3, x5) else (cV h 12 (some th) fun a57 => s_X12_agreeing N h a57 x1 ((v41 - v43) + (x9.toInt64 * v44.toInt64))).bind fun v55 => if (2 * v55) ≤ x2 then some (x3, x5) else some ((v41 - v43) + (x9.toInt64 * v44.toInt64), 1)) : Option (Int64 × Int32)).bind fun q58 => s_X12_offsetOf_L216 N n th x1 x2 q58.1 q58.2 x6 x7 x8 (x9 + 2) h
def s_X12_offsetOf_L169 (N : Nat) : Nat → Nat → Int32 → Int32 → Int64 → Int32 → Int32 → Int32 → Int32 → IH → Option (Int64 × Int32)
  | 0, _, _, _, _, _, _, _, _, _ => none
  | n + 1, th, x1, x2, x3, x5, x6, x7, x8, h => if (x7 + 16) ≤ x8 then some (x3, x5) else (cV h 12 (some th) fun a62 => s_X12_isContactAt h a62 x8).bind fun v32 => ((if v32 = 0 then some (x3, x5) else (gR h 12 18 (some th)).bind fun v34 => (aI h v34 x8).bind fun v35 => if v35 = x1 then (cV h 12 (some th) fun a60 => s_X12_fit h a60 x6 x8).bind fun v37 => if v37 = 0 then some (x3, x5) else (s_X12_offsetOf_L216 N N th x1 x2 x3 x5 x6 x7 x8 (-1) h).bind fun q59 => some (q59.1, q59.2) else some (x3, x5)) : Option (Int64 × Int32)).bind fun q61 => s_X12_offsetOf_L169 N n th x1 x2 q61.1 q61.2 x6 x7 (x8 + 1) h
def s_X12_offsetOf_L97 (N : Nat) : Nat → Nat → Int32 → Int32 → Int64 → Int32 → Int32 → IH → Option (Int64)
  | 0, _, _, _, _, _, _, _ => none
  | n + 1, th, x1, x2, x3, x5, x6, h => if ((48 * x1) + 48) ≤ x6 then some x3 else (cV h 12 (some th) fun a65 => s_X12_isContactAt h a65 x6).bind fun v21 => ((if v21 = 0 then some (x3, x5) else (gR h 12 18 (some th)).bind fun v23 => (aI h v23 x6).bind fun v24 => if v24 < 0 then some (x3, x5) else (gR h 12 18 (some th)).bind fun v26 => (aI h v26 x6).bind fun v27 => if v27 = x1 then some (x3, x5) else (gR h 12 18 (some th)).bind fun v29 => (aI h v29 x6).bind fun v30 => (s_X12_offsetOf_L169 N N th x1 x2 x3 x5 x6 ((48 * v30) + (((x6 / 16) - (x6 / 16) / 3 * 3) * 16)) ((48 * v30) + (((x6 / 16) - (x6 / 16) / 3 * 3) * 16)) h).bind fun q63 => some (q63.1, q63.2)) : Option (Int64 × Int32)).bind fun q64 => s_X12_offsetOf_L97 N n th x1 x2 q64.1 q64.2 (x6 + 1) h
def s_X12_offsetOf (N : Nat) (h : IH) (th : Nat) (a0 : Int32) : Option (Int64) := (s_X12_offsetOf_L7 N N th a0 0 (48 * a0) h).bind fun q17 => (cV h 12 (some th) fun a67 => s_X12_agreeing N h a67 a0 0).bind fun v18 => if (2 * v18) ≤ q17 then (s_X12_offsetOf_L97 N N th a0 q17 0 0 (48 * a0) h).bind fun q66 => some q66 else some 0
set_option maxHeartbeats 4000000 in
set_option maxRecDepth 100000 in
theorem w_X12_offsetOf_L7 {p : Program} {l : Launch} {e : Env} {s : State} {m : MethodId} {args : Array Value} {below : List Frame} {meth : Method} {c : Code} {D : va_G} {cy : Nat → ClassId} {A : Nat → Prop} {H0 : Heap} {N th : Nat} {x1 : Int32} {h : IH} {qF : Int64} (F : Fx p s m args meth c D cy A H0 yX12_offsetOf cX12_offsetOf 13 (some .long)) : ∀ (n : Nat) (x2 : Int32) (x3 : Int32) (ls : Array Slot) (H : Heap) (locs : List Loc) (q : Int32), s_X12_offsetOf_L7 N n th x1 x2 x3 h = some q → lv_has ls 13 [(0, .ref th), (1, .int x1), (2, .int x2), (3, .int x3)] → Mo D cy A H0 h H locs → (∀ (t : Int32) (ls : Array Slot) (H : Heap) (locs : List Loc), q = t → lv_has ls 13 [(0, .ref th), (1, .int x1), (2, .int t)] → Mo D cy A H0 h H locs → W p l e rm_X12_offsetOf s m args below meth c H locs 0 0 (MQ below (QR D cy h A (some (.long qF))) args s 0 0 A) (F0 m 72 ls [])) → (∀ v : Int64, False → v = qF) → W p l e rm_X12_offsetOf s m args below meth c H locs 0 0 (MQ below (QR D cy h A (some (.long qF))) args s 0 0 A) (F0 m 7 ls []) := by
  intro n
  induction n with
  | zero => intro x2 x3 ls H locs q hs; rw [s_X12_offsetOf_L7.eq_1] at hs; cases hs
  | succ n ih =>
    intro x2 x3 ls H locs q hs hl M kx kr
    obtain ⟨hx, hb, hr, hml, hown, hlk, hts, hK, hN, hA, hH⟩ := id F
    rw [s_X12_offsetOf_L7.eq_2] at hs
    refine lv_iload_n hx hb dX12_offsetOf_7 rfl (lv_at hl 3 rfl) ?_
    refine lv_bipush (v := 48) hx hb dX12_offsetOf_8 (by decide) ?_
    refine lv_iload_n hx hb dX12_offsetOf_10 rfl (lv_at hl 1 rfl) ?_
    refine lv_imul hx hb dX12_offsetOf_11 ?_
    refine lv_bipush (v := 48) hx hb dX12_offsetOf_12 (by decide) ?_
    refine lv_iadd hx hb dX12_offsetOf_14 ?_
    refine lv_icmp_ge (tgt := 72) hx hb dX12_offsetOf_15 (by decide) (fun c1 => ?_) (fun c1 => ?_)
    · rw [if_pos c1] at hs
      exact kx x2 _ _ _ (Option.some.inj hs).symm (lv_sub hl [0, 1, 2] rfl) M
    · rw [if_neg c1] at hs
      refine lv_iload_n hx hb dX12_offsetOf_18 rfl (lv_at hl 2 rfl) ?_
      refine lv_aload_n hx hb dX12_offsetOf_19 rfl (lv_at hl 0 rfl) ?_
      refine lv_iload_n hx hb dX12_offsetOf_20 rfl (lv_at hl 3 rfl) ?_
      obtain ⟨v2, g_v2, hs⟩ := bd hs
      obtain ⟨a16, e_a16, k_a16, g_v2⟩ := cV_some g_v2
      obtain rfl := Option.some.inj e_a16
      refine ca_Vi (bq := th) (As := [.int x3]) (rest := [.int x2]) F M (c_X12_isContactAt g_v2) mf_X12_isContactAt t_1352 k_a16 rfl ⟨by decide, by decide⟩ ⟨rfl, rfl⟩ ⟨Nat.zero_le _, Nat.zero_le _⟩ hl.1 rfl (by simp [cat_rf, cat_i, cat_j, cat_r]) dX12_offsetOf_21 (fun H locs M => ?_)
      obtain ⟨q15, hsq15, hs⟩ := bd hs
      have KJ64 : ∀ (ls : Array Slot) (H : Heap) (locs : List Loc), lv_has ls 13 [(0, .ref th), (1, .int x1), (3, .int x3)] → Mo D cy A H0 h H locs → W p l e rm_X12_offsetOf s m args below meth c H locs 0 0 (MQ below (QR D cy h A (some (.long qF))) args s 0 0 A) (F0 m 64 ls [.int q15, .int x2]) := by
        intro ls H locs hl M
        refine lv_iadd hx hb dX12_offsetOf_64 ?_
        refine lv_istore_n (i := 2) (lv' := [(2, .int (x2 + q15)), (0, .ref th), (1, .int x1), (3, .int x3)]) hx hb dX12_offsetOf_65 rfl hl (by decide) rfl (fun ls hl => ?_)
        refine lv_iinc (v := x3 + 1) (lv' := [(3, .int (x3 + 1)), (2, .int (x2 + q15)), (0, .ref th), (1, .int x1)]) hx hb dX12_offsetOf_66 hl (k := 3) rfl rfl (by decide) rfl (fun ls hl => ?_)
        refine lv_goto (tgt := 7) hx hb dX12_offsetOf_69 (by decide) ?_
        exact ih (x2 + q15) (x3 + 1) _ _ _ _ hs (lv_sub hl [2, 3, 1, 0] rfl) M kx kr
      clear hs
      have hs := hsq15
      refine lv_if_eq (tgt := 63) hx hb dX12_offsetOf_24 (by decide) (fun c3 => ?_) (fun c3 => ?_)
      · rw [if_pos c3] at hs
        refine lv_iconst (v := 0) hx hb dX12_offsetOf_63 (by decide) ?_
        obtain rfl := Option.some.inj hs
        exact KJ64 _ _ _ (lv_sub hl [0, 1, 3] rfl) M
      · rw [if_neg c3] at hs
        refine lv_aload_n hx hb dX12_offsetOf_27 rfl (lv_at hl 0 rfl) ?_
        obtain ⟨v4, g_v4, hs⟩ := bd hs
        refine ro_gR F M fg_12_18 t_1024 g_v4 dX12_offsetOf_28 ?_
        refine lv_iload_n hx hb dX12_offsetOf_31 rfl (lv_at hl 3 rfl) ?_
        obtain ⟨v5, g_v5, hs⟩ := bd hs
        refine ro_aI F M g_v5 dX12_offsetOf_32 ?_
        refine lv_if_lt (tgt := 63) hx hb dX12_offsetOf_33 (by decide) (fun c6 => ?_) (fun c6 => ?_)
        · rw [if_pos c6] at hs
          refine lv_iconst (v := 0) hx hb dX12_offsetOf_63 (by decide) ?_
          obtain rfl := Option.some.inj hs
          exact KJ64 _ _ _ (lv_sub hl [0, 1, 3] rfl) M
        · rw [if_neg c6] at hs
          refine lv_aload_n hx hb dX12_offsetOf_36 rfl (lv_at hl 0 rfl) ?_
          obtain ⟨v7, g_v7, hs⟩ := bd hs
          refine ro_gR F M fg_12_18 t_1024 g_v7 dX12_offsetOf_37 ?_
          refine lv_iload_n hx hb dX12_offsetOf_40 rfl (lv_at hl 3 rfl) ?_
          obtain ⟨v8, g_v8, hs⟩ := bd hs
          refine ro_aI F M g_v8 dX12_offsetOf_41 ?_
          refine lv_iload_n hx hb dX12_offsetOf_42 rfl (lv_at hl 1 rfl) ?_
          refine lv_icmp_eq (tgt := 63) hx hb dX12_offsetOf_43 (by decide) (fun c9 => ?_) (fun c9 => ?_)
          · rw [if_pos c9] at hs
            refine lv_iconst (v := 0) hx hb dX12_offsetOf_63 (by decide) ?_
            obtain rfl := Option.some.inj hs
            exact KJ64 _ _ _ (lv_sub hl [0, 1, 3] rfl) M
          · rw [if_neg c9] at hs
            refine lv_aload_n hx hb dX12_offsetOf_46 rfl (lv_at hl 0 rfl) ?_
            refine lv_aload_n hx hb dX12_offsetOf_47 rfl (lv_at hl 0 rfl) ?_
            obtain ⟨v10, g_v10, hs⟩ := bd hs
            refine ro_gR F M fg_12_18 t_1024 g_v10 dX12_offsetOf_48 ?_
            refine lv_iload_n hx hb dX12_offsetOf_51 rfl (lv_at hl 3 rfl) ?_
            obtain ⟨v11, g_v11, hs⟩ := bd hs
            refine ro_aI F M g_v11 dX12_offsetOf_52 ?_
            obtain ⟨v12, g_v12, hs⟩ := bd hs
            obtain ⟨a14, e_a14, k_a14, g_v12⟩ := cV_some g_v12
            obtain rfl := Option.some.inj e_a14
            refine ca_Vi (bq := th) (As := [.int v11]) (rest := [.int x2]) F M (c_X12_hasLog g_v12) mf_X12_hasLog t_1356 k_a14 rfl ⟨by decide, by decide⟩ ⟨rfl, rfl⟩ ⟨Nat.zero_le _, Nat.zero_le _⟩ hl.1 rfl (by simp [cat_rf, cat_i, cat_j, cat_r]) dX12_offsetOf_53 (fun H locs M => ?_)
            refine lv_if_eq (tgt := 63) hx hb dX12_offsetOf_56 (by decide) (fun c13 => ?_) (fun c13 => ?_)
            · rw [if_pos c13] at hs
              refine lv_iconst (v := 0) hx hb dX12_offsetOf_63 (by decide) ?_
              obtain rfl := Option.some.inj hs
              exact KJ64 _ _ _ (lv_sub hl [0, 1, 3] rfl) M
            · rw [if_neg c13] at hs
              refine lv_iconst (v := 1) hx hb dX12_offsetOf_59 (by decide) ?_
              refine lv_goto (tgt := 64) hx hb dX12_offsetOf_60 (by decide) ?_
              obtain rfl := Option.some.inj hs
              exact KJ64 _ _ _ (lv_sub hl [0, 1, 3] rfl) M
set_option maxHeartbeats 4000000 in
set_option maxRecDepth 100000 in
theorem w_X12_offsetOf_L216 {p : Program} {l : Launch} {e : Env} {s : State} {m : MethodId} {args : Array Value} {below : List Frame} {meth : Method} {c : Code} {D : va_G} {cy : Nat → ClassId} {A : Nat → Prop} {H0 : Heap} {N th : Nat} {x1 : Int32} {x2 : Int32} {x6 : Int32} {x7 : Int32} {x8 : Int32} {h : IH} {qF : Int64} (F : Fx p s m args meth c D cy A H0 yX12_offsetOf cX12_offsetOf 13 (some .long)) : ∀ (n : Nat) (x3 : Int64) (x5 : Int32) (x9 : Int32) (ls : Array Slot) (H : Heap) (locs : List Loc) (q : Int64 × Int32), s_X12_offsetOf_L216 N n th x1 x2 x3 x5 x6 x7 x8 x9 h = some q → lv_has ls 13 [(0, .ref th), (1, .int x1), (2, .int x2), (3, .long x3), (5, .int x5), (6, .int x6), (7, .int x7), (8, .int x8), (9, .int x9)] → Mo D cy A H0 h H locs → (∀ (t : Int64 × Int32) (ls : Array Slot) (H : Heap) (locs : List Loc), q = t → lv_has ls 13 [(0, .ref th), (1, .int x1), (2, .int x2), (3, .long t.1), (5, .int t.2), (6, .int x6), (7, .int x7), (8, .int x8)] → Mo D cy A H0 h H locs → W p l e rm_X12_offsetOf s m args below meth c H locs 0 0 (MQ below (QR D cy h A (some (.long qF))) args s 0 0 A) (F0 m 324 ls [])) → (∀ v : Int64, False → v = qF) → W p l e rm_X12_offsetOf s m args below meth c H locs 0 0 (MQ below (QR D cy h A (some (.long qF))) args s 0 0 A) (F0 m 216 ls []) := by
  intro n
  induction n with
  | zero => intro x3 x5 x9 ls H locs q hs; rw [s_X12_offsetOf_L216.eq_1] at hs; cases hs
  | succ n ih =>
    intro x3 x5 x9 ls H locs q hs hl M kx kr
    obtain ⟨hx, hb, hr, hml, hown, hlk, hts, hK, hN, hA, hH⟩ := id F
    rw [s_X12_offsetOf_L216.eq_2] at hs
    refine lv_iload hx hb dX12_offsetOf_216 (lv_at hl 8 rfl) ?_
    refine lv_iconst (v := 2) hx hb dX12_offsetOf_218 (by decide) ?_
    refine lv_icmp_ge (tgt := 324) hx hb dX12_offsetOf_219 (by decide) (fun c39 => ?_) (fun c39 => ?_)
    · rw [if_pos c39] at hs
      exact kx (x3, x5) _ _ _ (Option.some.inj hs).symm (lv_sub hl [0, 1, 2, 3, 4, 5, 6, 7] rfl) M
    · rw [if_neg c39] at hs
      refine lv_aload_n hx hb dX12_offsetOf_222 rfl (lv_at hl 0 rfl) ?_
      obtain ⟨v40, g_v40, hs⟩ := bd hs
      refine ro_gR F M fg_12_11 t_1017 g_v40 dX12_offsetOf_223 ?_
      refine lv_iload hx hb dX12_offsetOf_226 (lv_at hl 7 rfl) ?_
      obtain ⟨v41, g_v41, hs⟩ := bd hs
      refine ro_aJ F M g_v41 dX12_offsetOf_228 ?_
      refine lv_aload_n hx hb dX12_offsetOf_229 rfl (lv_at hl 0 rfl) ?_
      obtain ⟨v42, g_v42, hs⟩ := bd hs
      refine ro_gR F M fg_12_11 t_1017 g_v42 dX12_offsetOf_230 ?_
      refine lv_iload hx hb dX12_offsetOf_233 (lv_at hl 5 rfl) ?_
      obtain ⟨v43, g_v43, hs⟩ := bd hs
      refine ro_aJ F M g_v43 dX12_offsetOf_235 ?_
      refine lv_lsub hx hb dX12_offsetOf_236 ?_
      refine lv_iload hx hb dX12_offsetOf_237 (lv_at hl 8 rfl) ?_
      refine lv_i2l hx hb dX12_offsetOf_239 rfl ?_
      refine lv_aload_n hx hb dX12_offsetOf_240 rfl (lv_at hl 0 rfl) ?_
      obtain ⟨v44, g_v44, hs⟩ := bd hs
      refine ro_gI F M fg_12_21 t_1027 g_v44 dX12_offsetOf_241 ?_
      refine lv_i2l hx hb dX12_offsetOf_244 rfl ?_
      refine lv_lmul hx hb dX12_offsetOf_245 ?_
      refine lv_ladd hx hb dX12_offsetOf_246 ?_
      refine lv_lstore (i := 10) (lv' := [(10, .long ((v41 - v43) + (x9.toInt64 * v44.toInt64))), (0, .ref th), (1, .int x1), (2, .int x2), (3, .long x3), (5, .int x5), (6, .int x6), (7, .int x7), (8, .int x8), (9, .int x9)]) hx hb dX12_offsetOf_247 hl (by decide) rfl (fun ls hl => ?_)
      refine lv_iload hx hb dX12_offsetOf_249 (lv_at hl 5 rfl) ?_
      obtain ⟨q53, hsq53, hs⟩ := bd hs
      have KJ292 : ∀ (ls : Array Slot) (H : Heap) (locs : List Loc), lv_has ls 13 [(0, .ref th), (1, .int x1), (2, .int x2), (3, .long x3), (5, .int x5), (6, .int x6), (7, .int x7), (8, .int x8), (9, .int x9), (10, .long ((v41 - v43) + (x9.toInt64 * v44.toInt64)))] → Mo D cy A H0 h H locs → W p l e rm_X12_offsetOf s m args below meth c H locs 0 0 (MQ below (QR D cy h A (some (.long qF))) args s 0 0 A) (F0 m 292 ls [.int q53]) := by
        intro ls H locs hl M
        refine lv_istore (i := 12) (lv' := [(12, .int q53), (0, .ref th), (1, .int x1), (2, .int x2), (3, .long x3), (5, .int x5), (6, .int x6), (7, .int x7), (8, .int x8), (9, .int x9), (10, .long ((v41 - v43) + (x9.toInt64 * v44.toInt64)))]) hx hb dX12_offsetOf_292 hl (by decide) rfl (fun ls hl => ?_)
        refine lv_iload hx hb dX12_offsetOf_294 (lv_at hl 0 rfl) ?_
        obtain ⟨q58, hsq58, hs⟩ := bd hs
        have KJ318 : ∀ (ls : Array Slot) (H : Heap) (locs : List Loc), lv_has ls 13 [(0, .ref th), (1, .int x1), (2, .int x2), (3, .long q58.1), (5, .int q58.2), (6, .int x6), (7, .int x7), (8, .int x8), (9, .int x9)] → Mo D cy A H0 h H locs → W p l e rm_X12_offsetOf s m args below meth c H locs 0 0 (MQ below (QR D cy h A (some (.long qF))) args s 0 0 A) (F0 m 318 ls []) := by
          intro ls H locs hl M
          refine lv_iinc (v := x9 + 2) (lv' := [(9, .int (x9 + 2)), (0, .ref th), (1, .int x1), (2, .int x2), (3, .long q58.1), (5, .int q58.2), (6, .int x6), (7, .int x7), (8, .int x8)]) hx hb dX12_offsetOf_318 hl (k := 8) rfl rfl (by decide) rfl (fun ls hl => ?_)
          refine lv_goto (tgt := 216) hx hb dX12_offsetOf_321 (by decide) ?_
          exact ih q58.1 q58.2 (x9 + 2) _ _ _ _ hs (lv_sub hl [1, 2, 3, 4, 5, 6, 7, 8, 0] rfl) M kx kr
        clear hs
        have hs := hsq58
        refine lv_if_eq (tgt := 318) hx hb dX12_offsetOf_296 (by decide) (fun c54 => ?_) (fun c54 => ?_)
        · rw [if_pos c54] at hs
          obtain rfl := Option.some.inj hs
          exact KJ318 _ _ _ (lv_sub hl [1, 2, 3, 4, 5, 6, 7, 8, 9] rfl) M
        · rw [if_neg c54] at hs
          refine lv_iconst (v := 2) hx hb dX12_offsetOf_299 (by decide) ?_
          refine lv_aload_n hx hb dX12_offsetOf_300 rfl (lv_at hl 1 rfl) ?_
          refine lv_iload_n hx hb dX12_offsetOf_301 rfl (lv_at hl 2 rfl) ?_
          refine lv_lload hx hb dX12_offsetOf_302 (lv_at hl 10 rfl) ?_
          obtain ⟨v55, g_v55, hs⟩ := bd hs
          obtain ⟨a57, e_a57, k_a57, g_v55⟩ := cV_some g_v55
          obtain rfl := Option.some.inj e_a57
          refine ca_Vi (bq := th) (As := [.int x1, .long ((v41 - v43) + (x9.toInt64 * v44.toInt64))]) (rest := [.int 2]) F M (c_X12_agreeing g_v55) mf_X12_agreeing t_1364 k_a57 rfl ⟨by decide, by decide⟩ ⟨rfl, rfl⟩ ⟨Nat.zero_le _, Nat.zero_le _⟩ hl.1 rfl (by simp [cat_rf, cat_i, cat_j, cat_r]) dX12_offsetOf_304 (fun H locs M => ?_)
          refine lv_imul hx hb dX12_offsetOf_307 ?_
          refine lv_iload_n hx hb dX12_offsetOf_308 rfl (lv_at hl 3 rfl) ?_
          refine lv_icmp_le (tgt := 318) hx hb dX12_offsetOf_309 (by decide) (fun c56 => ?_) (fun c56 => ?_)
          · rw [if_pos c56] at hs
            obtain rfl := Option.some.inj hs
            exact KJ318 _ _ _ (lv_sub hl [1, 2, 3, 4, 5, 6, 7, 8, 9] rfl) M
          · rw [if_neg c56] at hs
            refine lv_iconst (v := 1) hx hb dX12_offsetOf_312 (by decide) ?_
            refine lv_istore (i := 5) (lv' := [(5, .int 1), (12, .int q53), (0, .ref th), (1, .int x1), (2, .int x2), (3, .long x3), (6, .int x6), (7, .int x7), (8, .int x8), (9, .int x9), (10, .long ((v41 - v43) + (x9.toInt64 * v44.toInt64)))]) hx hb dX12_offsetOf_313 hl (by decide) rfl (fun ls hl => ?_)
            refine lv_lload hx hb dX12_offsetOf_315 (lv_at hl 10 rfl) ?_
            refine lv_lstore_n (i := 3) (lv' := [(3, .long ((v41 - v43) + (x9.toInt64 * v44.toInt64))), (5, .int 1), (12, .int q53), (0, .ref th), (1, .int x1), (2, .int x2), (6, .int x6), (7, .int x7), (8, .int x8), (9, .int x9), (10, .long ((v41 - v43) + (x9.toInt64 * v44.toInt64)))]) hx hb dX12_offsetOf_317 rfl hl (by decide) rfl (fun ls hl => ?_)
            obtain rfl := Option.some.inj hs
            exact KJ318 _ _ _ (lv_sub hl [3, 4, 5, 0, 1, 6, 7, 8, 9] rfl) M
      clear hs
      have hs := hsq53
      refine lv_if_eq (tgt := 287) hx hb dX12_offsetOf_251 (by decide) (fun c45 => ?_) (fun c45 => ?_)
      · rw [if_pos c45] at hs
        refine lv_iconst (v := 1) hx hb dX12_offsetOf_287 (by decide) ?_
        refine lv_goto (tgt := 292) hx hb dX12_offsetOf_288 (by decide) ?_
        obtain rfl := Option.some.inj hs
        exact KJ292 _ _ _ (lv_sub hl [1, 2, 3, 4, 5, 6, 7, 8, 9, 0] rfl) M
      · rw [if_neg c45] at hs
        refine lv_lload hx hb dX12_offsetOf_254 (lv_at hl 0 rfl) ?_
        obtain ⟨v46, g_v46, hs⟩ := bd hs
        refine ca_Sl (As := [.long ((v41 - v43) + (x9.toInt64 * v44.toInt64))]) (rest := []) F M (c_X12_plain g_v46) mf_X12_plain t_1384 rfl ⟨by decide, by decide⟩ ⟨rfl, rfl⟩ ⟨Nat.zero_le _, Nat.zero_le _⟩ hl.1 rfl (by decide) dX12_offsetOf_256 (fun H locs M => ?_)
        refine lv_lload_n hx hb dX12_offsetOf_259 rfl (lv_at hl 4 rfl) ?_
        obtain ⟨v47, g_v47, hs⟩ := bd hs
        refine ca_Sl (As := [.long x3]) (rest := [.long v46]) F M (c_X12_plain g_v47) mf_X12_plain t_1384 rfl ⟨by decide, by decide⟩ ⟨rfl, rfl⟩ ⟨Nat.zero_le _, Nat.zero_le _⟩ hl.1 rfl (by simp [cat_rf, cat_i, cat_j, cat_r]) dX12_offsetOf_260 (fun H locs M => ?_)
        refine W.lcmp hx hb dX12_offsetOf_263 ?_
        refine lv_if_lt (tgt := 287) hx hb dX12_offsetOf_264 (by decide) (fun c48 => ?_) (fun c48 => ?_)
        · rw [if_pos c48] at hs
          refine lv_iconst (v := 1) hx hb dX12_offsetOf_287 (by decide) ?_
          refine lv_goto (tgt := 292) hx hb dX12_offsetOf_288 (by decide) ?_
          obtain rfl := Option.some.inj hs
          exact KJ292 _ _ _ (lv_sub hl [1, 2, 3, 4, 5, 6, 7, 8, 9, 0] rfl) M
        · rw [if_neg c48] at hs
          refine lv_lload hx hb dX12_offsetOf_267 (lv_at hl 0 rfl) ?_
          obtain ⟨v49, g_v49, hs⟩ := bd hs
          refine ca_Sl (As := [.long ((v41 - v43) + (x9.toInt64 * v44.toInt64))]) (rest := []) F M (c_X12_plain g_v49) mf_X12_plain t_1384 rfl ⟨by decide, by decide⟩ ⟨rfl, rfl⟩ ⟨Nat.zero_le _, Nat.zero_le _⟩ hl.1 rfl (by decide) dX12_offsetOf_269 (fun H locs M => ?_)
          refine lv_lload_n hx hb dX12_offsetOf_272 rfl (lv_at hl 4 rfl) ?_
          obtain ⟨v50, g_v50, hs⟩ := bd hs
          refine ca_Sl (As := [.long x3]) (rest := [.long v49]) F M (c_X12_plain g_v50) mf_X12_plain t_1384 rfl ⟨by decide, by decide⟩ ⟨rfl, rfl⟩ ⟨Nat.zero_le _, Nat.zero_le _⟩ hl.1 rfl (by simp [cat_rf, cat_i, cat_j, cat_r]) dX12_offsetOf_273 (fun H locs M => ?_)
          refine W.lcmp hx hb dX12_offsetOf_276 ?_
          refine lv_if_ne (tgt := 291) hx hb dX12_offsetOf_277 (by decide) (fun c51 => ?_) (fun c51 => ?_)
          · rw [if_neg c51] at hs
            refine lv_iconst (v := 0) hx hb dX12_offsetOf_291 (by decide) ?_
            obtain rfl := Option.some.inj hs
            exact KJ292 _ _ _ (lv_sub hl [1, 2, 3, 4, 5, 6, 7, 8, 9, 0] rfl) M
          · rw [if_pos c51] at hs
            refine lv_lload hx hb dX12_offsetOf_280 (lv_at hl 0 rfl) ?_
            refine lv_lload_n hx hb dX12_offsetOf_282 rfl (lv_at hl 4 rfl) ?_
            refine W.lcmp hx hb dX12_offsetOf_283 ?_
            refine lv_if_ge (tgt := 291) hx hb dX12_offsetOf_284 (by decide) (fun c52 => ?_) (fun c52 => ?_)
            · rw [if_pos c52] at hs
              refine lv_iconst (v := 0) hx hb dX12_offsetOf_291 (by decide) ?_
              obtain rfl := Option.some.inj hs
              exact KJ292 _ _ _ (lv_sub hl [1, 2, 3, 4, 5, 6, 7, 8, 9, 0] rfl) M
            · rw [if_neg c52] at hs
              refine lv_iconst (v := 1) hx hb dX12_offsetOf_287 (by decide) ?_
              refine lv_goto (tgt := 292) hx hb dX12_offsetOf_288 (by decide) ?_
              obtain rfl := Option.some.inj hs
              exact KJ292 _ _ _ (lv_sub hl [1, 2, 3, 4, 5, 6, 7, 8, 9, 0] rfl) M
set_option maxHeartbeats 4000000 in
set_option maxRecDepth 100000 in
theorem w_X12_offsetOf_L169 {p : Program} {l : Launch} {e : Env} {s : State} {m : MethodId} {args : Array Value} {below : List Frame} {meth : Method} {c : Code} {D : va_G} {cy : Nat → ClassId} {A : Nat → Prop} {H0 : Heap} {N th : Nat} {x1 : Int32} {x2 : Int32} {x6 : Int32} {x7 : Int32} {h : IH} {qF : Int64} (F : Fx p s m args meth c D cy A H0 yX12_offsetOf cX12_offsetOf 13 (some .long)) : ∀ (n : Nat) (x3 : Int64) (x5 : Int32) (x8 : Int32) (ls : Array Slot) (H : Heap) (locs : List Loc) (q : Int64 × Int32), s_X12_offsetOf_L169 N n th x1 x2 x3 x5 x6 x7 x8 h = some q → lv_has ls 13 [(0, .ref th), (1, .int x1), (2, .int x2), (3, .long x3), (5, .int x5), (6, .int x6), (7, .int x7), (8, .int x8)] → Mo D cy A H0 h H locs → (∀ (t : Int64 × Int32) (ls : Array Slot) (H : Heap) (locs : List Loc), q = t → lv_has ls 13 [(0, .ref th), (1, .int x1), (2, .int x2), (3, .long t.1), (5, .int t.2), (6, .int x6)] → Mo D cy A H0 h H locs → W p l e rm_X12_offsetOf s m args below meth c H locs 0 0 (MQ below (QR D cy h A (some (.long qF))) args s 0 0 A) (F0 m 330 ls [])) → (∀ v : Int64, False → v = qF) → W p l e rm_X12_offsetOf s m args below meth c H locs 0 0 (MQ below (QR D cy h A (some (.long qF))) args s 0 0 A) (F0 m 169 ls []) := by
  intro n
  induction n with
  | zero => intro x3 x5 x8 ls H locs q hs; rw [s_X12_offsetOf_L169.eq_1] at hs; cases hs
  | succ n ih =>
    intro x3 x5 x8 ls H locs q hs hl M kx kr
    obtain ⟨hx, hb, hr, hml, hown, hlk, hts, hK, hN, hA, hH⟩ := id F
    rw [s_X12_offsetOf_L169.eq_2] at hs
    refine lv_iload hx hb dX12_offsetOf_169 (lv_at hl 7 rfl) ?_
    refine lv_iload hx hb dX12_offsetOf_171 (lv_at hl 6 rfl) ?_
    refine lv_bipush (v := 16) hx hb dX12_offsetOf_173 (by decide) ?_
    refine lv_iadd hx hb dX12_offsetOf_175 ?_
    refine lv_icmp_ge (tgt := 330) hx hb dX12_offsetOf_176 (by decide) (fun c31 => ?_) (fun c31 => ?_)
    · rw [if_pos c31] at hs
      exact kx (x3, x5) _ _ _ (Option.some.inj hs).symm (lv_sub hl [0, 1, 2, 3, 4, 5] rfl) M
    · rw [if_neg c31] at hs
      refine lv_aload_n hx hb dX12_offsetOf_179 rfl (lv_at hl 0 rfl) ?_
      refine lv_iload hx hb dX12_offsetOf_180 (lv_at hl 7 rfl) ?_
      obtain ⟨v32, g_v32, hs⟩ := bd hs
      obtain ⟨a62, e_a62, k_a62, g_v32⟩ := cV_some g_v32
      obtain rfl := Option.some.inj e_a62
      refine ca_Vi (bq := th) (As := [.int x8]) (rest := []) F M (c_X12_isContactAt g_v32) mf_X12_isContactAt t_1352 k_a62 rfl ⟨by decide, by decide⟩ ⟨rfl, rfl⟩ ⟨Nat.zero_le _, Nat.zero_le _⟩ hl.1 rfl (by decide) dX12_offsetOf_182 (fun H locs M => ?_)
      obtain ⟨q61, hsq61, hs⟩ := bd hs
      have KJ324 : ∀ (ls : Array Slot) (H : Heap) (locs : List Loc), lv_has ls 13 [(0, .ref th), (1, .int x1), (2, .int x2), (3, .long q61.1), (5, .int q61.2), (6, .int x6), (7, .int x7), (8, .int x8)] → Mo D cy A H0 h H locs → W p l e rm_X12_offsetOf s m args below meth c H locs 0 0 (MQ below (QR D cy h A (some (.long qF))) args s 0 0 A) (F0 m 324 ls []) := by
        intro ls H locs hl M
        refine lv_iinc (v := x8 + 1) (lv' := [(8, .int (x8 + 1)), (0, .ref th), (1, .int x1), (2, .int x2), (3, .long q61.1), (5, .int q61.2), (6, .int x6), (7, .int x7)]) hx hb dX12_offsetOf_324 hl (k := 7) rfl rfl (by decide) rfl (fun ls hl => ?_)
        refine lv_goto (tgt := 169) hx hb dX12_offsetOf_327 (by decide) ?_
        exact ih q61.1 q61.2 (x8 + 1) _ _ _ _ hs (lv_sub hl [1, 2, 3, 4, 5, 6, 7, 0] rfl) M kx kr
      clear hs
      have hs := hsq61
      refine lv_if_eq (tgt := 324) hx hb dX12_offsetOf_185 (by decide) (fun c33 => ?_) (fun c33 => ?_)
      · rw [if_pos c33] at hs
        obtain rfl := Option.some.inj hs
        exact KJ324 _ _ _ (lv_sub hl [0, 1, 2, 3, 4, 5, 6, 7] rfl) M
      · rw [if_neg c33] at hs
        refine lv_aload_n hx hb dX12_offsetOf_188 rfl (lv_at hl 0 rfl) ?_
        obtain ⟨v34, g_v34, hs⟩ := bd hs
        refine ro_gR F M fg_12_18 t_1024 g_v34 dX12_offsetOf_189 ?_
        refine lv_iload hx hb dX12_offsetOf_192 (lv_at hl 7 rfl) ?_
        obtain ⟨v35, g_v35, hs⟩ := bd hs
        refine ro_aI F M g_v35 dX12_offsetOf_194 ?_
        refine lv_iload_n hx hb dX12_offsetOf_195 rfl (lv_at hl 1 rfl) ?_
        refine lv_icmp_ne (tgt := 324) hx hb dX12_offsetOf_196 (by decide) (fun c36 => ?_) (fun c36 => ?_)
        · rw [if_neg c36] at hs
          obtain rfl := Option.some.inj hs
          exact KJ324 _ _ _ (lv_sub hl [0, 1, 2, 3, 4, 5, 6, 7] rfl) M
        · rw [if_pos c36] at hs
          refine lv_aload_n hx hb dX12_offsetOf_199 rfl (lv_at hl 0 rfl) ?_
          refine lv_iload hx hb dX12_offsetOf_200 (lv_at hl 5 rfl) ?_
          refine lv_iload hx hb dX12_offsetOf_202 (lv_at hl 7 rfl) ?_
          obtain ⟨v37, g_v37, hs⟩ := bd hs
          obtain ⟨a60, e_a60, k_a60, g_v37⟩ := cV_some g_v37
          obtain rfl := Option.some.inj e_a60
          refine ca_Vi (bq := th) (As := [.int x6, .int x8]) (rest := []) F M (c_X12_fit g_v37) mf_X12_fit t_1372 k_a60 rfl ⟨by decide, by decide⟩ ⟨rfl, rfl⟩ ⟨Nat.zero_le _, Nat.zero_le _⟩ hl.1 rfl (by decide) dX12_offsetOf_204 (fun H locs M => ?_)
          refine lv_if_ne (tgt := 213) hx hb dX12_offsetOf_207 (by decide) (fun c38 => ?_) (fun c38 => ?_)
          · rw [if_neg c38] at hs
            refine lv_iconst (v := (-1)) hx hb dX12_offsetOf_213 (by decide) ?_
            refine lv_istore (i := 9) (lv' := [(9, .int (-1)), (0, .ref th), (1, .int x1), (2, .int x2), (3, .long x3), (5, .int x5), (6, .int x6), (7, .int x7), (8, .int x8)]) hx hb dX12_offsetOf_214 hl (by decide) rfl (fun ls hl => ?_)
            obtain ⟨q59, g_q59, hs⟩ := bd hs
            refine w_X12_offsetOf_L216 F N x3 x5 (-1) _ _ _ q59 g_q59 (lv_sub hl [1, 2, 3, 4, 5, 6, 7, 8, 0] rfl) M (fun t_ ls H locs eq_ hl M => ?_) (fun v eq_ => eq_.elim)
            subst eq_
            obtain rfl := Option.some.inj hs
            exact KJ324 _ _ _ (lv_sub hl [0, 1, 2, 3, 4, 5, 6, 7] rfl) M
          · rw [if_pos c38] at hs
            refine lv_goto (tgt := 324) hx hb dX12_offsetOf_210 (by decide) ?_
            obtain rfl := Option.some.inj hs
            exact KJ324 _ _ _ (lv_sub hl [0, 1, 2, 3, 4, 5, 6, 7] rfl) M
set_option maxHeartbeats 4000000 in
set_option maxRecDepth 100000 in
theorem w_X12_offsetOf_L97 {p : Program} {l : Launch} {e : Env} {s : State} {m : MethodId} {args : Array Value} {below : List Frame} {meth : Method} {c : Code} {D : va_G} {cy : Nat → ClassId} {A : Nat → Prop} {H0 : Heap} {N th : Nat} {x1 : Int32} {x2 : Int32} {h : IH} {qF : Int64} (F : Fx p s m args meth c D cy A H0 yX12_offsetOf cX12_offsetOf 13 (some .long)) : ∀ (n : Nat) (x3 : Int64) (x5 : Int32) (x6 : Int32) (ls : Array Slot) (H : Heap) (locs : List Loc) (q : Int64), s_X12_offsetOf_L97 N n th x1 x2 x3 x5 x6 h = some q → lv_has ls 13 [(0, .ref th), (1, .int x1), (2, .int x2), (3, .long x3), (5, .int x5), (6, .int x6)] → Mo D cy A H0 h H locs → (∀ (t : Int64) (ls : Array Slot) (H : Heap) (locs : List Loc), q = t → lv_has ls 13 [(3, .long t)] → Mo D cy A H0 h H locs → W p l e rm_X12_offsetOf s m args below meth c H locs 0 0 (MQ below (QR D cy h A (some (.long qF))) args s 0 0 A) (F0 m 336 ls [])) → (∀ v : Int64, False → v = qF) → W p l e rm_X12_offsetOf s m args below meth c H locs 0 0 (MQ below (QR D cy h A (some (.long qF))) args s 0 0 A) (F0 m 97 ls []) := by
  intro n
  induction n with
  | zero => intro x3 x5 x6 ls H locs q hs; rw [s_X12_offsetOf_L97.eq_1] at hs; cases hs
  | succ n ih =>
    intro x3 x5 x6 ls H locs q hs hl M kx kr
    obtain ⟨hx, hb, hr, hml, hown, hlk, hts, hK, hN, hA, hH⟩ := id F
    rw [s_X12_offsetOf_L97.eq_2] at hs
    refine lv_iload hx hb dX12_offsetOf_97 (lv_at hl 5 rfl) ?_
    refine lv_bipush (v := 48) hx hb dX12_offsetOf_99 (by decide) ?_
    refine lv_iload_n hx hb dX12_offsetOf_101 rfl (lv_at hl 1 rfl) ?_
    refine lv_imul hx hb dX12_offsetOf_102 ?_
    refine lv_bipush (v := 48) hx hb dX12_offsetOf_103 (by decide) ?_
    refine lv_iadd hx hb dX12_offsetOf_105 ?_
    refine lv_icmp_ge (tgt := 336) hx hb dX12_offsetOf_106 (by decide) (fun c20 => ?_) (fun c20 => ?_)
    · rw [if_pos c20] at hs
      exact kx x3 _ _ _ (Option.some.inj hs).symm (lv_sub hl [3] rfl) M
    · rw [if_neg c20] at hs
      refine lv_aload_n hx hb dX12_offsetOf_109 rfl (lv_at hl 0 rfl) ?_
      refine lv_iload hx hb dX12_offsetOf_110 (lv_at hl 5 rfl) ?_
      obtain ⟨v21, g_v21, hs⟩ := bd hs
      obtain ⟨a65, e_a65, k_a65, g_v21⟩ := cV_some g_v21
      obtain rfl := Option.some.inj e_a65
      refine ca_Vi (bq := th) (As := [.int x6]) (rest := []) F M (c_X12_isContactAt g_v21) mf_X12_isContactAt t_1352 k_a65 rfl ⟨by decide, by decide⟩ ⟨rfl, rfl⟩ ⟨Nat.zero_le _, Nat.zero_le _⟩ hl.1 rfl (by decide) dX12_offsetOf_112 (fun H locs M => ?_)
      obtain ⟨q64, hsq64, hs⟩ := bd hs
      have KJ330 : ∀ (ls : Array Slot) (H : Heap) (locs : List Loc), lv_has ls 13 [(0, .ref th), (1, .int x1), (2, .int x2), (3, .long q64.1), (5, .int q64.2), (6, .int x6)] → Mo D cy A H0 h H locs → W p l e rm_X12_offsetOf s m args below meth c H locs 0 0 (MQ below (QR D cy h A (some (.long qF))) args s 0 0 A) (F0 m 330 ls []) := by
        intro ls H locs hl M
        refine lv_iinc (v := x6 + 1) (lv' := [(6, .int (x6 + 1)), (0, .ref th), (1, .int x1), (2, .int x2), (3, .long q64.1), (5, .int q64.2)]) hx hb dX12_offsetOf_330 hl (k := 5) rfl rfl (by decide) rfl (fun ls hl => ?_)
        refine lv_goto (tgt := 97) hx hb dX12_offsetOf_333 (by decide) ?_
        exact ih q64.1 q64.2 (x6 + 1) _ _ _ _ hs (lv_sub hl [1, 2, 3, 4, 5, 0] rfl) M kx kr
      clear hs
      have hs := hsq64
      refine lv_if_eq (tgt := 330) hx hb dX12_offsetOf_115 (by decide) (fun c22 => ?_) (fun c22 => ?_)
      · rw [if_pos c22] at hs
        obtain rfl := Option.some.inj hs
        exact KJ330 _ _ _ (lv_sub hl [0, 1, 2, 3, 4, 5] rfl) M
      · rw [if_neg c22] at hs
        refine lv_aload_n hx hb dX12_offsetOf_118 rfl (lv_at hl 0 rfl) ?_
        obtain ⟨v23, g_v23, hs⟩ := bd hs
        refine ro_gR F M fg_12_18 t_1024 g_v23 dX12_offsetOf_119 ?_
        refine lv_iload hx hb dX12_offsetOf_122 (lv_at hl 5 rfl) ?_
        obtain ⟨v24, g_v24, hs⟩ := bd hs
        refine ro_aI F M g_v24 dX12_offsetOf_124 ?_
        refine lv_if_lt (tgt := 330) hx hb dX12_offsetOf_125 (by decide) (fun c25 => ?_) (fun c25 => ?_)
        · rw [if_pos c25] at hs
          obtain rfl := Option.some.inj hs
          exact KJ330 _ _ _ (lv_sub hl [0, 1, 2, 3, 4, 5] rfl) M
        · rw [if_neg c25] at hs
          refine lv_aload_n hx hb dX12_offsetOf_128 rfl (lv_at hl 0 rfl) ?_
          obtain ⟨v26, g_v26, hs⟩ := bd hs
          refine ro_gR F M fg_12_18 t_1024 g_v26 dX12_offsetOf_129 ?_
          refine lv_iload hx hb dX12_offsetOf_132 (lv_at hl 5 rfl) ?_
          obtain ⟨v27, g_v27, hs⟩ := bd hs
          refine ro_aI F M g_v27 dX12_offsetOf_134 ?_
          refine lv_iload_n hx hb dX12_offsetOf_135 rfl (lv_at hl 1 rfl) ?_
          refine lv_icmp_ne (tgt := 142) hx hb dX12_offsetOf_136 (by decide) (fun c28 => ?_) (fun c28 => ?_)
          · rw [if_neg c28] at hs
            refine lv_bipush (v := 48) hx hb dX12_offsetOf_142 (by decide) ?_
            refine lv_aload_n hx hb dX12_offsetOf_144 rfl (lv_at hl 0 rfl) ?_
            obtain ⟨v29, g_v29, hs⟩ := bd hs
            refine ro_gR F M fg_12_18 t_1024 g_v29 dX12_offsetOf_145 ?_
            refine lv_iload hx hb dX12_offsetOf_148 (lv_at hl 5 rfl) ?_
            obtain ⟨v30, g_v30, hs⟩ := bd hs
            refine ro_aI F M g_v30 dX12_offsetOf_150 ?_
            refine lv_imul hx hb dX12_offsetOf_151 ?_
            refine lv_iload hx hb dX12_offsetOf_152 (lv_at hl 5 rfl) ?_
            refine lv_bipush (v := 16) hx hb dX12_offsetOf_154 (by decide) ?_
            refine lv_idiv hx hb dX12_offsetOf_156 (by decide) ?_
            refine lv_iconst (v := 3) hx hb dX12_offsetOf_157 (by decide) ?_
            refine lv_irem hx hb dX12_offsetOf_158 (by decide) ?_
            refine lv_bipush (v := 16) hx hb dX12_offsetOf_159 (by decide) ?_
            refine lv_imul hx hb dX12_offsetOf_161 ?_
            refine lv_iadd hx hb dX12_offsetOf_162 ?_
            refine lv_istore (i := 7) (lv' := [(7, .int ((48 * v30) + (((x6 / 16) - (x6 / 16) / 3 * 3) * 16))), (0, .ref th), (1, .int x1), (2, .int x2), (3, .long x3), (5, .int x5), (6, .int x6)]) hx hb dX12_offsetOf_163 hl (by decide) rfl (fun ls hl => ?_)
            refine lv_iload hx hb dX12_offsetOf_165 (lv_at hl 0 rfl) ?_
            refine lv_istore (i := 8) (lv' := [(8, .int ((48 * v30) + (((x6 / 16) - (x6 / 16) / 3 * 3) * 16))), (7, .int ((48 * v30) + (((x6 / 16) - (x6 / 16) / 3 * 3) * 16))), (0, .ref th), (1, .int x1), (2, .int x2), (3, .long x3), (5, .int x5), (6, .int x6)]) hx hb dX12_offsetOf_167 hl (by decide) rfl (fun ls hl => ?_)
            obtain ⟨q63, g_q63, hs⟩ := bd hs
            refine w_X12_offsetOf_L169 F N x3 x5 ((48 * v30) + (((x6 / 16) - (x6 / 16) / 3 * 3) * 16)) _ _ _ q63 g_q63 (lv_sub hl [2, 3, 4, 5, 6, 7, 1, 0] rfl) M (fun t_ ls H locs eq_ hl M => ?_) (fun v eq_ => eq_.elim)
            subst eq_
            obtain rfl := Option.some.inj hs
            exact KJ330 _ _ _ (lv_sub hl [0, 1, 2, 3, 4, 5] rfl) M
          · rw [if_pos c28] at hs
            refine lv_goto (tgt := 330) hx hb dX12_offsetOf_139 (by decide) ?_
            obtain rfl := Option.some.inj hs
            exact KJ330 _ _ _ (lv_sub hl [0, 1, 2, 3, 4, 5] rfl) M
set_option maxHeartbeats 4000000 in
set_option maxRecDepth 100000 in
theorem c_X12_offsetOf {l : Launch} {D : va_G} {cy : Nat → ClassId} {sz N : Nat} {h : IH} {th : Nat} {a0 : Int32} {qF : Int64} (hs : s_X12_offsetOf N h th a0 = some qF) : Ct l D cy yX12_offsetOf cX12_offsetOf 13 (some .long) rm_X12_offsetOf h sz [.ref th, .int a0] h (some (.long qF)) := by
  refine ct_start (by decide +kernel) [(0, .ref th), (1, .int a0)] (Nat.le_of_ble_eq_true rfl) rfl ?_
  intro p e s m args below meth c A H0 ls F hin hsz M hl
  obtain ⟨hx, hb, hr, hml, hown, hlk, hts, hK, hN, hA, hH⟩ := id F
  generalize s.heap = H at M ⊢
  generalize ([] : List Loc) = locs at M ⊢
  unfold s_X12_offsetOf at hs
  refine lv_iconst (v := 0) hx hb dX12_offsetOf_0 (by decide) ?_
  refine lv_istore_n (i := 2) (lv' := [(2, .int 0), (0, .ref th), (1, .int a0)]) hx hb dX12_offsetOf_1 rfl hl (by decide) rfl (fun ls hl => ?_)
  refine lv_bipush (v := 48) hx hb dX12_offsetOf_2 (by decide) ?_
  refine lv_iload_n hx hb dX12_offsetOf_4 rfl (lv_at hl 2 rfl) ?_
  refine lv_imul hx hb dX12_offsetOf_5 ?_
  refine lv_istore_n (i := 3) (lv' := [(3, .int (48 * a0)), (2, .int 0), (0, .ref th), (1, .int a0)]) hx hb dX12_offsetOf_6 rfl hl (by decide) rfl (fun ls hl => ?_)
  obtain ⟨q17, g_q17, hs⟩ := bd hs
  refine w_X12_offsetOf_L7 F N 0 (48 * a0) _ _ _ q17 g_q17 (lv_sub hl [2, 3, 1, 0] rfl) M (fun t_ ls H locs eq_ hl M => ?_) (fun v eq_ => eq_.elim)
  subst eq_
  refine lv_iconst (v := 2) hx hb dX12_offsetOf_72 (by decide) ?_
  refine lv_aload_n hx hb dX12_offsetOf_73 rfl (lv_at hl 0 rfl) ?_
  refine lv_iload_n hx hb dX12_offsetOf_74 rfl (lv_at hl 1 rfl) ?_
  refine lv_lconst (v := 0) hx hb dX12_offsetOf_75 (by decide) ?_
  obtain ⟨v18, g_v18, hs⟩ := bd hs
  obtain ⟨a67, e_a67, k_a67, g_v18⟩ := cV_some g_v18
  obtain rfl := Option.some.inj e_a67
  refine ca_Vi (bq := th) (As := [.int a0, .long 0]) (rest := [.int 2]) F M (c_X12_agreeing g_v18) mf_X12_agreeing t_1364 k_a67 rfl ⟨by decide, by decide⟩ ⟨rfl, rfl⟩ ⟨Nat.zero_le _, Nat.zero_le _⟩ hl.1 rfl (by simp [cat_rf, cat_i, cat_j, cat_r]) dX12_offsetOf_76 (fun H locs M => ?_)
  refine lv_imul hx hb dX12_offsetOf_79 ?_
  refine lv_iload_n hx hb dX12_offsetOf_80 rfl (lv_at hl 2 rfl) ?_
  refine lv_icmp_le (tgt := 86) hx hb dX12_offsetOf_81 (by decide) (fun c19 => ?_) (fun c19 => ?_)
  · rw [if_pos c19] at hs
    refine lv_lconst (v := 0) hx hb dX12_offsetOf_86 (by decide) ?_
    refine lv_lstore_n (i := 3) (lv' := [(3, .long 0), (0, .ref th), (1, .int a0), (2, .int q17)]) hx hb dX12_offsetOf_87 rfl hl (by decide) rfl (fun ls hl => ?_)
    refine lv_iconst (v := 0) hx hb dX12_offsetOf_88 (by decide) ?_
    refine lv_istore (i := 5) (lv' := [(5, .int 0), (3, .long 0), (0, .ref th), (1, .int a0), (2, .int q17)]) hx hb dX12_offsetOf_89 hl (by decide) rfl (fun ls hl => ?_)
    refine lv_bipush (v := 48) hx hb dX12_offsetOf_91 (by decide) ?_
    refine lv_iload_n hx hb dX12_offsetOf_93 rfl (lv_at hl 3 rfl) ?_
    refine lv_imul hx hb dX12_offsetOf_94 ?_
    refine lv_istore (i := 6) (lv' := [(6, .int (48 * a0)), (5, .int 0), (3, .long 0), (0, .ref th), (1, .int a0), (2, .int q17)]) hx hb dX12_offsetOf_95 hl (by decide) rfl (fun ls hl => ?_)
    obtain ⟨q66, g_q66, hs⟩ := bd hs
    refine w_X12_offsetOf_L97 F N 0 0 (48 * a0) _ _ _ q66 g_q66 (lv_sub hl [3, 4, 5, 2, 1, 0] rfl) M (fun t_ ls H locs eq_ hl M => ?_) (fun v eq_ => eq_.elim)
    subst eq_
    refine lv_lload_n hx hb dX12_offsetOf_336 rfl (lv_at hl 0 rfl) ?_
    obtain rfl := Option.some.inj hs
    exact re_l F M dX12_offsetOf_337
  · rw [if_neg c19] at hs
    refine lv_lconst (v := 0) hx hb dX12_offsetOf_84 (by decide) ?_
    obtain rfl := Option.some.inj hs
    exact re_l F M dX12_offsetOf_85
abbrev rm_X12_lay : Room := { frames := 3, cells := 0, slots := 0, locals := 73 }
theorem mf_X12_lay : MV 12 yX12_lay cX12_lay 7 none 3 RX12 := ⟨t_1394, t_1393, tS_102, t_12, ⟨by decide +kernel, by decide +kernel, by decide +kernel⟩, rfl, by decide⟩
def s_X12_lay_L13 (N : Nat) : Nat → Nat → Int32 → Int32 → Int32 → Int32 → IH → Option (IH)
  | 0, _, _, _, _, _, _ => none
  | n + 1, th, x1, x2, x3, x4, h => if 16 ≤ x4 then some h else (gR h 12 62 (some th)).bind fun v4 => (sZ h v4 x4 0).bind fun h5 => (cV h5 12 (some th) fun a29 => s_X12_isContactAt h5 a29 (((48 * x1) + (16 * x3)) + x4)).bind fun v6 => ((if v6 = 0 then some h5 else (gR h5 12 18 (some th)).bind fun v8 => (aI h5 v8 (((48 * x1) + (16 * x3)) + x4)).bind fun v9 => if v9 = x2 then (gR h5 12 59 (some th)).bind fun v11 => (gI h5 12 57 (some th)).bind fun v12 => (sI h5 v11 v12 (((48 * x1) + (16 * x3)) + x4)).bind fun h13 => (gI h13 12 57 (some th)).bind fun v14 => (pI h13 12 57 (some th) (v14 + 1)).bind fun h15 => some h15 else some h5) : Option (IH)).bind fun q16 => (cV q16 12 (some th) fun a28 => s_X12_isContactAt q16 a28 (((48 * x2) + (16 * x3)) + x4)).bind fun v17 => ((if v17 = 0 then some q16 else (gR q16 12 18 (some th)).bind fun v19 => (aI q16 v19 (((48 * x2) + (16 * x3)) + x4)).bind fun v20 => if v20 = x1 then (gR q16 12 60 (some th)).bind fun v22 => (gI q16 12 58 (some th)).bind fun v23 => (sI q16 v22 v23 (((48 * x2) + (16 * x3)) + x4)).bind fun h24 => (gI h24 12 58 (some th)).bind fun v25 => (pI h24 12 58 (some th) (v25 + 1)).bind fun h26 => some h26 else some q16) : Option (IH)).bind fun q27 => s_X12_lay_L13 N n th x1 x2 x3 (x4 + 1) q27
def s_X12_lay_L159 (N : Nat) : Nat → Nat → Int32 → Int32 → Int32 → Int32 → IH → Option (IH)
  | 0, _, _, _, _, _, _ => none
  | n + 1, th, x1, x2, x4, x5, h => (gI h 12 58 (some th)).bind fun v33 => if v33 ≤ x5 then some h else (gR h 12 61 (some th)).bind fun v35 => (gR h 12 59 (some th)).bind fun v36 => (aI h v36 x4).bind fun v37 => (gR h 12 60 (some th)).bind fun v38 => (aI h v38 x5).bind fun v39 => (gR h 12 20 (some th)).bind fun v40 => (aJ h v40 x1).bind fun v41 => (gR h 12 20 (some th)).bind fun v42 => (aJ h v42 x2).bind fun v43 => (cV h 12 (some th) fun a46 => s_X12_distanceOf h a46 v37 v39 v41 v43).bind fun v44 => (sJ h v35 ((16 * x4) + x5) v44).bind fun h45 => s_X12_lay_L159 N n th x1 x2 x4 (x5 + 1) h45
def s_X12_lay_L147 (N : Nat) : Nat → Nat → Int32 → Int32 → Int32 → IH → Option (IH)
  | 0, _, _, _, _, _ => none
  | n + 1, th, x1, x2, x4, h => (gI h 12 57 (some th)).bind fun v31 => if v31 ≤ x4 then some h else (s_X12_lay_L159 N N th x1 x2 x4 0 h).bind fun q47 => s_X12_lay_L147 N n th x1 x2 (x4 + 1) q47
def s_X12_lay (N : Nat) (h : IH) (th : Nat) (a0 : Int32) (a1 : Int32) (a2 : Int32) : Option (IH) := (pI h 12 57 (some th) 0).bind fun h1 => (pI h1 12 58 (some th) 0).bind fun h2 => (s_X12_lay_L13 N N th a0 a1 a2 0 h2).bind fun q30 => (s_X12_lay_L147 N N th a0 a1 0 q30).bind fun q48 => some q48
set_option maxHeartbeats 4000000 in
set_option maxRecDepth 100000 in
theorem w_X12_lay_L13 {p : Program} {l : Launch} {e : Env} {s : State} {m : MethodId} {args : Array Value} {below : List Frame} {meth : Method} {c : Code} {D : va_G} {cy : Nat → ClassId} {A : Nat → Prop} {H0 : Heap} {N th : Nat} {x1 : Int32} {x2 : Int32} {x3 : Int32} {qF : IH} (F : Fx p s m args meth c D cy A H0 yX12_lay cX12_lay 7 none) : ∀ (n : Nat) (x4 : Int32) (h : IH) (ls : Array Slot) (H : Heap) (locs : List Loc) (q : IH), s_X12_lay_L13 N n th x1 x2 x3 x4 h = some q → lv_has ls 7 [(0, .ref th), (1, .int x1), (2, .int x2), (3, .int x3), (4, .int x4)] → Mo D cy A H0 h H locs → (∀ (t : IH) (ls : Array Slot) (H : Heap) (locs : List Loc), q = t → lv_has ls 7 [(0, .ref th), (1, .int x1), (2, .int x2)] → Mo D cy A H0 t H locs → W p l e rm_X12_lay s m args below meth c H locs 0 0 (MQ below (QR D cy qF A none) args s 0 0 A) (F0 m 144 ls [])) → (∀ v : IH, False → v = qF) → W p l e rm_X12_lay s m args below meth c H locs 0 0 (MQ below (QR D cy qF A none) args s 0 0 A) (F0 m 13 ls []) := by
  intro n
  induction n with
  | zero => intro x4 h ls H locs q hs; rw [s_X12_lay_L13.eq_1] at hs; cases hs
  | succ n ih =>
    intro x4 h ls H locs q hs hl M kx kr
    obtain ⟨hx, hb, hr, hml, hown, hlk, hts, hK, hN, hA, hH⟩ := id F
    rw [s_X12_lay_L13.eq_2] at hs
    refine lv_iload hx hb dX12_lay_13 (lv_at hl 4 rfl) ?_
    refine lv_bipush (v := 16) hx hb dX12_lay_15 (by decide) ?_
    refine lv_icmp_ge (tgt := 144) hx hb dX12_lay_17 (by decide) (fun c3 => ?_) (fun c3 => ?_)
    · rw [if_pos c3] at hs
      exact kx h _ _ _ (Option.some.inj hs).symm (lv_sub hl [0, 1, 2] rfl) M
    · rw [if_neg c3] at hs
      refine lv_bipush (v := 48) hx hb dX12_lay_20 (by decide) ?_
      refine lv_iload_n hx hb dX12_lay_22 rfl (lv_at hl 1 rfl) ?_
      refine lv_imul hx hb dX12_lay_23 ?_
      refine lv_bipush (v := 16) hx hb dX12_lay_24 (by decide) ?_
      refine lv_iload_n hx hb dX12_lay_26 rfl (lv_at hl 3 rfl) ?_
      refine lv_imul hx hb dX12_lay_27 ?_
      refine lv_iadd hx hb dX12_lay_28 ?_
      refine lv_iload hx hb dX12_lay_29 (lv_at hl 4 rfl) ?_
      refine lv_iadd hx hb dX12_lay_31 ?_
      refine lv_istore (i := 5) (lv' := [(5, .int (((48 * x1) + (16 * x3)) + x4)), (0, .ref th), (1, .int x1), (2, .int x2), (3, .int x3), (4, .int x4)]) hx hb dX12_lay_32 hl (by decide) rfl (fun ls hl => ?_)
      refine lv_bipush (v := 48) hx hb dX12_lay_34 (by decide) ?_
      refine lv_iload_n hx hb dX12_lay_36 rfl (lv_at hl 3 rfl) ?_
      refine lv_imul hx hb dX12_lay_37 ?_
      refine lv_bipush (v := 16) hx hb dX12_lay_38 (by decide) ?_
      refine lv_iload_n hx hb dX12_lay_40 rfl (lv_at hl 4 rfl) ?_
      refine lv_imul hx hb dX12_lay_41 ?_
      refine lv_iadd hx hb dX12_lay_42 ?_
      refine lv_iload hx hb dX12_lay_43 (lv_at hl 5 rfl) ?_
      refine lv_iadd hx hb dX12_lay_45 ?_
      refine lv_istore (i := 6) (lv' := [(6, .int (((48 * x2) + (16 * x3)) + x4)), (5, .int (((48 * x1) + (16 * x3)) + x4)), (0, .ref th), (1, .int x1), (2, .int x2), (3, .int x3), (4, .int x4)]) hx hb dX12_lay_46 hl (by decide) rfl (fun ls hl => ?_)
      refine lv_aload_n hx hb dX12_lay_48 rfl (lv_at hl 2 rfl) ?_
      obtain ⟨v4, g_v4, hs⟩ := bd hs
      refine ro_gR F M fg_12_62 t_1068 g_v4 dX12_lay_49 ?_
      refine lv_iload hx hb dX12_lay_52 (lv_at hl 6 rfl) ?_
      refine lv_iconst (v := 0) hx hb dX12_lay_54 (by decide) ?_
      obtain ⟨h5, g_h5, hs⟩ := bd hs
      refine ro_sZ F M g_h5 dX12_lay_55 (fun H locs M => ?_)
      refine lv_aload_n hx hb dX12_lay_56 rfl (lv_at hl 2 rfl) ?_
      refine lv_iload hx hb dX12_lay_57 (lv_at hl 1 rfl) ?_
      obtain ⟨v6, g_v6, hs⟩ := bd hs
      obtain ⟨a29, e_a29, k_a29, g_v6⟩ := cV_some g_v6
      obtain rfl := Option.some.inj e_a29
      refine ca_Vi (bq := th) (As := [.int (((48 * x1) + (16 * x3)) + x4)]) (rest := []) F M (c_X12_isContactAt g_v6) mf_X12_isContactAt t_1352 k_a29 rfl ⟨by decide, by decide⟩ ⟨rfl, rfl⟩ ⟨Nat.zero_le _, Nat.zero_le _⟩ hl.1 rfl (by decide) dX12_lay_59 (fun H locs M => ?_)
      obtain ⟨q16, hsq16, hs⟩ := bd hs
      have KJ97 : ∀ (ls : Array Slot) (H : Heap) (locs : List Loc), lv_has ls 7 [(0, .ref th), (1, .int x1), (2, .int x2), (3, .int x3), (4, .int x4), (6, .int (((48 * x2) + (16 * x3)) + x4))] → Mo D cy A H0 q16 H locs → W p l e rm_X12_lay s m args below meth c H locs 0 0 (MQ below (QR D cy qF A none) args s 0 0 A) (F0 m 97 ls []) := by
        intro ls H locs hl M
        refine lv_aload_n hx hb dX12_lay_97 rfl (lv_at hl 0 rfl) ?_
        refine lv_iload hx hb dX12_lay_98 (lv_at hl 5 rfl) ?_
        obtain ⟨v17, g_v17, hs⟩ := bd hs
        obtain ⟨a28, e_a28, k_a28, g_v17⟩ := cV_some g_v17
        obtain rfl := Option.some.inj e_a28
        refine ca_Vi (bq := th) (As := [.int (((48 * x2) + (16 * x3)) + x4)]) (rest := []) F M (c_X12_isContactAt g_v17) mf_X12_isContactAt t_1352 k_a28 rfl ⟨by decide, by decide⟩ ⟨rfl, rfl⟩ ⟨Nat.zero_le _, Nat.zero_le _⟩ hl.1 rfl (by decide) dX12_lay_100 (fun H locs M => ?_)
        obtain ⟨q27, hsq27, hs⟩ := bd hs
        have KJ138 : ∀ (ls : Array Slot) (H : Heap) (locs : List Loc), lv_has ls 7 [(0, .ref th), (1, .int x1), (2, .int x2), (3, .int x3), (4, .int x4)] → Mo D cy A H0 q27 H locs → W p l e rm_X12_lay s m args below meth c H locs 0 0 (MQ below (QR D cy qF A none) args s 0 0 A) (F0 m 138 ls []) := by
          intro ls H locs hl M
          refine lv_iinc (v := x4 + 1) (lv' := [(4, .int (x4 + 1)), (0, .ref th), (1, .int x1), (2, .int x2), (3, .int x3)]) hx hb dX12_lay_138 hl (k := 4) rfl rfl (by decide) rfl (fun ls hl => ?_)
          refine lv_goto (tgt := 13) hx hb dX12_lay_141 (by decide) ?_
          exact ih (x4 + 1) q27 _ _ _ _ hs (lv_sub hl [1, 2, 3, 4, 0] rfl) M kx kr
        clear hs
        have hs := hsq27
        refine lv_if_eq (tgt := 138) hx hb dX12_lay_103 (by decide) (fun c18 => ?_) (fun c18 => ?_)
        · rw [if_pos c18] at hs
          obtain rfl := Option.some.inj hs
          exact KJ138 _ _ _ (lv_sub hl [0, 1, 2, 3, 4] rfl) M
        · rw [if_neg c18] at hs
          refine lv_aload_n hx hb dX12_lay_106 rfl (lv_at hl 0 rfl) ?_
          obtain ⟨v19, g_v19, hs⟩ := bd hs
          refine ro_gR F M fg_12_18 t_1024 g_v19 dX12_lay_107 ?_
          refine lv_iload hx hb dX12_lay_110 (lv_at hl 5 rfl) ?_
          obtain ⟨v20, g_v20, hs⟩ := bd hs
          refine ro_aI F M g_v20 dX12_lay_112 ?_
          refine lv_iload_n hx hb dX12_lay_113 rfl (lv_at hl 1 rfl) ?_
          refine lv_icmp_ne (tgt := 138) hx hb dX12_lay_114 (by decide) (fun c21 => ?_) (fun c21 => ?_)
          · rw [if_neg c21] at hs
            obtain rfl := Option.some.inj hs
            exact KJ138 _ _ _ (lv_sub hl [0, 1, 2, 3, 4] rfl) M
          · rw [if_pos c21] at hs
            refine lv_aload_n hx hb dX12_lay_117 rfl (lv_at hl 0 rfl) ?_
            obtain ⟨v22, g_v22, hs⟩ := bd hs
            refine ro_gR F M fg_12_60 t_1066 g_v22 dX12_lay_118 ?_
            refine lv_aload_n hx hb dX12_lay_121 rfl (lv_at hl 0 rfl) ?_
            obtain ⟨v23, g_v23, hs⟩ := bd hs
            refine ro_gI F M fg_12_58 t_1064 g_v23 dX12_lay_122 ?_
            refine lv_iload hx hb dX12_lay_125 (lv_at hl 5 rfl) ?_
            obtain ⟨h24, g_h24, hs⟩ := bd hs
            refine ro_sI F M g_h24 dX12_lay_127 (fun H locs M => ?_)
            refine lv_aload_n hx hb dX12_lay_128 rfl (lv_at hl 0 rfl) ?_
            refine lv_dup hx hb dX12_lay_129 rfl ?_
            obtain ⟨v25, g_v25, hs⟩ := bd hs
            refine ro_gI F M fg_12_58 t_1064 g_v25 dX12_lay_130 ?_
            refine lv_iconst (v := 1) hx hb dX12_lay_133 (by decide) ?_
            refine lv_iadd hx hb dX12_lay_134 ?_
            obtain ⟨h26, g_h26, hs⟩ := bd hs
            refine ro_pI F M fg_12_58 fp_12_58 rfl t_1064 g_h26 dX12_lay_135 (fun H locs M => ?_)
            obtain rfl := Option.some.inj hs
            exact KJ138 _ _ _ (lv_sub hl [0, 1, 2, 3, 4] rfl) M
      clear hs
      have hs := hsq16
      refine lv_if_eq (tgt := 97) hx hb dX12_lay_62 (by decide) (fun c7 => ?_) (fun c7 => ?_)
      · rw [if_pos c7] at hs
        obtain rfl := Option.some.inj hs
        exact KJ97 _ _ _ (lv_sub hl [2, 3, 4, 5, 6, 0] rfl) M
      · rw [if_neg c7] at hs
        refine lv_aload_n hx hb dX12_lay_65 rfl (lv_at hl 2 rfl) ?_
        obtain ⟨v8, g_v8, hs⟩ := bd hs
        refine ro_gR F M fg_12_18 t_1024 g_v8 dX12_lay_66 ?_
        refine lv_iload hx hb dX12_lay_69 (lv_at hl 1 rfl) ?_
        obtain ⟨v9, g_v9, hs⟩ := bd hs
        refine ro_aI F M g_v9 dX12_lay_71 ?_
        refine lv_iload_n hx hb dX12_lay_72 rfl (lv_at hl 4 rfl) ?_
        refine lv_icmp_ne (tgt := 97) hx hb dX12_lay_73 (by decide) (fun c10 => ?_) (fun c10 => ?_)
        · rw [if_neg c10] at hs
          obtain rfl := Option.some.inj hs
          exact KJ97 _ _ _ (lv_sub hl [2, 3, 4, 5, 6, 0] rfl) M
        · rw [if_pos c10] at hs
          refine lv_aload_n hx hb dX12_lay_76 rfl (lv_at hl 2 rfl) ?_
          obtain ⟨v11, g_v11, hs⟩ := bd hs
          refine ro_gR F M fg_12_59 t_1065 g_v11 dX12_lay_77 ?_
          refine lv_aload_n hx hb dX12_lay_80 rfl (lv_at hl 2 rfl) ?_
          obtain ⟨v12, g_v12, hs⟩ := bd hs
          refine ro_gI F M fg_12_57 t_1063 g_v12 dX12_lay_81 ?_
          refine lv_iload hx hb dX12_lay_84 (lv_at hl 1 rfl) ?_
          obtain ⟨h13, g_h13, hs⟩ := bd hs
          refine ro_sI F M g_h13 dX12_lay_86 (fun H locs M => ?_)
          refine lv_aload_n hx hb dX12_lay_87 rfl (lv_at hl 2 rfl) ?_
          refine lv_dup hx hb dX12_lay_88 rfl ?_
          obtain ⟨v14, g_v14, hs⟩ := bd hs
          refine ro_gI F M fg_12_57 t_1063 g_v14 dX12_lay_89 ?_
          refine lv_iconst (v := 1) hx hb dX12_lay_92 (by decide) ?_
          refine lv_iadd hx hb dX12_lay_93 ?_
          obtain ⟨h15, g_h15, hs⟩ := bd hs
          refine ro_pI F M fg_12_57 fp_12_57 rfl t_1063 g_h15 dX12_lay_94 (fun H locs M => ?_)
          obtain rfl := Option.some.inj hs
          exact KJ97 _ _ _ (lv_sub hl [2, 3, 4, 5, 6, 0] rfl) M
set_option maxHeartbeats 4000000 in
set_option maxRecDepth 100000 in
theorem w_X12_lay_L159 {p : Program} {l : Launch} {e : Env} {s : State} {m : MethodId} {args : Array Value} {below : List Frame} {meth : Method} {c : Code} {D : va_G} {cy : Nat → ClassId} {A : Nat → Prop} {H0 : Heap} {N th : Nat} {x1 : Int32} {x2 : Int32} {x4 : Int32} {qF : IH} (F : Fx p s m args meth c D cy A H0 yX12_lay cX12_lay 7 none) : ∀ (n : Nat) (x5 : Int32) (h : IH) (ls : Array Slot) (H : Heap) (locs : List Loc) (q : IH), s_X12_lay_L159 N n th x1 x2 x4 x5 h = some q → lv_has ls 7 [(0, .ref th), (1, .int x1), (2, .int x2), (4, .int x4), (5, .int x5)] → Mo D cy A H0 h H locs → (∀ (t : IH) (ls : Array Slot) (H : Heap) (locs : List Loc), q = t → lv_has ls 7 [(0, .ref th), (1, .int x1), (2, .int x2), (4, .int x4)] → Mo D cy A H0 t H locs → W p l e rm_X12_lay s m args below meth c H locs 0 0 (MQ below (QR D cy qF A none) args s 0 0 A) (F0 m 217 ls [])) → (∀ v : IH, False → v = qF) → W p l e rm_X12_lay s m args below meth c H locs 0 0 (MQ below (QR D cy qF A none) args s 0 0 A) (F0 m 159 ls []) := by
  intro n
  induction n with
  | zero => intro x5 h ls H locs q hs; rw [s_X12_lay_L159.eq_1] at hs; cases hs
  | succ n ih =>
    intro x5 h ls H locs q hs hl M kx kr
    obtain ⟨hx, hb, hr, hml, hown, hlk, hts, hK, hN, hA, hH⟩ := id F
    rw [s_X12_lay_L159.eq_2] at hs
    refine lv_iload hx hb dX12_lay_159 (lv_at hl 4 rfl) ?_
    refine lv_aload_n hx hb dX12_lay_161 rfl (lv_at hl 0 rfl) ?_
    obtain ⟨v33, g_v33, hs⟩ := bd hs
    refine ro_gI F M fg_12_58 t_1064 g_v33 dX12_lay_162 ?_
    refine lv_icmp_ge (tgt := 217) hx hb dX12_lay_165 (by decide) (fun c34 => ?_) (fun c34 => ?_)
    · rw [if_pos c34] at hs
      exact kx h _ _ _ (Option.some.inj hs).symm (lv_sub hl [0, 1, 2, 3] rfl) M
    · rw [if_neg c34] at hs
      refine lv_aload_n hx hb dX12_lay_168 rfl (lv_at hl 0 rfl) ?_
      obtain ⟨v35, g_v35, hs⟩ := bd hs
      refine ro_gR F M fg_12_61 t_1067 g_v35 dX12_lay_169 ?_
      refine lv_bipush (v := 16) hx hb dX12_lay_172 (by decide) ?_
      refine lv_iload hx hb dX12_lay_174 (lv_at hl 3 rfl) ?_
      refine lv_imul hx hb dX12_lay_176 ?_
      refine lv_iload hx hb dX12_lay_177 (lv_at hl 4 rfl) ?_
      refine lv_iadd hx hb dX12_lay_179 ?_
      refine lv_aload_n hx hb dX12_lay_180 rfl (lv_at hl 0 rfl) ?_
      refine lv_aload_n hx hb dX12_lay_181 rfl (lv_at hl 0 rfl) ?_
      obtain ⟨v36, g_v36, hs⟩ := bd hs
      refine ro_gR F M fg_12_59 t_1065 g_v36 dX12_lay_182 ?_
      refine lv_iload hx hb dX12_lay_185 (lv_at hl 3 rfl) ?_
      obtain ⟨v37, g_v37, hs⟩ := bd hs
      refine ro_aI F M g_v37 dX12_lay_187 ?_
      refine lv_aload_n hx hb dX12_lay_188 rfl (lv_at hl 0 rfl) ?_
      obtain ⟨v38, g_v38, hs⟩ := bd hs
      refine ro_gR F M fg_12_60 t_1066 g_v38 dX12_lay_189 ?_
      refine lv_iload hx hb dX12_lay_192 (lv_at hl 4 rfl) ?_
      obtain ⟨v39, g_v39, hs⟩ := bd hs
      refine ro_aI F M g_v39 dX12_lay_194 ?_
      refine lv_aload_n hx hb dX12_lay_195 rfl (lv_at hl 0 rfl) ?_
      obtain ⟨v40, g_v40, hs⟩ := bd hs
      refine ro_gR F M fg_12_20 t_1026 g_v40 dX12_lay_196 ?_
      refine lv_iload_n hx hb dX12_lay_199 rfl (lv_at hl 1 rfl) ?_
      obtain ⟨v41, g_v41, hs⟩ := bd hs
      refine ro_aJ F M g_v41 dX12_lay_200 ?_
      refine lv_aload_n hx hb dX12_lay_201 rfl (lv_at hl 0 rfl) ?_
      obtain ⟨v42, g_v42, hs⟩ := bd hs
      refine ro_gR F M fg_12_20 t_1026 g_v42 dX12_lay_202 ?_
      refine lv_iload_n hx hb dX12_lay_205 rfl (lv_at hl 2 rfl) ?_
      obtain ⟨v43, g_v43, hs⟩ := bd hs
      refine ro_aJ F M g_v43 dX12_lay_206 ?_
      obtain ⟨v44, g_v44, hs⟩ := bd hs
      obtain ⟨a46, e_a46, k_a46, g_v44⟩ := cV_some g_v44
      obtain rfl := Option.some.inj e_a46
      refine ca_Vl (bq := th) (As := [.int v37, .int v39, .long v41, .long v43]) (rest := [.int ((16 * x4) + x5), va_rf v35]) F M (c_X12_distanceOf g_v44) mf_X12_distanceOf t_1368 k_a46 rfl ⟨by decide, by decide⟩ ⟨rfl, rfl⟩ ⟨Nat.zero_le _, Nat.zero_le _⟩ hl.1 rfl (by simp [cat_rf, cat_i, cat_j, cat_r]) dX12_lay_207 (fun H locs M => ?_)
      obtain ⟨h45, g_h45, hs⟩ := bd hs
      refine ro_sJ F M g_h45 dX12_lay_210 (fun H locs M => ?_)
      refine lv_iinc (v := x5 + 1) (lv' := [(5, .int (x5 + 1)), (0, .ref th), (1, .int x1), (2, .int x2), (4, .int x4)]) hx hb dX12_lay_211 hl (k := 4) rfl rfl (by decide) rfl (fun ls hl => ?_)
      refine lv_goto (tgt := 159) hx hb dX12_lay_214 (by decide) ?_
      exact ih (x5 + 1) h45 _ _ _ _ hs (lv_sub hl [1, 2, 3, 4, 0] rfl) M kx kr
set_option maxHeartbeats 4000000 in
set_option maxRecDepth 100000 in
theorem w_X12_lay_L147 {p : Program} {l : Launch} {e : Env} {s : State} {m : MethodId} {args : Array Value} {below : List Frame} {meth : Method} {c : Code} {D : va_G} {cy : Nat → ClassId} {A : Nat → Prop} {H0 : Heap} {N th : Nat} {x1 : Int32} {x2 : Int32} {qF : IH} (F : Fx p s m args meth c D cy A H0 yX12_lay cX12_lay 7 none) : ∀ (n : Nat) (x4 : Int32) (h : IH) (ls : Array Slot) (H : Heap) (locs : List Loc) (q : IH), s_X12_lay_L147 N n th x1 x2 x4 h = some q → lv_has ls 7 [(0, .ref th), (1, .int x1), (2, .int x2), (4, .int x4)] → Mo D cy A H0 h H locs → (∀ (t : IH) (ls : Array Slot) (H : Heap) (locs : List Loc), q = t → lv_has ls 7 [] → Mo D cy A H0 t H locs → W p l e rm_X12_lay s m args below meth c H locs 0 0 (MQ below (QR D cy qF A none) args s 0 0 A) (F0 m 223 ls [])) → (∀ v : IH, False → v = qF) → W p l e rm_X12_lay s m args below meth c H locs 0 0 (MQ below (QR D cy qF A none) args s 0 0 A) (F0 m 147 ls []) := by
  intro n
  induction n with
  | zero => intro x4 h ls H locs q hs; rw [s_X12_lay_L147.eq_1] at hs; cases hs
  | succ n ih =>
    intro x4 h ls H locs q hs hl M kx kr
    obtain ⟨hx, hb, hr, hml, hown, hlk, hts, hK, hN, hA, hH⟩ := id F
    rw [s_X12_lay_L147.eq_2] at hs
    refine lv_iload hx hb dX12_lay_147 (lv_at hl 3 rfl) ?_
    refine lv_aload_n hx hb dX12_lay_149 rfl (lv_at hl 0 rfl) ?_
    obtain ⟨v31, g_v31, hs⟩ := bd hs
    refine ro_gI F M fg_12_57 t_1063 g_v31 dX12_lay_150 ?_
    refine lv_icmp_ge (tgt := 223) hx hb dX12_lay_153 (by decide) (fun c32 => ?_) (fun c32 => ?_)
    · rw [if_pos c32] at hs
      exact kx h _ _ _ (Option.some.inj hs).symm (lv_sub hl [] rfl) M
    · rw [if_neg c32] at hs
      refine lv_iconst (v := 0) hx hb dX12_lay_156 (by decide) ?_
      refine lv_istore (i := 5) (lv' := [(5, .int 0), (0, .ref th), (1, .int x1), (2, .int x2), (4, .int x4)]) hx hb dX12_lay_157 hl (by decide) rfl (fun ls hl => ?_)
      obtain ⟨q47, g_q47, hs⟩ := bd hs
      refine w_X12_lay_L159 F N 0 h _ _ _ q47 g_q47 (lv_sub hl [1, 2, 3, 4, 0] rfl) M (fun t_ ls H locs eq_ hl M => ?_) (fun v eq_ => eq_.elim)
      subst eq_
      refine lv_iinc (v := x4 + 1) (lv' := [(4, .int (x4 + 1)), (0, .ref th), (1, .int x1), (2, .int x2)]) hx hb dX12_lay_217 hl (k := 3) rfl rfl (by decide) rfl (fun ls hl => ?_)
      refine lv_goto (tgt := 147) hx hb dX12_lay_220 (by decide) ?_
      exact ih (x4 + 1) q47 _ _ _ _ hs (lv_sub hl [1, 2, 3, 0] rfl) M kx kr
set_option maxHeartbeats 4000000 in
set_option maxRecDepth 100000 in
theorem c_X12_lay {l : Launch} {D : va_G} {cy : Nat → ClassId} {sz N : Nat} {h : IH} {th : Nat} {a0 : Int32} {a1 : Int32} {a2 : Int32} {qF : IH} (hs : s_X12_lay N h th a0 a1 a2 = some qF) : Ct l D cy yX12_lay cX12_lay 7 none rm_X12_lay h sz [.ref th, .int a0, .int a1, .int a2] qF none := by
  refine ct_start (by decide +kernel) [(0, .ref th), (1, .int a0), (2, .int a1), (3, .int a2)] (Nat.le_of_ble_eq_true rfl) rfl ?_
  intro p e s m args below meth c A H0 ls F hin hsz M hl
  obtain ⟨hx, hb, hr, hml, hown, hlk, hts, hK, hN, hA, hH⟩ := id F
  generalize s.heap = H at M ⊢
  generalize ([] : List Loc) = locs at M ⊢
  unfold s_X12_lay at hs
  refine lv_aload_n hx hb dX12_lay_0 rfl (lv_at hl 0 rfl) ?_
  refine lv_iconst (v := 0) hx hb dX12_lay_1 (by decide) ?_
  obtain ⟨h1, g_h1, hs⟩ := bd hs
  refine ro_pI F M fg_12_57 fp_12_57 rfl t_1063 g_h1 dX12_lay_2 (fun H locs M => ?_)
  refine lv_aload_n hx hb dX12_lay_5 rfl (lv_at hl 0 rfl) ?_
  refine lv_iconst (v := 0) hx hb dX12_lay_6 (by decide) ?_
  obtain ⟨h2, g_h2, hs⟩ := bd hs
  refine ro_pI F M fg_12_58 fp_12_58 rfl t_1064 g_h2 dX12_lay_7 (fun H locs M => ?_)
  refine lv_iconst (v := 0) hx hb dX12_lay_10 (by decide) ?_
  refine lv_istore (i := 4) (lv' := [(4, .int 0), (0, .ref th), (1, .int a0), (2, .int a1), (3, .int a2)]) hx hb dX12_lay_11 hl (by decide) rfl (fun ls hl => ?_)
  obtain ⟨q30, g_q30, hs⟩ := bd hs
  refine w_X12_lay_L13 F N 0 h2 _ _ _ q30 g_q30 (lv_sub hl [1, 2, 3, 4, 0] rfl) M (fun t_ ls H locs eq_ hl M => ?_) (fun v eq_ => eq_.elim)
  subst eq_
  refine lv_iconst (v := 0) hx hb dX12_lay_144 (by decide) ?_
  refine lv_istore (i := 4) (lv' := [(4, .int 0), (0, .ref th), (1, .int a0), (2, .int a1)]) hx hb dX12_lay_145 hl (by decide) rfl (fun ls hl => ?_)
  obtain ⟨q48, g_q48, hs⟩ := bd hs
  refine w_X12_lay_L147 F N 0 q30 _ _ _ q48 g_q48 (lv_sub hl [1, 2, 3, 0] rfl) M (fun t_ ls H locs eq_ hl M => ?_) (fun v eq_ => eq_.elim)
  subst eq_
  obtain rfl := Option.some.inj hs
  exact re_v F M dX12_lay_223
abbrev rm_X12_grows : Room := { frames := 0, cells := 0, slots := 0, locals := 0 }
theorem mf_X12_grows : MV 12 yX12_grows cX12_grows 8 (some .boolean) 1 RX12 := ⟨t_1402, t_1401, tS_104, t_12, ⟨by decide +kernel, by decide +kernel, by decide +kernel⟩, rfl, by decide⟩
def s_X12_grows_L2 (N : Nat) : Nat → Nat → Int32 → Int32 → IH → Option (IH)
  | 0, _, _, _, _ => none
  | n + 1, th, x1, x2, h => (gI h 12 58 (some th)).bind fun v1 => if v1 ≤ x2 then some h else (gR h 12 65 (some th)).bind fun v3 => (sJ h v3 x2 9223372036854775807).bind fun h4 => (gR h4 12 66 (some th)).bind fun v5 => (sI h4 v5 x2 (-1)).bind fun h6 => s_X12_grows_L2 N n th x1 (x2 + 1) h6
def s_X12_grows_L134 (N : Nat) : Nat → Nat → Int32 → Int32 → Int32 → Int64 → Int32 → IH → Option (Int32 × IH)
  | 0, _, _, _, _, _, _, _ => none
  | n + 1, th, x1, x2, x3, x5, x7, h => (gI h 12 58 (some th)).bind fun v31 => if v31 ≤ x7 then some (x2, h) else (gR h 12 61 (some th)).bind fun v33 => (aJ h v33 ((16 * x3) + x7)).bind fun v34 => ((if (lg_cmp v34 0) < 0 then some (x2, h) else (gR h 12 62 (some th)).bind fun v36 => (aZ h v36 x7).bind fun v37 => if v37 = 0 then (gR h 12 64 (some th)).bind fun v39 => (aI h v39 x3).bind fun v40 => if v40 = x7 then some (x2, h) else (gR h 12 61 (some th)).bind fun v42 => (aJ h v42 ((16 * x3) + x7)).bind fun v43 => (gR h 12 65 (some th)).bind fun v44 => (aJ h v44 x7).bind fun v45 => if (lg_cmp (x5 + v43) v45) < 0 then (gR h 12 65 (some th)).bind fun v47 => (gR h 12 61 (some th)).bind fun v48 => (aJ h v48 ((16 * x3) + x7)).bind fun v49 => (sJ h v47 x7 (x5 + v49)).bind fun h50 => (gR h50 12 66 (some th)).bind fun v51 => (sI h50 v51 x7 x3).bind fun h52 => some (1, h52) else some (x2, h) else some (x2, h)) : Option (Int32 × IH)).bind fun q53 => s_X12_grows_L134 N n th x1 q53.1 x3 x5 (x7 + 1) q53.2
def s_X12_grows_L42 (N : Nat) : Nat → Nat → Int32 → Int32 → Int32 → IH → Option (Int32 × IH)
  | 0, _, _, _, _, _ => none
  | n + 1, th, x1, x2, x3, h => (gI h 12 57 (some th)).bind fun v9 => if v9 ≤ x3 then some (x2, h) else (gR h 12 64 (some th)).bind fun v11 => (aI h v11 x3).bind fun v12 => ((if 0 ≤ v12 then some 0 else some 1) : Option (Int32)).bind fun q14 => ((if q14 = 0 then (gR h 12 65 (some th)).bind fun v16 => (gR h 12 64 (some th)).bind fun v17 => (aI h v17 x3).bind fun v18 => (aJ h v16 v18).bind fun v19 => if (lg_cmp v19 9223372036854775807) = 0 then some (x2, h) else ((if q14 = 0 then (gR h 12 65 (some th)).bind fun v22 => (gR h 12 64 (some th)).bind fun v23 => (aI h v23 x3).bind fun v24 => (aJ h v22 v24).bind fun v25 => (gR h 12 61 (some th)).bind fun v26 => (gR h 12 64 (some th)).bind fun v27 => (aI h v27 x3).bind fun v28 => (aJ h v26 ((16 * x3) + v28)).bind fun v29 => some (v25 - v29) else some 0) : Option (Int64)).bind fun q30 => (s_X12_grows_L134 N N th x1 x2 x3 q30 0 h).bind fun q54 => some (q54.1, q54.2) else ((if q14 = 0 then (gR h 12 65 (some th)).bind fun v56 => (gR h 12 64 (some th)).bind fun v57 => (aI h v57 x3).bind fun v58 => (aJ h v56 v58).bind fun v59 => (gR h 12 61 (some th)).bind fun v60 => (gR h 12 64 (some th)).bind fun v61 => (aI h v61 x3).bind fun v62 => (aJ h v60 ((16 * x3) + v62)).bind fun v63 => some (v59 - v63) else some 0) : Option (Int64)).bind fun q64 => (s_X12_grows_L134 N N th x1 x2 x3 q64 0 h).bind fun q65 => some (q65.1, q65.2)) : Option (Int32 × IH)).bind fun q66 => s_X12_grows_L42 N n th x1 q66.1 (x3 + 1) q66.2
def s_X12_grows_L34 (N : Nat) : Nat → Nat → Int32 → Int32 → IH → Option (IH)
  | 0, _, _, _, _ => none
  | n + 1, th, x1, x2, h => if x2 = 0 then some h else (s_X12_grows_L42 N N th x1 0 x1 h).bind fun q67 => s_X12_grows_L34 N n th x1 q67.1 q67.2
def s_X12_grows_L262 (N : Nat) : Nat → Nat → Int32 → Int32 → IH → Option (Int32)
  | 0, _, _, _, _ => none
  | n + 1, th, x3, x4, h => (gI h 12 58 (some th)).bind fun v69 => if v69 ≤ x4 then some x3 else (gR h 12 63 (some th)).bind fun v71 => (aI h v71 x4).bind fun v72 => ((if 0 ≤ v72 then some x3 else (gR h 12 65 (some th)).bind fun v74 => (aJ h v74 x4).bind fun v75 => if 0 ≤ (lg_cmp v75 9223372036854775807) then some x3 else if x3 < 0 then some x4 else (gR h 12 65 (some th)).bind fun v78 => (aJ h v78 x4).bind fun v79 => (gR h 12 65 (some th)).bind fun v80 => (aJ h v80 x3).bind fun v81 => if 0 ≤ (lg_cmp v79 v81) then some x3 else some x4) : Option (Int32)).bind fun q83 => s_X12_grows_L262 N n th q83 (x4 + 1) h
def s_X12_grows_L359 (N : Nat) : Nat → Nat → Int32 → IH → Option (IH)
  | 0, _, _, _ => none
  | n + 1, th, x4, h => if x4 < 0 then some h else (gR h 12 66 (some th)).bind fun v93 => (aI h v93 x4).bind fun v94 => (gR h 12 64 (some th)).bind fun v95 => (aI h v95 v94).bind fun v96 => (gR h 12 64 (some th)).bind fun v97 => (sI h v97 v94 x4).bind fun h98 => (gR h98 12 63 (some th)).bind fun v99 => (sI h98 v99 x4 v94).bind fun h100 => s_X12_grows_L359 N n th v96 h100
def s_X12_grows (N : Nat) (h : IH) (th : Nat) (a0 : Int32) : Option (Int32 × IH) := (s_X12_grows_L2 N N th a0 0 h).bind fun q7 => (s_X12_grows_L34 N N th a0 1 q7).bind fun q68 => (s_X12_grows_L262 N N th (-1) 0 q68).bind fun q84 => if 0 ≤ q84 then (gL q68 12 68 (some th)).bind fun v86 => (gR q68 12 65 (some th)).bind fun v87 => (aJ q68 v87 q84).bind fun v88 => (pL q68 12 68 (some th) (v86 + v88)).bind fun h89 => (gI h89 12 67 (some th)).bind fun v90 => (pI h89 12 67 (some th) (v90 + 1)).bind fun h91 => (s_X12_grows_L359 N N th q84 h91).bind fun q101 => some (1, q101) else some (0, q68)
set_option maxHeartbeats 4000000 in
set_option maxRecDepth 100000 in
theorem w_X12_grows_L2 {p : Program} {l : Launch} {e : Env} {s : State} {m : MethodId} {args : Array Value} {below : List Frame} {meth : Method} {c : Code} {D : va_G} {cy : Nat → ClassId} {A : Nat → Prop} {H0 : Heap} {N th : Nat} {x1 : Int32} {qF : Int32 × IH} (F : Fx p s m args meth c D cy A H0 yX12_grows cX12_grows 8 (some .boolean)) : ∀ (n : Nat) (x2 : Int32) (h : IH) (ls : Array Slot) (H : Heap) (locs : List Loc) (q : IH), s_X12_grows_L2 N n th x1 x2 h = some q → lv_has ls 8 [(0, .ref th), (1, .int x1), (2, .int x2)] → Mo D cy A H0 h H locs → (∀ (t : IH) (ls : Array Slot) (H : Heap) (locs : List Loc), q = t → lv_has ls 8 [(0, .ref th), (1, .int x1)] → Mo D cy A H0 t H locs → W p l e rm_X12_grows s m args below meth c H locs 0 0 (MQ below (QR D cy qF.2 A (some (.int qF.1))) args s 0 0 A) (F0 m 32 ls [])) → (∀ v : Int32 × IH, False → v = qF) → W p l e rm_X12_grows s m args below meth c H locs 0 0 (MQ below (QR D cy qF.2 A (some (.int qF.1))) args s 0 0 A) (F0 m 2 ls []) := by
  intro n
  induction n with
  | zero => intro x2 h ls H locs q hs; rw [s_X12_grows_L2.eq_1] at hs; cases hs
  | succ n ih =>
    intro x2 h ls H locs q hs hl M kx kr
    obtain ⟨hx, hb, hr, hml, hown, hlk, hts, hK, hN, hA, hH⟩ := id F
    rw [s_X12_grows_L2.eq_2] at hs
    refine lv_iload_n hx hb dX12_grows_2 rfl (lv_at hl 2 rfl) ?_
    refine lv_aload_n hx hb dX12_grows_3 rfl (lv_at hl 0 rfl) ?_
    obtain ⟨v1, g_v1, hs⟩ := bd hs
    refine ro_gI F M fg_12_58 t_1064 g_v1 dX12_grows_4 ?_
    refine lv_icmp_ge (tgt := 32) hx hb dX12_grows_7 (by decide) (fun c2 => ?_) (fun c2 => ?_)
    · rw [if_pos c2] at hs
      exact kx h _ _ _ (Option.some.inj hs).symm (lv_sub hl [0, 1] rfl) M
    · rw [if_neg c2] at hs
      refine lv_aload_n hx hb dX12_grows_10 rfl (lv_at hl 0 rfl) ?_
      obtain ⟨v3, g_v3, hs⟩ := bd hs
      refine ro_gR F M fg_12_65 t_1071 g_v3 dX12_grows_11 ?_
      refine lv_iload_n hx hb dX12_grows_14 rfl (lv_at hl 2 rfl) ?_
      refine lv_ldc2 (v := 9223372036854775807) hx hb hown (hts _ (List.mem_cons_of_mem _ t_1403)) dX12_grows_15 ?_
      obtain ⟨h4, g_h4, hs⟩ := bd hs
      refine ro_sJ F M g_h4 dX12_grows_18 (fun H locs M => ?_)
      refine lv_aload_n hx hb dX12_grows_19 rfl (lv_at hl 0 rfl) ?_
      obtain ⟨v5, g_v5, hs⟩ := bd hs
      refine ro_gR F M fg_12_66 t_1072 g_v5 dX12_grows_20 ?_
      refine lv_iload_n hx hb dX12_grows_23 rfl (lv_at hl 2 rfl) ?_
      refine lv_iconst (v := (-1)) hx hb dX12_grows_24 (by decide) ?_
      obtain ⟨h6, g_h6, hs⟩ := bd hs
      refine ro_sI F M g_h6 dX12_grows_25 (fun H locs M => ?_)
      refine lv_iinc (v := x2 + 1) (lv' := [(2, .int (x2 + 1)), (0, .ref th), (1, .int x1)]) hx hb dX12_grows_26 hl (k := 2) rfl rfl (by decide) rfl (fun ls hl => ?_)
      refine lv_goto (tgt := 2) hx hb dX12_grows_29 (by decide) ?_
      exact ih (x2 + 1) h6 _ _ _ _ hs (lv_sub hl [1, 2, 0] rfl) M kx kr
set_option maxHeartbeats 4000000 in
set_option maxRecDepth 100000 in
theorem w_X12_grows_L134 {p : Program} {l : Launch} {e : Env} {s : State} {m : MethodId} {args : Array Value} {below : List Frame} {meth : Method} {c : Code} {D : va_G} {cy : Nat → ClassId} {A : Nat → Prop} {H0 : Heap} {N th : Nat} {x1 : Int32} {x3 : Int32} {x5 : Int64} {qF : Int32 × IH} (F : Fx p s m args meth c D cy A H0 yX12_grows cX12_grows 8 (some .boolean)) : ∀ (n : Nat) (x2 : Int32) (x7 : Int32) (h : IH) (ls : Array Slot) (H : Heap) (locs : List Loc) (q : Int32 × IH), s_X12_grows_L134 N n th x1 x2 x3 x5 x7 h = some q → lv_has ls 8 [(0, .ref th), (1, .int x1), (2, .int x2), (3, .int x3), (5, .long x5), (7, .int x7)] → Mo D cy A H0 h H locs → (∀ (t : Int32 × IH) (ls : Array Slot) (H : Heap) (locs : List Loc), q = t → lv_has ls 8 [(0, .ref th), (1, .int x1), (2, .int t.1), (3, .int x3)] → Mo D cy A H0 t.2 H locs → W p l e rm_X12_grows s m args below meth c H locs 0 0 (MQ below (QR D cy qF.2 A (some (.int qF.1))) args s 0 0 A) (F0 m 248 ls [])) → (∀ v : Int32 × IH, False → v = qF) → W p l e rm_X12_grows s m args below meth c H locs 0 0 (MQ below (QR D cy qF.2 A (some (.int qF.1))) args s 0 0 A) (F0 m 134 ls []) := by
  intro n
  induction n with
  | zero => intro x2 x7 h ls H locs q hs; rw [s_X12_grows_L134.eq_1] at hs; cases hs
  | succ n ih =>
    intro x2 x7 h ls H locs q hs hl M kx kr
    obtain ⟨hx, hb, hr, hml, hown, hlk, hts, hK, hN, hA, hH⟩ := id F
    rw [s_X12_grows_L134.eq_2] at hs
    refine lv_iload hx hb dX12_grows_134 (lv_at hl 5 rfl) ?_
    refine lv_aload_n hx hb dX12_grows_136 rfl (lv_at hl 0 rfl) ?_
    obtain ⟨v31, g_v31, hs⟩ := bd hs
    refine ro_gI F M fg_12_58 t_1064 g_v31 dX12_grows_137 ?_
    refine lv_icmp_ge (tgt := 248) hx hb dX12_grows_140 (by decide) (fun c32 => ?_) (fun c32 => ?_)
    · rw [if_pos c32] at hs
      exact kx (x2, h) _ _ _ (Option.some.inj hs).symm (lv_sub hl [0, 1, 2, 3] rfl) M
    · rw [if_neg c32] at hs
      refine lv_aload_n hx hb dX12_grows_143 rfl (lv_at hl 0 rfl) ?_
      obtain ⟨v33, g_v33, hs⟩ := bd hs
      refine ro_gR F M fg_12_61 t_1067 g_v33 dX12_grows_144 ?_
      refine lv_bipush (v := 16) hx hb dX12_grows_147 (by decide) ?_
      refine lv_iload_n hx hb dX12_grows_149 rfl (lv_at hl 3 rfl) ?_
      refine lv_imul hx hb dX12_grows_150 ?_
      refine lv_iload hx hb dX12_grows_151 (lv_at hl 5 rfl) ?_
      refine lv_iadd hx hb dX12_grows_153 ?_
      obtain ⟨v34, g_v34, hs⟩ := bd hs
      refine ro_aJ F M g_v34 dX12_grows_154 ?_
      refine lv_lconst (v := 0) hx hb dX12_grows_155 (by decide) ?_
      refine W.lcmp hx hb dX12_grows_156 ?_
      obtain ⟨q53, hsq53, hs⟩ := bd hs
      have KJ242 : ∀ (ls : Array Slot) (H : Heap) (locs : List Loc), lv_has ls 8 [(0, .ref th), (1, .int x1), (2, .int q53.1), (3, .int x3), (5, .long x5), (7, .int x7)] → Mo D cy A H0 q53.2 H locs → W p l e rm_X12_grows s m args below meth c H locs 0 0 (MQ below (QR D cy qF.2 A (some (.int qF.1))) args s 0 0 A) (F0 m 242 ls []) := by
        intro ls H locs hl M
        refine lv_iinc (v := x7 + 1) (lv' := [(7, .int (x7 + 1)), (0, .ref th), (1, .int x1), (2, .int q53.1), (3, .int x3), (5, .long x5)]) hx hb dX12_grows_242 hl (k := 5) rfl rfl (by decide) rfl (fun ls hl => ?_)
        refine lv_goto (tgt := 134) hx hb dX12_grows_245 (by decide) ?_
        exact ih q53.1 (x7 + 1) q53.2 _ _ _ _ hs (lv_sub hl [1, 2, 3, 4, 5, 0] rfl) M kx kr
      clear hs
      have hs := hsq53
      refine lv_if_lt (tgt := 242) hx hb dX12_grows_157 (by decide) (fun c35 => ?_) (fun c35 => ?_)
      · rw [if_pos c35] at hs
        obtain rfl := Option.some.inj hs
        exact KJ242 _ _ _ (lv_sub hl [0, 1, 2, 3, 4, 5] rfl) M
      · rw [if_neg c35] at hs
        refine lv_aload_n hx hb dX12_grows_160 rfl (lv_at hl 0 rfl) ?_
        obtain ⟨v36, g_v36, hs⟩ := bd hs
        refine ro_gR F M fg_12_62 t_1068 g_v36 dX12_grows_161 ?_
        refine lv_iload hx hb dX12_grows_164 (lv_at hl 5 rfl) ?_
        obtain ⟨v37, g_v37, hs⟩ := bd hs
        refine ro_aZ F M g_v37 dX12_grows_166 ?_
        refine lv_if_ne (tgt := 242) hx hb dX12_grows_167 (by decide) (fun c38 => ?_) (fun c38 => ?_)
        · rw [if_neg c38] at hs
          obtain rfl := Option.some.inj hs
          exact KJ242 _ _ _ (lv_sub hl [0, 1, 2, 3, 4, 5] rfl) M
        · rw [if_pos c38] at hs
          refine lv_aload_n hx hb dX12_grows_170 rfl (lv_at hl 0 rfl) ?_
          obtain ⟨v39, g_v39, hs⟩ := bd hs
          refine ro_gR F M fg_12_64 t_1070 g_v39 dX12_grows_171 ?_
          refine lv_iload_n hx hb dX12_grows_174 rfl (lv_at hl 3 rfl) ?_
          obtain ⟨v40, g_v40, hs⟩ := bd hs
          refine ro_aI F M g_v40 dX12_grows_175 ?_
          refine lv_iload hx hb dX12_grows_176 (lv_at hl 5 rfl) ?_
          refine lv_icmp_eq (tgt := 242) hx hb dX12_grows_178 (by decide) (fun c41 => ?_) (fun c41 => ?_)
          · rw [if_pos c41] at hs
            obtain rfl := Option.some.inj hs
            exact KJ242 _ _ _ (lv_sub hl [0, 1, 2, 3, 4, 5] rfl) M
          · rw [if_neg c41] at hs
            refine lv_lload hx hb dX12_grows_181 (lv_at hl 4 rfl) ?_
            refine lv_aload_n hx hb dX12_grows_183 rfl (lv_at hl 0 rfl) ?_
            obtain ⟨v42, g_v42, hs⟩ := bd hs
            refine ro_gR F M fg_12_61 t_1067 g_v42 dX12_grows_184 ?_
            refine lv_bipush (v := 16) hx hb dX12_grows_187 (by decide) ?_
            refine lv_iload_n hx hb dX12_grows_189 rfl (lv_at hl 3 rfl) ?_
            refine lv_imul hx hb dX12_grows_190 ?_
            refine lv_iload hx hb dX12_grows_191 (lv_at hl 5 rfl) ?_
            refine lv_iadd hx hb dX12_grows_193 ?_
            obtain ⟨v43, g_v43, hs⟩ := bd hs
            refine ro_aJ F M g_v43 dX12_grows_194 ?_
            refine lv_ladd hx hb dX12_grows_195 ?_
            refine lv_aload_n hx hb dX12_grows_196 rfl (lv_at hl 0 rfl) ?_
            obtain ⟨v44, g_v44, hs⟩ := bd hs
            refine ro_gR F M fg_12_65 t_1071 g_v44 dX12_grows_197 ?_
            refine lv_iload hx hb dX12_grows_200 (lv_at hl 5 rfl) ?_
            obtain ⟨v45, g_v45, hs⟩ := bd hs
            refine ro_aJ F M g_v45 dX12_grows_202 ?_
            refine W.lcmp hx hb dX12_grows_203 ?_
            refine lv_if_lt (tgt := 210) hx hb dX12_grows_204 (by decide) (fun c46 => ?_) (fun c46 => ?_)
            · rw [if_pos c46] at hs
              refine lv_aload_n hx hb dX12_grows_210 rfl (lv_at hl 0 rfl) ?_
              obtain ⟨v47, g_v47, hs⟩ := bd hs
              refine ro_gR F M fg_12_65 t_1071 g_v47 dX12_grows_211 ?_
              refine lv_iload hx hb dX12_grows_214 (lv_at hl 5 rfl) ?_
              refine lv_lload hx hb dX12_grows_216 (lv_at hl 4 rfl) ?_
              refine lv_aload_n hx hb dX12_grows_218 rfl (lv_at hl 0 rfl) ?_
              obtain ⟨v48, g_v48, hs⟩ := bd hs
              refine ro_gR F M fg_12_61 t_1067 g_v48 dX12_grows_219 ?_
              refine lv_bipush (v := 16) hx hb dX12_grows_222 (by decide) ?_
              refine lv_iload_n hx hb dX12_grows_224 rfl (lv_at hl 3 rfl) ?_
              refine lv_imul hx hb dX12_grows_225 ?_
              refine lv_iload hx hb dX12_grows_226 (lv_at hl 5 rfl) ?_
              refine lv_iadd hx hb dX12_grows_228 ?_
              obtain ⟨v49, g_v49, hs⟩ := bd hs
              refine ro_aJ F M g_v49 dX12_grows_229 ?_
              refine lv_ladd hx hb dX12_grows_230 ?_
              obtain ⟨h50, g_h50, hs⟩ := bd hs
              refine ro_sJ F M g_h50 dX12_grows_231 (fun H locs M => ?_)
              refine lv_aload_n hx hb dX12_grows_232 rfl (lv_at hl 0 rfl) ?_
              obtain ⟨v51, g_v51, hs⟩ := bd hs
              refine ro_gR F M fg_12_66 t_1072 g_v51 dX12_grows_233 ?_
              refine lv_iload hx hb dX12_grows_236 (lv_at hl 5 rfl) ?_
              refine lv_iload_n hx hb dX12_grows_238 rfl (lv_at hl 3 rfl) ?_
              obtain ⟨h52, g_h52, hs⟩ := bd hs
              refine ro_sI F M g_h52 dX12_grows_239 (fun H locs M => ?_)
              refine lv_iconst (v := 1) hx hb dX12_grows_240 (by decide) ?_
              refine lv_istore_n (i := 2) (lv' := [(2, .int 1), (0, .ref th), (1, .int x1), (3, .int x3), (5, .long x5), (7, .int x7)]) hx hb dX12_grows_241 rfl hl (by decide) rfl (fun ls hl => ?_)
              obtain rfl := Option.some.inj hs
              exact KJ242 _ _ _ (lv_sub hl [1, 2, 0, 3, 4, 5] rfl) M
            · rw [if_neg c46] at hs
              refine lv_goto (tgt := 242) hx hb dX12_grows_207 (by decide) ?_
              obtain rfl := Option.some.inj hs
              exact KJ242 _ _ _ (lv_sub hl [0, 1, 2, 3, 4, 5] rfl) M
set_option maxHeartbeats 4000000 in
set_option maxRecDepth 100000 in
theorem w_X12_grows_L42 {p : Program} {l : Launch} {e : Env} {s : State} {m : MethodId} {args : Array Value} {below : List Frame} {meth : Method} {c : Code} {D : va_G} {cy : Nat → ClassId} {A : Nat → Prop} {H0 : Heap} {N th : Nat} {x1 : Int32} {qF : Int32 × IH} (F : Fx p s m args meth c D cy A H0 yX12_grows cX12_grows 8 (some .boolean)) : ∀ (n : Nat) (x2 : Int32) (x3 : Int32) (h : IH) (ls : Array Slot) (H : Heap) (locs : List Loc) (q : Int32 × IH), s_X12_grows_L42 N n th x1 x2 x3 h = some q → lv_has ls 8 [(0, .ref th), (1, .int x1), (2, .int x2), (3, .int x3)] → Mo D cy A H0 h H locs → (∀ (t : Int32 × IH) (ls : Array Slot) (H : Heap) (locs : List Loc), q = t → lv_has ls 8 [(0, .ref th), (1, .int x1), (2, .int t.1)] → Mo D cy A H0 t.2 H locs → W p l e rm_X12_grows s m args below meth c H locs 0 0 (MQ below (QR D cy qF.2 A (some (.int qF.1))) args s 0 0 A) (F0 m 254 ls [])) → (∀ v : Int32 × IH, False → v = qF) → W p l e rm_X12_grows s m args below meth c H locs 0 0 (MQ below (QR D cy qF.2 A (some (.int qF.1))) args s 0 0 A) (F0 m 42 ls []) := by
  intro n
  induction n with
  | zero => intro x2 x3 h ls H locs q hs; rw [s_X12_grows_L42.eq_1] at hs; cases hs
  | succ n ih =>
    intro x2 x3 h ls H locs q hs hl M kx kr
    obtain ⟨hx, hb, hr, hml, hown, hlk, hts, hK, hN, hA, hH⟩ := id F
    rw [s_X12_grows_L42.eq_2] at hs
    refine lv_iload_n hx hb dX12_grows_42 rfl (lv_at hl 3 rfl) ?_
    refine lv_aload_n hx hb dX12_grows_43 rfl (lv_at hl 0 rfl) ?_
    obtain ⟨v9, g_v9, hs⟩ := bd hs
    refine ro_gI F M fg_12_57 t_1063 g_v9 dX12_grows_44 ?_
    refine lv_icmp_ge (tgt := 254) hx hb dX12_grows_47 (by decide) (fun c10 => ?_) (fun c10 => ?_)
    · rw [if_pos c10] at hs
      exact kx (x2, h) _ _ _ (Option.some.inj hs).symm (lv_sub hl [0, 1, 2] rfl) M
    · rw [if_neg c10] at hs
      refine lv_aload_n hx hb dX12_grows_50 rfl (lv_at hl 0 rfl) ?_
      obtain ⟨v11, g_v11, hs⟩ := bd hs
      refine ro_gR F M fg_12_64 t_1070 g_v11 dX12_grows_51 ?_
      refine lv_iload_n hx hb dX12_grows_54 rfl (lv_at hl 3 rfl) ?_
      obtain ⟨v12, g_v12, hs⟩ := bd hs
      refine ro_aI F M g_v12 dX12_grows_55 ?_
      obtain ⟨q14, hsq14, hs⟩ := bd hs
      have KJ64 : ∀ (ls : Array Slot) (H : Heap) (locs : List Loc), lv_has ls 8 [(0, .ref th), (1, .int x1), (2, .int x2), (3, .int x3)] → Mo D cy A H0 h H locs → W p l e rm_X12_grows s m args below meth c H locs 0 0 (MQ below (QR D cy qF.2 A (some (.int qF.1))) args s 0 0 A) (F0 m 64 ls [.int q14]) := by
        intro ls H locs hl M
        refine lv_istore (i := 4) (lv' := [(4, .int q14), (0, .ref th), (1, .int x1), (2, .int x2), (3, .int x3)]) hx hb dX12_grows_64 hl (by decide) rfl (fun ls hl => ?_)
        refine lv_iload hx hb dX12_grows_66 (lv_at hl 0 rfl) ?_
        obtain ⟨q66, hsq66, hs⟩ := bd hs
        have KJ248 : ∀ (ls : Array Slot) (H : Heap) (locs : List Loc), lv_has ls 8 [(0, .ref th), (1, .int x1), (2, .int q66.1), (3, .int x3)] → Mo D cy A H0 q66.2 H locs → W p l e rm_X12_grows s m args below meth c H locs 0 0 (MQ below (QR D cy qF.2 A (some (.int qF.1))) args s 0 0 A) (F0 m 248 ls []) := by
          intro ls H locs hl M
          refine lv_iinc (v := x3 + 1) (lv' := [(3, .int (x3 + 1)), (0, .ref th), (1, .int x1), (2, .int q66.1)]) hx hb dX12_grows_248 hl (k := 3) rfl rfl (by decide) rfl (fun ls hl => ?_)
          refine lv_goto (tgt := 42) hx hb dX12_grows_251 (by decide) ?_
          exact ih q66.1 (x3 + 1) q66.2 _ _ _ _ hs (lv_sub hl [1, 2, 3, 0] rfl) M kx kr
        clear hs
        have hs := hsq66
        refine lv_if_ne (tgt := 92) hx hb dX12_grows_68 (by decide) (fun c15 => ?_) (fun c15 => ?_)
        · rw [if_neg c15] at hs
          refine lv_iload hx hb dX12_grows_92 (lv_at hl 0 rfl) ?_
          obtain ⟨q64, hsq64, hs⟩ := bd hs
          have KJ129 : ∀ (ls : Array Slot) (H : Heap) (locs : List Loc), lv_has ls 8 [(0, .ref th), (1, .int x1), (2, .int x2), (3, .int x3)] → Mo D cy A H0 h H locs → W p l e rm_X12_grows s m args below meth c H locs 0 0 (MQ below (QR D cy qF.2 A (some (.int qF.1))) args s 0 0 A) (F0 m 129 ls [.long q64]) := by
            intro ls H locs hl M
            refine lv_lstore (i := 5) (lv' := [(5, .long q64), (0, .ref th), (1, .int x1), (2, .int x2), (3, .int x3)]) hx hb dX12_grows_129 hl (by decide) rfl (fun ls hl => ?_)
            refine lv_iconst (v := 0) hx hb dX12_grows_131 (by decide) ?_
            refine lv_istore (i := 7) (lv' := [(7, .int 0), (5, .long q64), (0, .ref th), (1, .int x1), (2, .int x2), (3, .int x3)]) hx hb dX12_grows_132 hl (by decide) rfl (fun ls hl => ?_)
            obtain ⟨q65, g_q65, hs⟩ := bd hs
            refine w_X12_grows_L134 F N x2 0 h _ _ _ q65 g_q65 (lv_sub hl [2, 3, 4, 5, 1, 0] rfl) M (fun t_ ls H locs eq_ hl M => ?_) (fun v eq_ => eq_.elim)
            subst eq_
            obtain rfl := Option.some.inj hs
            exact KJ248 _ _ _ (lv_sub hl [0, 1, 2, 3] rfl) M
          clear hs
          have hs := hsq64
          refine lv_if_eq (tgt := 101) hx hb dX12_grows_94 (by decide) (fun c55 => ?_) (fun c55 => ?_)
          · rw [if_pos c55] at hs
            refine lv_aload_n hx hb dX12_grows_101 rfl (lv_at hl 1 rfl) ?_
            obtain ⟨v56, g_v56, hs⟩ := bd hs
            refine ro_gR F M fg_12_65 t_1071 g_v56 dX12_grows_102 ?_
            refine lv_aload_n hx hb dX12_grows_105 rfl (lv_at hl 1 rfl) ?_
            obtain ⟨v57, g_v57, hs⟩ := bd hs
            refine ro_gR F M fg_12_64 t_1070 g_v57 dX12_grows_106 ?_
            refine lv_iload_n hx hb dX12_grows_109 rfl (lv_at hl 4 rfl) ?_
            obtain ⟨v58, g_v58, hs⟩ := bd hs
            refine ro_aI F M g_v58 dX12_grows_110 ?_
            obtain ⟨v59, g_v59, hs⟩ := bd hs
            refine ro_aJ F M g_v59 dX12_grows_111 ?_
            refine lv_aload_n hx hb dX12_grows_112 rfl (lv_at hl 1 rfl) ?_
            obtain ⟨v60, g_v60, hs⟩ := bd hs
            refine ro_gR F M fg_12_61 t_1067 g_v60 dX12_grows_113 ?_
            refine lv_bipush (v := 16) hx hb dX12_grows_116 (by decide) ?_
            refine lv_iload_n hx hb dX12_grows_118 rfl (lv_at hl 4 rfl) ?_
            refine lv_imul hx hb dX12_grows_119 ?_
            refine lv_aload_n hx hb dX12_grows_120 rfl (lv_at hl 1 rfl) ?_
            obtain ⟨v61, g_v61, hs⟩ := bd hs
            refine ro_gR F M fg_12_64 t_1070 g_v61 dX12_grows_121 ?_
            refine lv_iload_n hx hb dX12_grows_124 rfl (lv_at hl 4 rfl) ?_
            obtain ⟨v62, g_v62, hs⟩ := bd hs
            refine ro_aI F M g_v62 dX12_grows_125 ?_
            refine lv_iadd hx hb dX12_grows_126 ?_
            obtain ⟨v63, g_v63, hs⟩ := bd hs
            refine ro_aJ F M g_v63 dX12_grows_127 ?_
            refine lv_lsub hx hb dX12_grows_128 ?_
            obtain rfl := Option.some.inj hs
            exact KJ129 _ _ _ (lv_sub hl [1, 2, 3, 4] rfl) M
          · rw [if_neg c55] at hs
            refine lv_lconst (v := 0) hx hb dX12_grows_97 (by decide) ?_
            refine lv_goto (tgt := 129) hx hb dX12_grows_98 (by decide) ?_
            obtain rfl := Option.some.inj hs
            exact KJ129 _ _ _ (lv_sub hl [1, 2, 3, 4] rfl) M
        · rw [if_pos c15] at hs
          refine lv_aload_n hx hb dX12_grows_71 rfl (lv_at hl 1 rfl) ?_
          obtain ⟨v16, g_v16, hs⟩ := bd hs
          refine ro_gR F M fg_12_65 t_1071 g_v16 dX12_grows_72 ?_
          refine lv_aload_n hx hb dX12_grows_75 rfl (lv_at hl 1 rfl) ?_
          obtain ⟨v17, g_v17, hs⟩ := bd hs
          refine ro_gR F M fg_12_64 t_1070 g_v17 dX12_grows_76 ?_
          refine lv_iload_n hx hb dX12_grows_79 rfl (lv_at hl 4 rfl) ?_
          obtain ⟨v18, g_v18, hs⟩ := bd hs
          refine ro_aI F M g_v18 dX12_grows_80 ?_
          obtain ⟨v19, g_v19, hs⟩ := bd hs
          refine ro_aJ F M g_v19 dX12_grows_81 ?_
          refine lv_ldc2 (v := 9223372036854775807) hx hb hown (hts _ (List.mem_cons_of_mem _ t_1403)) dX12_grows_82 ?_
          refine W.lcmp hx hb dX12_grows_85 ?_
          refine lv_if_ne (tgt := 92) hx hb dX12_grows_86 (by decide) (fun c20 => ?_) (fun c20 => ?_)
          · rw [if_neg c20] at hs
            refine lv_iload hx hb dX12_grows_92 (lv_at hl 0 rfl) ?_
            obtain ⟨q30, hsq30, hs⟩ := bd hs
            have KJ129 : ∀ (ls : Array Slot) (H : Heap) (locs : List Loc), lv_has ls 8 [(0, .ref th), (1, .int x1), (2, .int x2), (3, .int x3)] → Mo D cy A H0 h H locs → W p l e rm_X12_grows s m args below meth c H locs 0 0 (MQ below (QR D cy qF.2 A (some (.int qF.1))) args s 0 0 A) (F0 m 129 ls [.long q30]) := by
              intro ls H locs hl M
              refine lv_lstore (i := 5) (lv' := [(5, .long q30), (0, .ref th), (1, .int x1), (2, .int x2), (3, .int x3)]) hx hb dX12_grows_129 hl (by decide) rfl (fun ls hl => ?_)
              refine lv_iconst (v := 0) hx hb dX12_grows_131 (by decide) ?_
              refine lv_istore (i := 7) (lv' := [(7, .int 0), (5, .long q30), (0, .ref th), (1, .int x1), (2, .int x2), (3, .int x3)]) hx hb dX12_grows_132 hl (by decide) rfl (fun ls hl => ?_)
              obtain ⟨q54, g_q54, hs⟩ := bd hs
              refine w_X12_grows_L134 F N x2 0 h _ _ _ q54 g_q54 (lv_sub hl [2, 3, 4, 5, 1, 0] rfl) M (fun t_ ls H locs eq_ hl M => ?_) (fun v eq_ => eq_.elim)
              subst eq_
              obtain rfl := Option.some.inj hs
              exact KJ248 _ _ _ (lv_sub hl [0, 1, 2, 3] rfl) M
            clear hs
            have hs := hsq30
            refine lv_if_eq (tgt := 101) hx hb dX12_grows_94 (by decide) (fun c21 => ?_) (fun c21 => ?_)
            · rw [if_pos c21] at hs
              refine lv_aload_n hx hb dX12_grows_101 rfl (lv_at hl 1 rfl) ?_
              obtain ⟨v22, g_v22, hs⟩ := bd hs
              refine ro_gR F M fg_12_65 t_1071 g_v22 dX12_grows_102 ?_
              refine lv_aload_n hx hb dX12_grows_105 rfl (lv_at hl 1 rfl) ?_
              obtain ⟨v23, g_v23, hs⟩ := bd hs
              refine ro_gR F M fg_12_64 t_1070 g_v23 dX12_grows_106 ?_
              refine lv_iload_n hx hb dX12_grows_109 rfl (lv_at hl 4 rfl) ?_
              obtain ⟨v24, g_v24, hs⟩ := bd hs
              refine ro_aI F M g_v24 dX12_grows_110 ?_
              obtain ⟨v25, g_v25, hs⟩ := bd hs
              refine ro_aJ F M g_v25 dX12_grows_111 ?_
              refine lv_aload_n hx hb dX12_grows_112 rfl (lv_at hl 1 rfl) ?_
              obtain ⟨v26, g_v26, hs⟩ := bd hs
              refine ro_gR F M fg_12_61 t_1067 g_v26 dX12_grows_113 ?_
              refine lv_bipush (v := 16) hx hb dX12_grows_116 (by decide) ?_
              refine lv_iload_n hx hb dX12_grows_118 rfl (lv_at hl 4 rfl) ?_
              refine lv_imul hx hb dX12_grows_119 ?_
              refine lv_aload_n hx hb dX12_grows_120 rfl (lv_at hl 1 rfl) ?_
              obtain ⟨v27, g_v27, hs⟩ := bd hs
              refine ro_gR F M fg_12_64 t_1070 g_v27 dX12_grows_121 ?_
              refine lv_iload_n hx hb dX12_grows_124 rfl (lv_at hl 4 rfl) ?_
              obtain ⟨v28, g_v28, hs⟩ := bd hs
              refine ro_aI F M g_v28 dX12_grows_125 ?_
              refine lv_iadd hx hb dX12_grows_126 ?_
              obtain ⟨v29, g_v29, hs⟩ := bd hs
              refine ro_aJ F M g_v29 dX12_grows_127 ?_
              refine lv_lsub hx hb dX12_grows_128 ?_
              obtain rfl := Option.some.inj hs
              exact KJ129 _ _ _ (lv_sub hl [1, 2, 3, 4] rfl) M
            · rw [if_neg c21] at hs
              refine lv_lconst (v := 0) hx hb dX12_grows_97 (by decide) ?_
              refine lv_goto (tgt := 129) hx hb dX12_grows_98 (by decide) ?_
              obtain rfl := Option.some.inj hs
              exact KJ129 _ _ _ (lv_sub hl [1, 2, 3, 4] rfl) M
          · rw [if_pos c20] at hs
            refine lv_goto (tgt := 248) hx hb dX12_grows_89 (by decide) ?_
            obtain rfl := Option.some.inj hs
            exact KJ248 _ _ _ (lv_sub hl [1, 2, 3, 4] rfl) M
      clear hs
      have hs := hsq14
      refine lv_if_ge (tgt := 63) hx hb dX12_grows_56 (by decide) (fun c13 => ?_) (fun c13 => ?_)
      · rw [if_pos c13] at hs
        refine lv_iconst (v := 0) hx hb dX12_grows_63 (by decide) ?_
        obtain rfl := Option.some.inj hs
        exact KJ64 _ _ _ (lv_sub hl [0, 1, 2, 3] rfl) M
      · rw [if_neg c13] at hs
        refine lv_iconst (v := 1) hx hb dX12_grows_59 (by decide) ?_
        refine lv_goto (tgt := 64) hx hb dX12_grows_60 (by decide) ?_
        obtain rfl := Option.some.inj hs
        exact KJ64 _ _ _ (lv_sub hl [0, 1, 2, 3] rfl) M
set_option maxHeartbeats 4000000 in
set_option maxRecDepth 100000 in
theorem w_X12_grows_L34 {p : Program} {l : Launch} {e : Env} {s : State} {m : MethodId} {args : Array Value} {below : List Frame} {meth : Method} {c : Code} {D : va_G} {cy : Nat → ClassId} {A : Nat → Prop} {H0 : Heap} {N th : Nat} {x1 : Int32} {qF : Int32 × IH} (F : Fx p s m args meth c D cy A H0 yX12_grows cX12_grows 8 (some .boolean)) : ∀ (n : Nat) (x2 : Int32) (h : IH) (ls : Array Slot) (H : Heap) (locs : List Loc) (q : IH), s_X12_grows_L34 N n th x1 x2 h = some q → lv_has ls 8 [(0, .ref th), (1, .int x1), (2, .int x2)] → Mo D cy A H0 h H locs → (∀ (t : IH) (ls : Array Slot) (H : Heap) (locs : List Loc), q = t → lv_has ls 8 [(0, .ref th)] → Mo D cy A H0 t H locs → W p l e rm_X12_grows s m args below meth c H locs 0 0 (MQ below (QR D cy qF.2 A (some (.int qF.1))) args s 0 0 A) (F0 m 257 ls [])) → (∀ v : Int32 × IH, False → v = qF) → W p l e rm_X12_grows s m args below meth c H locs 0 0 (MQ below (QR D cy qF.2 A (some (.int qF.1))) args s 0 0 A) (F0 m 34 ls []) := by
  intro n
  induction n with
  | zero => intro x2 h ls H locs q hs; rw [s_X12_grows_L34.eq_1] at hs; cases hs
  | succ n ih =>
    intro x2 h ls H locs q hs hl M kx kr
    obtain ⟨hx, hb, hr, hml, hown, hlk, hts, hK, hN, hA, hH⟩ := id F
    rw [s_X12_grows_L34.eq_2] at hs
    refine lv_iload_n hx hb dX12_grows_34 rfl (lv_at hl 2 rfl) ?_
    refine lv_if_eq (tgt := 257) hx hb dX12_grows_35 (by decide) (fun c8 => ?_) (fun c8 => ?_)
    · rw [if_pos c8] at hs
      exact kx h _ _ _ (Option.some.inj hs).symm (lv_sub hl [0] rfl) M
    · rw [if_neg c8] at hs
      refine lv_iconst (v := 0) hx hb dX12_grows_38 (by decide) ?_
      refine lv_istore_n (i := 2) (lv' := [(2, .int 0), (0, .ref th), (1, .int x1)]) hx hb dX12_grows_39 rfl hl (by decide) rfl (fun ls hl => ?_)
      refine lv_iload_n hx hb dX12_grows_40 rfl (lv_at hl 2 rfl) ?_
      refine lv_istore_n (i := 3) (lv' := [(3, .int x1), (2, .int 0), (0, .ref th), (1, .int x1)]) hx hb dX12_grows_41 rfl hl (by decide) rfl (fun ls hl => ?_)
      obtain ⟨q67, g_q67, hs⟩ := bd hs
      refine w_X12_grows_L42 F N 0 x1 h _ _ _ q67 g_q67 (lv_sub hl [2, 3, 1, 0] rfl) M (fun t_ ls H locs eq_ hl M => ?_) (fun v eq_ => eq_.elim)
      subst eq_
      refine lv_goto (tgt := 34) hx hb dX12_grows_254 (by decide) ?_
      exact ih q67.1 q67.2 _ _ _ _ hs (lv_sub hl [0, 1, 2] rfl) M kx kr
set_option maxHeartbeats 4000000 in
set_option maxRecDepth 100000 in
theorem w_X12_grows_L262 {p : Program} {l : Launch} {e : Env} {s : State} {m : MethodId} {args : Array Value} {below : List Frame} {meth : Method} {c : Code} {D : va_G} {cy : Nat → ClassId} {A : Nat → Prop} {H0 : Heap} {N th : Nat} {h : IH} {qF : Int32 × IH} (F : Fx p s m args meth c D cy A H0 yX12_grows cX12_grows 8 (some .boolean)) : ∀ (n : Nat) (x3 : Int32) (x4 : Int32) (ls : Array Slot) (H : Heap) (locs : List Loc) (q : Int32), s_X12_grows_L262 N n th x3 x4 h = some q → lv_has ls 8 [(0, .ref th), (3, .int x3), (4, .int x4)] → Mo D cy A H0 h H locs → (∀ (t : Int32) (ls : Array Slot) (H : Heap) (locs : List Loc), q = t → lv_has ls 8 [(0, .ref th), (3, .int t)] → Mo D cy A H0 h H locs → W p l e rm_X12_grows s m args below meth c H locs 0 0 (MQ below (QR D cy qF.2 A (some (.int qF.1))) args s 0 0 A) (F0 m 325 ls [])) → (∀ v : Int32 × IH, False → v = qF) → W p l e rm_X12_grows s m args below meth c H locs 0 0 (MQ below (QR D cy qF.2 A (some (.int qF.1))) args s 0 0 A) (F0 m 262 ls []) := by
  intro n
  induction n with
  | zero => intro x3 x4 ls H locs q hs; rw [s_X12_grows_L262.eq_1] at hs; cases hs
  | succ n ih =>
    intro x3 x4 ls H locs q hs hl M kx kr
    obtain ⟨hx, hb, hr, hml, hown, hlk, hts, hK, hN, hA, hH⟩ := id F
    rw [s_X12_grows_L262.eq_2] at hs
    refine lv_iload hx hb dX12_grows_262 (lv_at hl 2 rfl) ?_
    refine lv_aload_n hx hb dX12_grows_264 rfl (lv_at hl 0 rfl) ?_
    obtain ⟨v69, g_v69, hs⟩ := bd hs
    refine ro_gI F M fg_12_58 t_1064 g_v69 dX12_grows_265 ?_
    refine lv_icmp_ge (tgt := 325) hx hb dX12_grows_268 (by decide) (fun c70 => ?_) (fun c70 => ?_)
    · rw [if_pos c70] at hs
      exact kx x3 _ _ _ (Option.some.inj hs).symm (lv_sub hl [0, 1] rfl) M
    · rw [if_neg c70] at hs
      refine lv_aload_n hx hb dX12_grows_271 rfl (lv_at hl 0 rfl) ?_
      obtain ⟨v71, g_v71, hs⟩ := bd hs
      refine ro_gR F M fg_12_63 t_1069 g_v71 dX12_grows_272 ?_
      refine lv_iload hx hb dX12_grows_275 (lv_at hl 2 rfl) ?_
      obtain ⟨v72, g_v72, hs⟩ := bd hs
      refine ro_aI F M g_v72 dX12_grows_277 ?_
      obtain ⟨q83, hsq83, hs⟩ := bd hs
      have KJ319 : ∀ (ls : Array Slot) (H : Heap) (locs : List Loc), lv_has ls 8 [(0, .ref th), (3, .int q83), (4, .int x4)] → Mo D cy A H0 h H locs → W p l e rm_X12_grows s m args below meth c H locs 0 0 (MQ below (QR D cy qF.2 A (some (.int qF.1))) args s 0 0 A) (F0 m 319 ls []) := by
        intro ls H locs hl M
        refine lv_iinc (v := x4 + 1) (lv' := [(4, .int (x4 + 1)), (0, .ref th), (3, .int q83)]) hx hb dX12_grows_319 hl (k := 2) rfl rfl (by decide) rfl (fun ls hl => ?_)
        refine lv_goto (tgt := 262) hx hb dX12_grows_322 (by decide) ?_
        exact ih q83 (x4 + 1) _ _ _ _ hs (lv_sub hl [1, 2, 0] rfl) M kx kr
      clear hs
      have hs := hsq83
      refine lv_if_ge (tgt := 319) hx hb dX12_grows_278 (by decide) (fun c73 => ?_) (fun c73 => ?_)
      · rw [if_pos c73] at hs
        obtain rfl := Option.some.inj hs
        exact KJ319 _ _ _ (lv_sub hl [0, 1, 2] rfl) M
      · rw [if_neg c73] at hs
        refine lv_aload_n hx hb dX12_grows_281 rfl (lv_at hl 0 rfl) ?_
        obtain ⟨v74, g_v74, hs⟩ := bd hs
        refine ro_gR F M fg_12_65 t_1071 g_v74 dX12_grows_282 ?_
        refine lv_iload hx hb dX12_grows_285 (lv_at hl 2 rfl) ?_
        obtain ⟨v75, g_v75, hs⟩ := bd hs
        refine ro_aJ F M g_v75 dX12_grows_287 ?_
        refine lv_ldc2 (v := 9223372036854775807) hx hb hown (hts _ (List.mem_cons_of_mem _ t_1403)) dX12_grows_288 ?_
        refine W.lcmp hx hb dX12_grows_291 ?_
        refine lv_if_ge (tgt := 319) hx hb dX12_grows_292 (by decide) (fun c76 => ?_) (fun c76 => ?_)
        · rw [if_pos c76] at hs
          obtain rfl := Option.some.inj hs
          exact KJ319 _ _ _ (lv_sub hl [0, 1, 2] rfl) M
        · rw [if_neg c76] at hs
          refine lv_iload_n hx hb dX12_grows_295 rfl (lv_at hl 1 rfl) ?_
          refine lv_if_lt (tgt := 316) hx hb dX12_grows_296 (by decide) (fun c77 => ?_) (fun c77 => ?_)
          · rw [if_pos c77] at hs
            refine lv_iload hx hb dX12_grows_316 (lv_at hl 2 rfl) ?_
            refine lv_istore_n (i := 3) (lv' := [(3, .int x4), (0, .ref th), (4, .int x4)]) hx hb dX12_grows_318 rfl hl (by decide) rfl (fun ls hl => ?_)
            obtain rfl := Option.some.inj hs
            exact KJ319 _ _ _ (lv_sub hl [1, 0, 2] rfl) M
          · rw [if_neg c77] at hs
            refine lv_aload_n hx hb dX12_grows_299 rfl (lv_at hl 0 rfl) ?_
            obtain ⟨v78, g_v78, hs⟩ := bd hs
            refine ro_gR F M fg_12_65 t_1071 g_v78 dX12_grows_300 ?_
            refine lv_iload hx hb dX12_grows_303 (lv_at hl 2 rfl) ?_
            obtain ⟨v79, g_v79, hs⟩ := bd hs
            refine ro_aJ F M g_v79 dX12_grows_305 ?_
            refine lv_aload_n hx hb dX12_grows_306 rfl (lv_at hl 0 rfl) ?_
            obtain ⟨v80, g_v80, hs⟩ := bd hs
            refine ro_gR F M fg_12_65 t_1071 g_v80 dX12_grows_307 ?_
            refine lv_iload_n hx hb dX12_grows_310 rfl (lv_at hl 1 rfl) ?_
            obtain ⟨v81, g_v81, hs⟩ := bd hs
            refine ro_aJ F M g_v81 dX12_grows_311 ?_
            refine W.lcmp hx hb dX12_grows_312 ?_
            refine lv_if_ge (tgt := 319) hx hb dX12_grows_313 (by decide) (fun c82 => ?_) (fun c82 => ?_)
            · rw [if_pos c82] at hs
              obtain rfl := Option.some.inj hs
              exact KJ319 _ _ _ (lv_sub hl [0, 1, 2] rfl) M
            · rw [if_neg c82] at hs
              refine lv_iload hx hb dX12_grows_316 (lv_at hl 2 rfl) ?_
              refine lv_istore_n (i := 3) (lv' := [(3, .int x4), (0, .ref th), (4, .int x4)]) hx hb dX12_grows_318 rfl hl (by decide) rfl (fun ls hl => ?_)
              obtain rfl := Option.some.inj hs
              exact KJ319 _ _ _ (lv_sub hl [1, 0, 2] rfl) M
set_option maxHeartbeats 4000000 in
set_option maxRecDepth 100000 in
theorem w_X12_grows_L359 {p : Program} {l : Launch} {e : Env} {s : State} {m : MethodId} {args : Array Value} {below : List Frame} {meth : Method} {c : Code} {D : va_G} {cy : Nat → ClassId} {A : Nat → Prop} {H0 : Heap} {N th : Nat} {qF : Int32 × IH} (F : Fx p s m args meth c D cy A H0 yX12_grows cX12_grows 8 (some .boolean)) : ∀ (n : Nat) (x4 : Int32) (h : IH) (ls : Array Slot) (H : Heap) (locs : List Loc) (q : IH), s_X12_grows_L359 N n th x4 h = some q → lv_has ls 8 [(0, .ref th), (4, .int x4)] → Mo D cy A H0 h H locs → (∀ (t : IH) (ls : Array Slot) (H : Heap) (locs : List Loc), q = t → lv_has ls 8 [] → Mo D cy A H0 t H locs → W p l e rm_X12_grows s m args below meth c H locs 0 0 (MQ below (QR D cy qF.2 A (some (.int qF.1))) args s 0 0 A) (F0 m 407 ls [])) → (∀ v : Int32 × IH, False → v = qF) → W p l e rm_X12_grows s m args below meth c H locs 0 0 (MQ below (QR D cy qF.2 A (some (.int qF.1))) args s 0 0 A) (F0 m 359 ls []) := by
  intro n
  induction n with
  | zero => intro x4 h ls H locs q hs; rw [s_X12_grows_L359.eq_1] at hs; cases hs
  | succ n ih =>
    intro x4 h ls H locs q hs hl M kx kr
    obtain ⟨hx, hb, hr, hml, hown, hlk, hts, hK, hN, hA, hH⟩ := id F
    rw [s_X12_grows_L359.eq_2] at hs
    refine lv_iload hx hb dX12_grows_359 (lv_at hl 1 rfl) ?_
    refine lv_if_lt (tgt := 407) hx hb dX12_grows_361 (by decide) (fun c92 => ?_) (fun c92 => ?_)
    · rw [if_pos c92] at hs
      exact kx h _ _ _ (Option.some.inj hs).symm (lv_sub hl [] rfl) M
    · rw [if_neg c92] at hs
      refine lv_aload_n hx hb dX12_grows_364 rfl (lv_at hl 0 rfl) ?_
      obtain ⟨v93, g_v93, hs⟩ := bd hs
      refine ro_gR F M fg_12_66 t_1072 g_v93 dX12_grows_365 ?_
      refine lv_iload hx hb dX12_grows_368 (lv_at hl 1 rfl) ?_
      obtain ⟨v94, g_v94, hs⟩ := bd hs
      refine ro_aI F M g_v94 dX12_grows_370 ?_
      refine lv_istore (i := 5) (lv' := [(5, .int v94), (0, .ref th), (4, .int x4)]) hx hb dX12_grows_371 hl (by decide) rfl (fun ls hl => ?_)
      refine lv_aload_n hx hb dX12_grows_373 rfl (lv_at hl 1 rfl) ?_
      obtain ⟨v95, g_v95, hs⟩ := bd hs
      refine ro_gR F M fg_12_64 t_1070 g_v95 dX12_grows_374 ?_
      refine lv_iload hx hb dX12_grows_377 (lv_at hl 0 rfl) ?_
      obtain ⟨v96, g_v96, hs⟩ := bd hs
      refine ro_aI F M g_v96 dX12_grows_379 ?_
      refine lv_istore (i := 6) (lv' := [(6, .int v96), (5, .int v94), (0, .ref th), (4, .int x4)]) hx hb dX12_grows_380 hl (by decide) rfl (fun ls hl => ?_)
      refine lv_aload_n hx hb dX12_grows_382 rfl (lv_at hl 2 rfl) ?_
      obtain ⟨v97, g_v97, hs⟩ := bd hs
      refine ro_gR F M fg_12_64 t_1070 g_v97 dX12_grows_383 ?_
      refine lv_iload hx hb dX12_grows_386 (lv_at hl 1 rfl) ?_
      refine lv_iload hx hb dX12_grows_388 (lv_at hl 3 rfl) ?_
      obtain ⟨h98, g_h98, hs⟩ := bd hs
      refine ro_sI F M g_h98 dX12_grows_390 (fun H locs M => ?_)
      refine lv_aload_n hx hb dX12_grows_391 rfl (lv_at hl 2 rfl) ?_
      obtain ⟨v99, g_v99, hs⟩ := bd hs
      refine ro_gR F M fg_12_63 t_1069 g_v99 dX12_grows_392 ?_
      refine lv_iload hx hb dX12_grows_395 (lv_at hl 3 rfl) ?_
      refine lv_iload hx hb dX12_grows_397 (lv_at hl 1 rfl) ?_
      obtain ⟨h100, g_h100, hs⟩ := bd hs
      refine ro_sI F M g_h100 dX12_grows_399 (fun H locs M => ?_)
      refine lv_iload hx hb dX12_grows_400 (lv_at hl 0 rfl) ?_
      refine lv_istore (i := 4) (lv' := [(4, .int v96), (6, .int v96), (5, .int v94), (0, .ref th)]) hx hb dX12_grows_402 hl (by decide) rfl (fun ls hl => ?_)
      refine lv_goto (tgt := 359) hx hb dX12_grows_404 (by decide) ?_
      exact ih v96 h100 _ _ _ _ hs (lv_sub hl [3, 0] rfl) M kx kr
set_option maxHeartbeats 4000000 in
set_option maxRecDepth 100000 in
theorem c_X12_grows {l : Launch} {D : va_G} {cy : Nat → ClassId} {sz N : Nat} {h : IH} {th : Nat} {a0 : Int32} {qF : Int32 × IH} (hs : s_X12_grows N h th a0 = some qF) : Ct l D cy yX12_grows cX12_grows 8 (some .boolean) rm_X12_grows h sz [.ref th, .int a0] qF.2 (some (.int qF.1)) := by
  refine ct_start (by decide +kernel) [(0, .ref th), (1, .int a0)] (Nat.le_of_ble_eq_true rfl) rfl ?_
  intro p e s m args below meth c A H0 ls F hin hsz M hl
  obtain ⟨hx, hb, hr, hml, hown, hlk, hts, hK, hN, hA, hH⟩ := id F
  generalize s.heap = H at M ⊢
  generalize ([] : List Loc) = locs at M ⊢
  unfold s_X12_grows at hs
  refine lv_iconst (v := 0) hx hb dX12_grows_0 (by decide) ?_
  refine lv_istore_n (i := 2) (lv' := [(2, .int 0), (0, .ref th), (1, .int a0)]) hx hb dX12_grows_1 rfl hl (by decide) rfl (fun ls hl => ?_)
  obtain ⟨q7, g_q7, hs⟩ := bd hs
  refine w_X12_grows_L2 F N 0 h _ _ _ q7 g_q7 (lv_sub hl [1, 2, 0] rfl) M (fun t_ ls H locs eq_ hl M => ?_) (fun v eq_ => eq_.elim)
  subst eq_
  refine lv_iconst (v := 1) hx hb dX12_grows_32 (by decide) ?_
  refine lv_istore_n (i := 2) (lv' := [(2, .int 1), (0, .ref th), (1, .int a0)]) hx hb dX12_grows_33 rfl hl (by decide) rfl (fun ls hl => ?_)
  obtain ⟨q68, g_q68, hs⟩ := bd hs
  refine w_X12_grows_L34 F N 1 q7 _ _ _ q68 g_q68 (lv_sub hl [1, 2, 0] rfl) M (fun t_ ls H locs eq_ hl M => ?_) (fun v eq_ => eq_.elim)
  subst eq_
  refine lv_iconst (v := (-1)) hx hb dX12_grows_257 (by decide) ?_
  refine lv_istore_n (i := 3) (lv' := [(3, .int (-1)), (0, .ref th)]) hx hb dX12_grows_258 rfl hl (by decide) rfl (fun ls hl => ?_)
  refine lv_iconst (v := 0) hx hb dX12_grows_259 (by decide) ?_
  refine lv_istore (i := 4) (lv' := [(4, .int 0), (3, .int (-1)), (0, .ref th)]) hx hb dX12_grows_260 hl (by decide) rfl (fun ls hl => ?_)
  obtain ⟨q84, g_q84, hs⟩ := bd hs
  refine w_X12_grows_L262 F N (-1) 0 _ _ _ q84 g_q84 (lv_sub hl [2, 1, 0] rfl) M (fun t_ ls H locs eq_ hl M => ?_) (fun v eq_ => eq_.elim)
  subst eq_
  refine lv_iload_n hx hb dX12_grows_325 rfl (lv_at hl 1 rfl) ?_
  refine lv_if_ge (tgt := 331) hx hb dX12_grows_326 (by decide) (fun c85 => ?_) (fun c85 => ?_)
  · rw [if_pos c85] at hs
    refine lv_aload_n hx hb dX12_grows_331 rfl (lv_at hl 0 rfl) ?_
    refine lv_dup hx hb dX12_grows_332 rfl ?_
    obtain ⟨v86, g_v86, hs⟩ := bd hs
    refine ro_gL F M fg_12_68 t_1074 g_v86 dX12_grows_333 ?_
    refine lv_aload_n hx hb dX12_grows_336 rfl (lv_at hl 0 rfl) ?_
    obtain ⟨v87, g_v87, hs⟩ := bd hs
    refine ro_gR F M fg_12_65 t_1071 g_v87 dX12_grows_337 ?_
    refine lv_iload_n hx hb dX12_grows_340 rfl (lv_at hl 1 rfl) ?_
    obtain ⟨v88, g_v88, hs⟩ := bd hs
    refine ro_aJ F M g_v88 dX12_grows_341 ?_
    refine lv_ladd hx hb dX12_grows_342 ?_
    obtain ⟨h89, g_h89, hs⟩ := bd hs
    refine ro_pL F M fg_12_68 fp_12_68 rfl t_1074 g_h89 dX12_grows_343 (fun H locs M => ?_)
    refine lv_aload_n hx hb dX12_grows_346 rfl (lv_at hl 0 rfl) ?_
    refine lv_dup hx hb dX12_grows_347 rfl ?_
    obtain ⟨v90, g_v90, hs⟩ := bd hs
    refine ro_gI F M fg_12_67 t_1073 g_v90 dX12_grows_348 ?_
    refine lv_iconst (v := 1) hx hb dX12_grows_351 (by decide) ?_
    refine lv_iadd hx hb dX12_grows_352 ?_
    obtain ⟨h91, g_h91, hs⟩ := bd hs
    refine ro_pI F M fg_12_67 fp_12_67 rfl t_1073 g_h91 dX12_grows_353 (fun H locs M => ?_)
    refine lv_iload_n hx hb dX12_grows_356 rfl (lv_at hl 1 rfl) ?_
    refine lv_istore (i := 4) (lv' := [(4, .int q84), (0, .ref th), (3, .int q84)]) hx hb dX12_grows_357 hl (by decide) rfl (fun ls hl => ?_)
    obtain ⟨q101, g_q101, hs⟩ := bd hs
    refine w_X12_grows_L359 F N q84 h91 _ _ _ q101 g_q101 (lv_sub hl [1, 0] rfl) M (fun t_ ls H locs eq_ hl M => ?_) (fun v eq_ => eq_.elim)
    subst eq_
    refine lv_iconst (v := 1) hx hb dX12_grows_407 (by decide) ?_
    obtain rfl := Option.some.inj hs
    exact re_z F M (Or.inr rfl) dX12_grows_408
  · rw [if_neg c85] at hs
    refine lv_iconst (v := 0) hx hb dX12_grows_329 (by decide) ?_
    obtain rfl := Option.some.inj hs
    exact re_z F M (Or.inl rfl) dX12_grows_330
abbrev rm_X12_solve : Room := { frames := 1, cells := 0, slots := 0, locals := 27 }
theorem mf_X12_solve : MV 12 yX12_solve cX12_solve 3 none 1 RX12 := ⟨t_1398, t_1397, tS_103, t_12, ⟨by decide +kernel, by decide +kernel, by decide +kernel⟩, rfl, by decide⟩
def s_X12_solve_L12 (N : Nat) : Nat → Nat → Int32 → Int32 → IH → Option (IH)
  | 0, _, _, _, _ => none
  | n + 1, th, x1, x2, h => if 16 ≤ x2 then some h else (gR h 12 63 (some th)).bind fun v4 => (sI h v4 x2 (-1)).bind fun h5 => (gR h5 12 64 (some th)).bind fun v6 => (sI h5 v6 x2 (-1)).bind fun h7 => s_X12_solve_L12 N n th x1 (x2 + 1) h7
def s_X12_solve_L40 (N : Nat) : Nat → Nat → Int32 → Int32 → IH → Option (IH)
  | 0, _, _, _, _ => none
  | n + 1, th, x1, x2, h => if x2 = 0 then some h else (cV h 12 (some th) fun a11 => s_X12_grows N h a11 x1).bind fun v10 => s_X12_solve_L40 N n th x1 v10.1 v10.2
def s_X12_solve (N : Nat) (h : IH) (th : Nat) (a0 : Int32) : Option (IH) := (pI h 12 67 (some th) 0).bind fun h1 => (pL h1 12 68 (some th) 0).bind fun h2 => (s_X12_solve_L12 N N th a0 0 h2).bind fun q8 => (s_X12_solve_L40 N N th a0 1 q8).bind fun q12 => some q12
set_option maxHeartbeats 4000000 in
set_option maxRecDepth 100000 in
theorem w_X12_solve_L12 {p : Program} {l : Launch} {e : Env} {s : State} {m : MethodId} {args : Array Value} {below : List Frame} {meth : Method} {c : Code} {D : va_G} {cy : Nat → ClassId} {A : Nat → Prop} {H0 : Heap} {N th : Nat} {x1 : Int32} {qF : IH} (F : Fx p s m args meth c D cy A H0 yX12_solve cX12_solve 3 none) : ∀ (n : Nat) (x2 : Int32) (h : IH) (ls : Array Slot) (H : Heap) (locs : List Loc) (q : IH), s_X12_solve_L12 N n th x1 x2 h = some q → lv_has ls 3 [(0, .ref th), (1, .int x1), (2, .int x2)] → Mo D cy A H0 h H locs → (∀ (t : IH) (ls : Array Slot) (H : Heap) (locs : List Loc), q = t → lv_has ls 3 [(0, .ref th), (1, .int x1)] → Mo D cy A H0 t H locs → W p l e rm_X12_solve s m args below meth c H locs 0 0 (MQ below (QR D cy qF A none) args s 0 0 A) (F0 m 38 ls [])) → (∀ v : IH, False → v = qF) → W p l e rm_X12_solve s m args below meth c H locs 0 0 (MQ below (QR D cy qF A none) args s 0 0 A) (F0 m 12 ls []) := by
  intro n
  induction n with
  | zero => intro x2 h ls H locs q hs; rw [s_X12_solve_L12.eq_1] at hs; cases hs
  | succ n ih =>
    intro x2 h ls H locs q hs hl M kx kr
    obtain ⟨hx, hb, hr, hml, hown, hlk, hts, hK, hN, hA, hH⟩ := id F
    rw [s_X12_solve_L12.eq_2] at hs
    refine lv_iload_n hx hb dX12_solve_12 rfl (lv_at hl 2 rfl) ?_
    refine lv_bipush (v := 16) hx hb dX12_solve_13 (by decide) ?_
    refine lv_icmp_ge (tgt := 38) hx hb dX12_solve_15 (by decide) (fun c3 => ?_) (fun c3 => ?_)
    · rw [if_pos c3] at hs
      exact kx h _ _ _ (Option.some.inj hs).symm (lv_sub hl [0, 1] rfl) M
    · rw [if_neg c3] at hs
      refine lv_aload_n hx hb dX12_solve_18 rfl (lv_at hl 0 rfl) ?_
      obtain ⟨v4, g_v4, hs⟩ := bd hs
      refine ro_gR F M fg_12_63 t_1069 g_v4 dX12_solve_19 ?_
      refine lv_iload_n hx hb dX12_solve_22 rfl (lv_at hl 2 rfl) ?_
      refine lv_iconst (v := (-1)) hx hb dX12_solve_23 (by decide) ?_
      obtain ⟨h5, g_h5, hs⟩ := bd hs
      refine ro_sI F M g_h5 dX12_solve_24 (fun H locs M => ?_)
      refine lv_aload_n hx hb dX12_solve_25 rfl (lv_at hl 0 rfl) ?_
      obtain ⟨v6, g_v6, hs⟩ := bd hs
      refine ro_gR F M fg_12_64 t_1070 g_v6 dX12_solve_26 ?_
      refine lv_iload_n hx hb dX12_solve_29 rfl (lv_at hl 2 rfl) ?_
      refine lv_iconst (v := (-1)) hx hb dX12_solve_30 (by decide) ?_
      obtain ⟨h7, g_h7, hs⟩ := bd hs
      refine ro_sI F M g_h7 dX12_solve_31 (fun H locs M => ?_)
      refine lv_iinc (v := x2 + 1) (lv' := [(2, .int (x2 + 1)), (0, .ref th), (1, .int x1)]) hx hb dX12_solve_32 hl (k := 2) rfl rfl (by decide) rfl (fun ls hl => ?_)
      refine lv_goto (tgt := 12) hx hb dX12_solve_35 (by decide) ?_
      exact ih (x2 + 1) h7 _ _ _ _ hs (lv_sub hl [1, 2, 0] rfl) M kx kr
set_option maxHeartbeats 4000000 in
set_option maxRecDepth 100000 in
theorem w_X12_solve_L40 {p : Program} {l : Launch} {e : Env} {s : State} {m : MethodId} {args : Array Value} {below : List Frame} {meth : Method} {c : Code} {D : va_G} {cy : Nat → ClassId} {A : Nat → Prop} {H0 : Heap} {N th : Nat} {x1 : Int32} {qF : IH} (F : Fx p s m args meth c D cy A H0 yX12_solve cX12_solve 3 none) : ∀ (n : Nat) (x2 : Int32) (h : IH) (ls : Array Slot) (H : Heap) (locs : List Loc) (q : IH), s_X12_solve_L40 N n th x1 x2 h = some q → lv_has ls 3 [(0, .ref th), (1, .int x1), (2, .int x2)] → Mo D cy A H0 h H locs → (∀ (t : IH) (ls : Array Slot) (H : Heap) (locs : List Loc), q = t → lv_has ls 3 [] → Mo D cy A H0 t H locs → W p l e rm_X12_solve s m args below meth c H locs 0 0 (MQ below (QR D cy qF A none) args s 0 0 A) (F0 m 53 ls [])) → (∀ v : IH, False → v = qF) → W p l e rm_X12_solve s m args below meth c H locs 0 0 (MQ below (QR D cy qF A none) args s 0 0 A) (F0 m 40 ls []) := by
  intro n
  induction n with
  | zero => intro x2 h ls H locs q hs; rw [s_X12_solve_L40.eq_1] at hs; cases hs
  | succ n ih =>
    intro x2 h ls H locs q hs hl M kx kr
    obtain ⟨hx, hb, hr, hml, hown, hlk, hts, hK, hN, hA, hH⟩ := id F
    rw [s_X12_solve_L40.eq_2] at hs
    refine lv_iload_n hx hb dX12_solve_40 rfl (lv_at hl 2 rfl) ?_
    refine lv_if_eq (tgt := 53) hx hb dX12_solve_41 (by decide) (fun c9 => ?_) (fun c9 => ?_)
    · rw [if_pos c9] at hs
      exact kx h _ _ _ (Option.some.inj hs).symm (lv_sub hl [] rfl) M
    · rw [if_neg c9] at hs
      refine lv_aload_n hx hb dX12_solve_44 rfl (lv_at hl 0 rfl) ?_
      refine lv_iload_n hx hb dX12_solve_45 rfl (lv_at hl 1 rfl) ?_
      obtain ⟨v10, g_v10, hs⟩ := bd hs
      obtain ⟨a11, e_a11, k_a11, g_v10⟩ := cV_some g_v10
      obtain rfl := Option.some.inj e_a11
      refine ca_Vi (bq := th) (As := [.int x1]) (rest := []) F M (c_X12_grows g_v10) mf_X12_grows t_1399 k_a11 rfl ⟨by decide, by decide⟩ ⟨rfl, rfl⟩ ⟨Nat.zero_le _, Nat.zero_le _⟩ hl.1 rfl (by decide) dX12_solve_46 (fun H locs M => ?_)
      refine lv_istore_n (i := 2) (lv' := [(2, .int v10.1), (0, .ref th), (1, .int x1)]) hx hb dX12_solve_49 rfl hl (by decide) rfl (fun ls hl => ?_)
      refine lv_goto (tgt := 40) hx hb dX12_solve_50 (by decide) ?_
      exact ih v10.1 v10.2 _ _ _ _ hs (lv_sub hl [1, 2, 0] rfl) M kx kr
set_option maxHeartbeats 4000000 in
set_option maxRecDepth 100000 in
theorem c_X12_solve {l : Launch} {D : va_G} {cy : Nat → ClassId} {sz N : Nat} {h : IH} {th : Nat} {a0 : Int32} {qF : IH} (hs : s_X12_solve N h th a0 = some qF) : Ct l D cy yX12_solve cX12_solve 3 none rm_X12_solve h sz [.ref th, .int a0] qF none := by
  refine ct_start (by decide +kernel) [(0, .ref th), (1, .int a0)] (Nat.le_of_ble_eq_true rfl) rfl ?_
  intro p e s m args below meth c A H0 ls F hin hsz M hl
  obtain ⟨hx, hb, hr, hml, hown, hlk, hts, hK, hN, hA, hH⟩ := id F
  generalize s.heap = H at M ⊢
  generalize ([] : List Loc) = locs at M ⊢
  unfold s_X12_solve at hs
  refine lv_aload_n hx hb dX12_solve_0 rfl (lv_at hl 0 rfl) ?_
  refine lv_iconst (v := 0) hx hb dX12_solve_1 (by decide) ?_
  obtain ⟨h1, g_h1, hs⟩ := bd hs
  refine ro_pI F M fg_12_67 fp_12_67 rfl t_1073 g_h1 dX12_solve_2 (fun H locs M => ?_)
  refine lv_aload_n hx hb dX12_solve_5 rfl (lv_at hl 0 rfl) ?_
  refine lv_lconst (v := 0) hx hb dX12_solve_6 (by decide) ?_
  obtain ⟨h2, g_h2, hs⟩ := bd hs
  refine ro_pL F M fg_12_68 fp_12_68 rfl t_1074 g_h2 dX12_solve_7 (fun H locs M => ?_)
  refine lv_iconst (v := 0) hx hb dX12_solve_10 (by decide) ?_
  refine lv_istore_n (i := 2) (lv' := [(2, .int 0), (0, .ref th), (1, .int a0)]) hx hb dX12_solve_11 rfl hl (by decide) rfl (fun ls hl => ?_)
  obtain ⟨q8, g_q8, hs⟩ := bd hs
  refine w_X12_solve_L12 F N 0 h2 _ _ _ q8 g_q8 (lv_sub hl [1, 2, 0] rfl) M (fun t_ ls H locs eq_ hl M => ?_) (fun v eq_ => eq_.elim)
  subst eq_
  refine lv_iconst (v := 1) hx hb dX12_solve_38 (by decide) ?_
  refine lv_istore_n (i := 2) (lv' := [(2, .int 1), (0, .ref th), (1, .int a0)]) hx hb dX12_solve_39 rfl hl (by decide) rfl (fun ls hl => ?_)
  obtain ⟨q12, g_q12, hs⟩ := bd hs
  refine w_X12_solve_L40 F N 1 q8 _ _ _ q12 g_q12 (lv_sub hl [1, 2, 0] rfl) M (fun t_ ls H locs eq_ hl M => ?_) (fun v eq_ => eq_.elim)
  subst eq_
  obtain rfl := Option.some.inj hs
  exact re_v F M dX12_solve_53
