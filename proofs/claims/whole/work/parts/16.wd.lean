abbrev rm_X6_bestOfUnsettled : Room := { frames := 1, cells := 0, slots := 0, locals := 21 }
theorem mf_X6_bestOfUnsettled : MV 6 yX6_bestOfUnsettled cX6_bestOfUnsettled 6 (some .int) 0 RX6 := ⟨t_808, t_807, tS_52, t_9, ⟨by decide +kernel, by decide +kernel, by decide +kernel⟩, rfl, by decide⟩
def s_X6_bestOfUnsettled_L2 (N : Nat) : Nat → Nat → Int32 → IH → Option (IH)
  | 0, _, _, _ => none
  | n + 1, th, x1, h => (gI h 6 4 (some th)).bind fun v1 => if v1 < x1 then some h else (gR h 6 1 (some th)).bind fun v3 => (aR h 6 v3 x1).bind fun v4 => (gI h 6 5 (some th)).bind fun v5 => (sI h v4 v5 0).bind fun h6 => s_X6_bestOfUnsettled_L2 N n th (x1 + 1) h6
def s_X6_bestOfUnsettled_L30 (N : Nat) : Nat → Nat → Int32 → IH → Option (IH)
  | 0, _, _, _ => none
  | n + 1, th, x1, h => (gI h 6 5 (some th)).bind fun v8 => if v8 < x1 then some h else (gR h 6 1 (some th)).bind fun v10 => (gI h 6 4 (some th)).bind fun v11 => (aR h 6 v10 v11).bind fun v12 => (sI h v12 x1 0).bind fun h13 => s_X6_bestOfUnsettled_L30 N n th (x1 + 1) h13
def s_X6_bestOfUnsettled_L81 (N : Nat) : Nat → Nat → Int32 → Int32 → Int32 → IH → Option (IH)
  | 0, _, _, _, _, _ => none
  | n + 1, th, x1, x2, x3, h => if x3 < 0 then some h else (gR h 6 3 (some th)).bind fun v21 => (aI h v21 x3).bind fun v22 => (gR h 6 1 (some th)).bind fun v23 => (aR h 6 v23 (x1 + 1)).bind fun v24 => (aI h v24 x3).bind fun v25 => (gR h 6 1 (some th)).bind fun v26 => (aR h 6 v26 x1).bind fun v27 => (aI h v27 (x3 + 1)).bind fun v28 => (s_J9_max_7cf53 h v25 v28).bind fun v29 => (gR h 6 0 (some th)).bind fun v30 => (aR h 6 v30 x2).bind fun v31 => (aI h v31 v22).bind fun v32 => ((if v32 ≤ 0 then some v29 else (gR h 6 6 (some th)).bind fun v34 => (aZ h v34 x2).bind fun v35 => if v35 = 0 then (gR h 6 7 (some th)).bind fun v37 => (aZ h v37 v22).bind fun v38 => if v38 = 0 then (gR h 6 1 (some th)).bind fun v40 => (aR h 6 v40 (x1 + 1)).bind fun v41 => (aI h v41 (x3 + 1)).bind fun v42 => (gR h 6 0 (some th)).bind fun v43 => (aR h 6 v43 x2).bind fun v44 => (aI h v44 v22).bind fun v45 => (s_J9_max_7cf53 h v29 (v42 + v45)).bind fun v46 => some v46 else some v29 else some v29) : Option (Int32)).bind fun q47 => (gR h 6 1 (some th)).bind fun v48 => (aR h 6 v48 x1).bind fun v49 => (sI h v49 x3 q47).bind fun h50 => s_X6_bestOfUnsettled_L81 N n th x1 x2 (x3 + (-1)) h50
def s_X6_bestOfUnsettled_L63 (N : Nat) : Nat → Nat → Int32 → IH → Option (IH)
  | 0, _, _, _ => none
  | n + 1, th, x1, h => if x1 < 0 then some h else (gR h 6 2 (some th)).bind fun v17 => (aI h v17 x1).bind fun v18 => (gI h 6 5 (some th)).bind fun v19 => (s_X6_bestOfUnsettled_L81 N N th x1 v18 (v19 - 1) h).bind fun q51 => s_X6_bestOfUnsettled_L63 N n th (x1 + (-1)) q51
def s_X6_bestOfUnsettled (N : Nat) (h : IH) (th : Nat) : Option (Int32 × IH) := (s_X6_bestOfUnsettled_L2 N N th 0 h).bind fun q7 => (s_X6_bestOfUnsettled_L30 N N th 0 q7).bind fun q14 => (gI q14 6 4 (some th)).bind fun v15 => (s_X6_bestOfUnsettled_L63 N N th (v15 - 1) q14).bind fun q52 => (gR q52 6 1 (some th)).bind fun v53 => (aR q52 6 v53 0).bind fun v54 => (aI q52 v54 0).bind fun v55 => some (v55, q52)
set_option maxHeartbeats 4000000 in
set_option maxRecDepth 100000 in
theorem w_X6_bestOfUnsettled_L2 {p : Program} {l : Launch} {e : Env} {s : State} {m : MethodId} {args : Array Value} {below : List Frame} {meth : Method} {c : Code} {D : va_G} {cy : Nat → ClassId} {A : Nat → Prop} {H0 : Heap} {N th : Nat} {qF : Int32 × IH} (F : Fx p s m args meth c D cy A H0 yX6_bestOfUnsettled cX6_bestOfUnsettled 6 (some .int)) : ∀ (n : Nat) (x1 : Int32) (h : IH) (ls : Array Slot) (H : Heap) (locs : List Loc) (q : IH), s_X6_bestOfUnsettled_L2 N n th x1 h = some q → lv_has ls 6 [(0, .ref th), (1, .int x1)] → Mo D cy A H0 h H locs → (∀ (t : IH) (ls : Array Slot) (H : Heap) (locs : List Loc), q = t → lv_has ls 6 [(0, .ref th)] → Mo D cy A H0 t H locs → W p l e rm_X6_bestOfUnsettled s m args below meth c H locs 0 0 (MQ below (QR D cy qF.2 A (some (.int qF.1))) args s 0 0 A) (F0 m 28 ls [])) → (∀ v : Int32 × IH, False → v = qF) → W p l e rm_X6_bestOfUnsettled s m args below meth c H locs 0 0 (MQ below (QR D cy qF.2 A (some (.int qF.1))) args s 0 0 A) (F0 m 2 ls []) := by
  intro n
  induction n with
  | zero => intro x1 h ls H locs q hs; rw [s_X6_bestOfUnsettled_L2.eq_1] at hs; cases hs
  | succ n ih =>
    intro x1 h ls H locs q hs hl M kx kr
    obtain ⟨hx, hb, hr, hml, hown, hlk, hts, hK, hN, hA, hH⟩ := id F
    rw [s_X6_bestOfUnsettled_L2.eq_2] at hs
    refine lv_iload_n hx hb dX6_bestOfUnsettled_2 rfl (lv_at hl 1 rfl) ?_
    refine lv_aload_n hx hb dX6_bestOfUnsettled_3 rfl (lv_at hl 0 rfl) ?_
    obtain ⟨v1, g_v1, hs⟩ := bd hs
    refine ro_gI F M fg_6_4 t_251 g_v1 dX6_bestOfUnsettled_4 ?_
    refine lv_icmp_gt (tgt := 28) hx hb dX6_bestOfUnsettled_7 (by decide) (fun c2 => ?_) (fun c2 => ?_)
    · rw [if_pos c2] at hs
      exact kx h _ _ _ (Option.some.inj hs).symm (lv_sub hl [0] rfl) M
    · rw [if_neg c2] at hs
      refine lv_aload_n hx hb dX6_bestOfUnsettled_10 rfl (lv_at hl 0 rfl) ?_
      obtain ⟨v3, g_v3, hs⟩ := bd hs
      refine ro_gR F M fg_6_1 t_248 g_v3 dX6_bestOfUnsettled_11 ?_
      refine lv_iload_n hx hb dX6_bestOfUnsettled_14 rfl (lv_at hl 1 rfl) ?_
      obtain ⟨v4, g_v4, hs⟩ := bd hs
      refine ro_aG F M g_v4 dX6_bestOfUnsettled_15 ?_
      refine lv_aload_n hx hb dX6_bestOfUnsettled_16 rfl (lv_at hl 0 rfl) ?_
      obtain ⟨v5, g_v5, hs⟩ := bd hs
      refine ro_gI F M fg_6_5 t_252 g_v5 dX6_bestOfUnsettled_17 ?_
      refine lv_iconst (v := 0) hx hb dX6_bestOfUnsettled_20 (by decide) ?_
      obtain ⟨h6, g_h6, hs⟩ := bd hs
      refine ro_sI F M g_h6 dX6_bestOfUnsettled_21 (fun H locs M => ?_)
      refine lv_iinc (v := x1 + 1) (lv' := [(1, .int (x1 + 1)), (0, .ref th)]) hx hb dX6_bestOfUnsettled_22 hl (k := 1) rfl rfl (by decide) rfl (fun ls hl => ?_)
      refine lv_goto (tgt := 2) hx hb dX6_bestOfUnsettled_25 (by decide) ?_
      exact ih (x1 + 1) h6 _ _ _ _ hs (lv_sub hl [1, 0] rfl) M kx kr
set_option maxHeartbeats 4000000 in
set_option maxRecDepth 100000 in
theorem w_X6_bestOfUnsettled_L30 {p : Program} {l : Launch} {e : Env} {s : State} {m : MethodId} {args : Array Value} {below : List Frame} {meth : Method} {c : Code} {D : va_G} {cy : Nat → ClassId} {A : Nat → Prop} {H0 : Heap} {N th : Nat} {qF : Int32 × IH} (F : Fx p s m args meth c D cy A H0 yX6_bestOfUnsettled cX6_bestOfUnsettled 6 (some .int)) : ∀ (n : Nat) (x1 : Int32) (h : IH) (ls : Array Slot) (H : Heap) (locs : List Loc) (q : IH), s_X6_bestOfUnsettled_L30 N n th x1 h = some q → lv_has ls 6 [(0, .ref th), (1, .int x1)] → Mo D cy A H0 h H locs → (∀ (t : IH) (ls : Array Slot) (H : Heap) (locs : List Loc), q = t → lv_has ls 6 [(0, .ref th)] → Mo D cy A H0 t H locs → W p l e rm_X6_bestOfUnsettled s m args below meth c H locs 0 0 (MQ below (QR D cy qF.2 A (some (.int qF.1))) args s 0 0 A) (F0 m 56 ls [])) → (∀ v : Int32 × IH, False → v = qF) → W p l e rm_X6_bestOfUnsettled s m args below meth c H locs 0 0 (MQ below (QR D cy qF.2 A (some (.int qF.1))) args s 0 0 A) (F0 m 30 ls []) := by
  intro n
  induction n with
  | zero => intro x1 h ls H locs q hs; rw [s_X6_bestOfUnsettled_L30.eq_1] at hs; cases hs
  | succ n ih =>
    intro x1 h ls H locs q hs hl M kx kr
    obtain ⟨hx, hb, hr, hml, hown, hlk, hts, hK, hN, hA, hH⟩ := id F
    rw [s_X6_bestOfUnsettled_L30.eq_2] at hs
    refine lv_iload_n hx hb dX6_bestOfUnsettled_30 rfl (lv_at hl 1 rfl) ?_
    refine lv_aload_n hx hb dX6_bestOfUnsettled_31 rfl (lv_at hl 0 rfl) ?_
    obtain ⟨v8, g_v8, hs⟩ := bd hs
    refine ro_gI F M fg_6_5 t_252 g_v8 dX6_bestOfUnsettled_32 ?_
    refine lv_icmp_gt (tgt := 56) hx hb dX6_bestOfUnsettled_35 (by decide) (fun c9 => ?_) (fun c9 => ?_)
    · rw [if_pos c9] at hs
      exact kx h _ _ _ (Option.some.inj hs).symm (lv_sub hl [0] rfl) M
    · rw [if_neg c9] at hs
      refine lv_aload_n hx hb dX6_bestOfUnsettled_38 rfl (lv_at hl 0 rfl) ?_
      obtain ⟨v10, g_v10, hs⟩ := bd hs
      refine ro_gR F M fg_6_1 t_248 g_v10 dX6_bestOfUnsettled_39 ?_
      refine lv_aload_n hx hb dX6_bestOfUnsettled_42 rfl (lv_at hl 0 rfl) ?_
      obtain ⟨v11, g_v11, hs⟩ := bd hs
      refine ro_gI F M fg_6_4 t_251 g_v11 dX6_bestOfUnsettled_43 ?_
      obtain ⟨v12, g_v12, hs⟩ := bd hs
      refine ro_aG F M g_v12 dX6_bestOfUnsettled_46 ?_
      refine lv_iload_n hx hb dX6_bestOfUnsettled_47 rfl (lv_at hl 1 rfl) ?_
      refine lv_iconst (v := 0) hx hb dX6_bestOfUnsettled_48 (by decide) ?_
      obtain ⟨h13, g_h13, hs⟩ := bd hs
      refine ro_sI F M g_h13 dX6_bestOfUnsettled_49 (fun H locs M => ?_)
      refine lv_iinc (v := x1 + 1) (lv' := [(1, .int (x1 + 1)), (0, .ref th)]) hx hb dX6_bestOfUnsettled_50 hl (k := 1) rfl rfl (by decide) rfl (fun ls hl => ?_)
      refine lv_goto (tgt := 30) hx hb dX6_bestOfUnsettled_53 (by decide) ?_
      exact ih (x1 + 1) h13 _ _ _ _ hs (lv_sub hl [1, 0] rfl) M kx kr
set_option maxHeartbeats 4000000 in
set_option maxRecDepth 100000 in
theorem w_X6_bestOfUnsettled_L81 {p : Program} {l : Launch} {e : Env} {s : State} {m : MethodId} {args : Array Value} {below : List Frame} {meth : Method} {c : Code} {D : va_G} {cy : Nat → ClassId} {A : Nat → Prop} {H0 : Heap} {N th : Nat} {x1 : Int32} {x2 : Int32} {qF : Int32 × IH} (F : Fx p s m args meth c D cy A H0 yX6_bestOfUnsettled cX6_bestOfUnsettled 6 (some .int)) : ∀ (n : Nat) (x3 : Int32) (h : IH) (ls : Array Slot) (H : Heap) (locs : List Loc) (q : IH), s_X6_bestOfUnsettled_L81 N n th x1 x2 x3 h = some q → lv_has ls 6 [(0, .ref th), (1, .int x1), (2, .int x2), (3, .int x3)] → Mo D cy A H0 h H locs → (∀ (t : IH) (ls : Array Slot) (H : Heap) (locs : List Loc), q = t → lv_has ls 6 [(0, .ref th), (1, .int x1)] → Mo D cy A H0 t H locs → W p l e rm_X6_bestOfUnsettled s m args below meth c H locs 0 0 (MQ below (QR D cy qF.2 A (some (.int qF.1))) args s 0 0 A) (F0 m 194 ls [])) → (∀ v : Int32 × IH, False → v = qF) → W p l e rm_X6_bestOfUnsettled s m args below meth c H locs 0 0 (MQ below (QR D cy qF.2 A (some (.int qF.1))) args s 0 0 A) (F0 m 81 ls []) := by
  intro n
  induction n with
  | zero => intro x3 h ls H locs q hs; rw [s_X6_bestOfUnsettled_L81.eq_1] at hs; cases hs
  | succ n ih =>
    intro x3 h ls H locs q hs hl M kx kr
    obtain ⟨hx, hb, hr, hml, hown, hlk, hts, hK, hN, hA, hH⟩ := id F
    rw [s_X6_bestOfUnsettled_L81.eq_2] at hs
    refine lv_iload_n hx hb dX6_bestOfUnsettled_81 rfl (lv_at hl 3 rfl) ?_
    refine lv_if_lt (tgt := 194) hx hb dX6_bestOfUnsettled_82 (by decide) (fun c20 => ?_) (fun c20 => ?_)
    · rw [if_pos c20] at hs
      exact kx h _ _ _ (Option.some.inj hs).symm (lv_sub hl [0, 1] rfl) M
    · rw [if_neg c20] at hs
      refine lv_aload_n hx hb dX6_bestOfUnsettled_85 rfl (lv_at hl 0 rfl) ?_
      obtain ⟨v21, g_v21, hs⟩ := bd hs
      refine ro_gR F M fg_6_3 t_250 g_v21 dX6_bestOfUnsettled_86 ?_
      refine lv_iload_n hx hb dX6_bestOfUnsettled_89 rfl (lv_at hl 3 rfl) ?_
      obtain ⟨v22, g_v22, hs⟩ := bd hs
      refine ro_aI F M g_v22 dX6_bestOfUnsettled_90 ?_
      refine lv_istore (i := 4) (lv' := [(4, .int v22), (0, .ref th), (1, .int x1), (2, .int x2), (3, .int x3)]) hx hb dX6_bestOfUnsettled_91 hl (by decide) rfl (fun ls hl => ?_)
      refine lv_aload_n hx hb dX6_bestOfUnsettled_93 rfl (lv_at hl 1 rfl) ?_
      obtain ⟨v23, g_v23, hs⟩ := bd hs
      refine ro_gR F M fg_6_1 t_248 g_v23 dX6_bestOfUnsettled_94 ?_
      refine lv_iload_n hx hb dX6_bestOfUnsettled_97 rfl (lv_at hl 2 rfl) ?_
      refine lv_iconst (v := 1) hx hb dX6_bestOfUnsettled_98 (by decide) ?_
      refine lv_iadd hx hb dX6_bestOfUnsettled_99 ?_
      obtain ⟨v24, g_v24, hs⟩ := bd hs
      refine ro_aG F M g_v24 dX6_bestOfUnsettled_100 ?_
      refine lv_iload_n hx hb dX6_bestOfUnsettled_101 rfl (lv_at hl 4 rfl) ?_
      obtain ⟨v25, g_v25, hs⟩ := bd hs
      refine ro_aI F M g_v25 dX6_bestOfUnsettled_102 ?_
      refine lv_aload_n hx hb dX6_bestOfUnsettled_103 rfl (lv_at hl 1 rfl) ?_
      obtain ⟨v26, g_v26, hs⟩ := bd hs
      refine ro_gR F M fg_6_1 t_248 g_v26 dX6_bestOfUnsettled_104 ?_
      refine lv_iload_n hx hb dX6_bestOfUnsettled_107 rfl (lv_at hl 2 rfl) ?_
      obtain ⟨v27, g_v27, hs⟩ := bd hs
      refine ro_aG F M g_v27 dX6_bestOfUnsettled_108 ?_
      refine lv_iload_n hx hb dX6_bestOfUnsettled_109 rfl (lv_at hl 4 rfl) ?_
      refine lv_iconst (v := 1) hx hb dX6_bestOfUnsettled_110 (by decide) ?_
      refine lv_iadd hx hb dX6_bestOfUnsettled_111 ?_
      obtain ⟨v28, g_v28, hs⟩ := bd hs
      refine ro_aI F M g_v28 dX6_bestOfUnsettled_112 ?_
      obtain ⟨v29, g_v29, hs⟩ := bd hs
      refine ca_Si (As := [.int v25, .int v28]) (rest := []) F M (c_J9_max_7cf53 g_v29) mf_J9_max_7cf53 t_809 rfl ⟨by decide, by decide⟩ ⟨rfl, rfl⟩ ⟨Nat.zero_le _, Nat.zero_le _⟩ hl.1 rfl (by decide) dX6_bestOfUnsettled_113 (fun H locs M => ?_)
      refine lv_istore (i := 5) (lv' := [(5, .int v29), (4, .int v22), (0, .ref th), (1, .int x1), (2, .int x2), (3, .int x3)]) hx hb dX6_bestOfUnsettled_116 hl (by decide) rfl (fun ls hl => ?_)
      refine lv_aload_n hx hb dX6_bestOfUnsettled_118 rfl (lv_at hl 2 rfl) ?_
      obtain ⟨v30, g_v30, hs⟩ := bd hs
      refine ro_gR F M fg_6_0 t_247 g_v30 dX6_bestOfUnsettled_119 ?_
      refine lv_iload_n hx hb dX6_bestOfUnsettled_122 rfl (lv_at hl 4 rfl) ?_
      obtain ⟨v31, g_v31, hs⟩ := bd hs
      refine ro_aG F M g_v31 dX6_bestOfUnsettled_123 ?_
      refine lv_iload hx hb dX6_bestOfUnsettled_124 (lv_at hl 1 rfl) ?_
      obtain ⟨v32, g_v32, hs⟩ := bd hs
      refine ro_aI F M g_v32 dX6_bestOfUnsettled_126 ?_
      obtain ⟨q47, hsq47, hs⟩ := bd hs
      have KJ178 : ∀ (ls : Array Slot) (H : Heap) (locs : List Loc), lv_has ls 6 [(0, .ref th), (1, .int x1), (2, .int x2), (3, .int x3), (5, .int q47)] → Mo D cy A H0 h H locs → W p l e rm_X6_bestOfUnsettled s m args below meth c H locs 0 0 (MQ below (QR D cy qF.2 A (some (.int qF.1))) args s 0 0 A) (F0 m 178 ls []) := by
        intro ls H locs hl M
        refine lv_aload_n hx hb dX6_bestOfUnsettled_178 rfl (lv_at hl 0 rfl) ?_
        obtain ⟨v48, g_v48, hs⟩ := bd hs
        refine ro_gR F M fg_6_1 t_248 g_v48 dX6_bestOfUnsettled_179 ?_
        refine lv_iload_n hx hb dX6_bestOfUnsettled_182 rfl (lv_at hl 1 rfl) ?_
        obtain ⟨v49, g_v49, hs⟩ := bd hs
        refine ro_aG F M g_v49 dX6_bestOfUnsettled_183 ?_
        refine lv_iload_n hx hb dX6_bestOfUnsettled_184 rfl (lv_at hl 3 rfl) ?_
        refine lv_iload hx hb dX6_bestOfUnsettled_185 (lv_at hl 4 rfl) ?_
        obtain ⟨h50, g_h50, hs⟩ := bd hs
        refine ro_sI F M g_h50 dX6_bestOfUnsettled_187 (fun H locs M => ?_)
        refine lv_iinc (v := x3 + (-1)) (lv' := [(3, .int (x3 + (-1))), (0, .ref th), (1, .int x1), (2, .int x2), (5, .int q47)]) hx hb dX6_bestOfUnsettled_188 hl (k := 3) rfl rfl (by decide) rfl (fun ls hl => ?_)
        refine lv_goto (tgt := 81) hx hb dX6_bestOfUnsettled_191 (by decide) ?_
        exact ih (x3 + (-1)) h50 _ _ _ _ hs (lv_sub hl [1, 2, 3, 0] rfl) M kx kr
      clear hs
      have hs := hsq47
      refine lv_if_le (tgt := 178) hx hb dX6_bestOfUnsettled_127 (by decide) (fun c33 => ?_) (fun c33 => ?_)
      · rw [if_pos c33] at hs
        obtain rfl := Option.some.inj hs
        exact KJ178 _ _ _ (lv_sub hl [2, 3, 4, 5, 0] rfl) M
      · rw [if_neg c33] at hs
        refine lv_aload_n hx hb dX6_bestOfUnsettled_130 rfl (lv_at hl 2 rfl) ?_
        obtain ⟨v34, g_v34, hs⟩ := bd hs
        refine ro_gR F M fg_6_6 t_253 g_v34 dX6_bestOfUnsettled_131 ?_
        refine lv_iload_n hx hb dX6_bestOfUnsettled_134 rfl (lv_at hl 4 rfl) ?_
        obtain ⟨v35, g_v35, hs⟩ := bd hs
        refine ro_aZ F M g_v35 dX6_bestOfUnsettled_135 ?_
        refine lv_if_ne (tgt := 178) hx hb dX6_bestOfUnsettled_136 (by decide) (fun c36 => ?_) (fun c36 => ?_)
        · rw [if_neg c36] at hs
          obtain rfl := Option.some.inj hs
          exact KJ178 _ _ _ (lv_sub hl [2, 3, 4, 5, 0] rfl) M
        · rw [if_pos c36] at hs
          refine lv_aload_n hx hb dX6_bestOfUnsettled_139 rfl (lv_at hl 2 rfl) ?_
          obtain ⟨v37, g_v37, hs⟩ := bd hs
          refine ro_gR F M fg_6_7 t_254 g_v37 dX6_bestOfUnsettled_140 ?_
          refine lv_iload hx hb dX6_bestOfUnsettled_143 (lv_at hl 1 rfl) ?_
          obtain ⟨v38, g_v38, hs⟩ := bd hs
          refine ro_aZ F M g_v38 dX6_bestOfUnsettled_145 ?_
          refine lv_if_ne (tgt := 178) hx hb dX6_bestOfUnsettled_146 (by decide) (fun c39 => ?_) (fun c39 => ?_)
          · rw [if_neg c39] at hs
            obtain rfl := Option.some.inj hs
            exact KJ178 _ _ _ (lv_sub hl [2, 3, 4, 5, 0] rfl) M
          · rw [if_pos c39] at hs
            refine lv_iload hx hb dX6_bestOfUnsettled_149 (lv_at hl 0 rfl) ?_
            refine lv_aload_n hx hb dX6_bestOfUnsettled_151 rfl (lv_at hl 2 rfl) ?_
            obtain ⟨v40, g_v40, hs⟩ := bd hs
            refine ro_gR F M fg_6_1 t_248 g_v40 dX6_bestOfUnsettled_152 ?_
            refine lv_iload_n hx hb dX6_bestOfUnsettled_155 rfl (lv_at hl 3 rfl) ?_
            refine lv_iconst (v := 1) hx hb dX6_bestOfUnsettled_156 (by decide) ?_
            refine lv_iadd hx hb dX6_bestOfUnsettled_157 ?_
            obtain ⟨v41, g_v41, hs⟩ := bd hs
            refine ro_aG F M g_v41 dX6_bestOfUnsettled_158 ?_
            refine lv_iload_n hx hb dX6_bestOfUnsettled_159 rfl (lv_at hl 5 rfl) ?_
            refine lv_iconst (v := 1) hx hb dX6_bestOfUnsettled_160 (by decide) ?_
            refine lv_iadd hx hb dX6_bestOfUnsettled_161 ?_
            obtain ⟨v42, g_v42, hs⟩ := bd hs
            refine ro_aI F M g_v42 dX6_bestOfUnsettled_162 ?_
            refine lv_aload_n hx hb dX6_bestOfUnsettled_163 rfl (lv_at hl 2 rfl) ?_
            obtain ⟨v43, g_v43, hs⟩ := bd hs
            refine ro_gR F M fg_6_0 t_247 g_v43 dX6_bestOfUnsettled_164 ?_
            refine lv_iload_n hx hb dX6_bestOfUnsettled_167 rfl (lv_at hl 4 rfl) ?_
            obtain ⟨v44, g_v44, hs⟩ := bd hs
            refine ro_aG F M g_v44 dX6_bestOfUnsettled_168 ?_
            refine lv_iload hx hb dX6_bestOfUnsettled_169 (lv_at hl 1 rfl) ?_
            obtain ⟨v45, g_v45, hs⟩ := bd hs
            refine ro_aI F M g_v45 dX6_bestOfUnsettled_171 ?_
            refine lv_iadd hx hb dX6_bestOfUnsettled_172 ?_
            obtain ⟨v46, g_v46, hs⟩ := bd hs
            refine ca_Si (As := [.int v29, .int (v42 + v45)]) (rest := []) F M (c_J9_max_7cf53 g_v46) mf_J9_max_7cf53 t_809 rfl ⟨by decide, by decide⟩ ⟨rfl, rfl⟩ ⟨Nat.zero_le _, Nat.zero_le _⟩ hl.1 rfl (by decide) dX6_bestOfUnsettled_173 (fun H locs M => ?_)
            refine lv_istore (i := 5) (lv' := [(5, .int v46), (4, .int v22), (0, .ref th), (1, .int x1), (2, .int x2), (3, .int x3)]) hx hb dX6_bestOfUnsettled_176 hl (by decide) rfl (fun ls hl => ?_)
            obtain rfl := Option.some.inj hs
            exact KJ178 _ _ _ (lv_sub hl [2, 3, 4, 5, 0] rfl) M
set_option maxHeartbeats 4000000 in
set_option maxRecDepth 100000 in
theorem w_X6_bestOfUnsettled_L63 {p : Program} {l : Launch} {e : Env} {s : State} {m : MethodId} {args : Array Value} {below : List Frame} {meth : Method} {c : Code} {D : va_G} {cy : Nat → ClassId} {A : Nat → Prop} {H0 : Heap} {N th : Nat} {qF : Int32 × IH} (F : Fx p s m args meth c D cy A H0 yX6_bestOfUnsettled cX6_bestOfUnsettled 6 (some .int)) : ∀ (n : Nat) (x1 : Int32) (h : IH) (ls : Array Slot) (H : Heap) (locs : List Loc) (q : IH), s_X6_bestOfUnsettled_L63 N n th x1 h = some q → lv_has ls 6 [(0, .ref th), (1, .int x1)] → Mo D cy A H0 h H locs → (∀ (t : IH) (ls : Array Slot) (H : Heap) (locs : List Loc), q = t → lv_has ls 6 [(0, .ref th)] → Mo D cy A H0 t H locs → W p l e rm_X6_bestOfUnsettled s m args below meth c H locs 0 0 (MQ below (QR D cy qF.2 A (some (.int qF.1))) args s 0 0 A) (F0 m 200 ls [])) → (∀ v : Int32 × IH, False → v = qF) → W p l e rm_X6_bestOfUnsettled s m args below meth c H locs 0 0 (MQ below (QR D cy qF.2 A (some (.int qF.1))) args s 0 0 A) (F0 m 63 ls []) := by
  intro n
  induction n with
  | zero => intro x1 h ls H locs q hs; rw [s_X6_bestOfUnsettled_L63.eq_1] at hs; cases hs
  | succ n ih =>
    intro x1 h ls H locs q hs hl M kx kr
    obtain ⟨hx, hb, hr, hml, hown, hlk, hts, hK, hN, hA, hH⟩ := id F
    rw [s_X6_bestOfUnsettled_L63.eq_2] at hs
    refine lv_iload_n hx hb dX6_bestOfUnsettled_63 rfl (lv_at hl 1 rfl) ?_
    refine lv_if_lt (tgt := 200) hx hb dX6_bestOfUnsettled_64 (by decide) (fun c16 => ?_) (fun c16 => ?_)
    · rw [if_pos c16] at hs
      exact kx h _ _ _ (Option.some.inj hs).symm (lv_sub hl [0] rfl) M
    · rw [if_neg c16] at hs
      refine lv_aload_n hx hb dX6_bestOfUnsettled_67 rfl (lv_at hl 0 rfl) ?_
      obtain ⟨v17, g_v17, hs⟩ := bd hs
      refine ro_gR F M fg_6_2 t_249 g_v17 dX6_bestOfUnsettled_68 ?_
      refine lv_iload_n hx hb dX6_bestOfUnsettled_71 rfl (lv_at hl 1 rfl) ?_
      obtain ⟨v18, g_v18, hs⟩ := bd hs
      refine ro_aI F M g_v18 dX6_bestOfUnsettled_72 ?_
      refine lv_istore_n (i := 2) (lv' := [(2, .int v18), (0, .ref th), (1, .int x1)]) hx hb dX6_bestOfUnsettled_73 rfl hl (by decide) rfl (fun ls hl => ?_)
      refine lv_aload_n hx hb dX6_bestOfUnsettled_74 rfl (lv_at hl 1 rfl) ?_
      obtain ⟨v19, g_v19, hs⟩ := bd hs
      refine ro_gI F M fg_6_5 t_252 g_v19 dX6_bestOfUnsettled_75 ?_
      refine lv_iconst (v := 1) hx hb dX6_bestOfUnsettled_78 (by decide) ?_
      refine lv_isub hx hb dX6_bestOfUnsettled_79 ?_
      refine lv_istore_n (i := 3) (lv' := [(3, .int (v19 - 1)), (2, .int v18), (0, .ref th), (1, .int x1)]) hx hb dX6_bestOfUnsettled_80 rfl hl (by decide) rfl (fun ls hl => ?_)
      obtain ⟨q51, g_q51, hs⟩ := bd hs
      refine w_X6_bestOfUnsettled_L81 F N (v19 - 1) h _ _ _ q51 g_q51 (lv_sub hl [2, 3, 1, 0] rfl) M (fun t_ ls H locs eq_ hl M => ?_) (fun v eq_ => eq_.elim)
      subst eq_
      refine lv_iinc (v := x1 + (-1)) (lv' := [(1, .int (x1 + (-1))), (0, .ref th)]) hx hb dX6_bestOfUnsettled_194 hl (k := 1) rfl rfl (by decide) rfl (fun ls hl => ?_)
      refine lv_goto (tgt := 63) hx hb dX6_bestOfUnsettled_197 (by decide) ?_
      exact ih (x1 + (-1)) q51 _ _ _ _ hs (lv_sub hl [1, 0] rfl) M kx kr
set_option maxHeartbeats 4000000 in
set_option maxRecDepth 100000 in
theorem c_X6_bestOfUnsettled {l : Launch} {D : va_G} {cy : Nat → ClassId} {sz N : Nat} {h : IH} {th : Nat} {qF : Int32 × IH} (hs : s_X6_bestOfUnsettled N h th = some qF) : Ct l D cy yX6_bestOfUnsettled cX6_bestOfUnsettled 6 (some .int) rm_X6_bestOfUnsettled h sz [.ref th] qF.2 (some (.int qF.1)) := by
  refine ct_start (by decide +kernel) [(0, .ref th)] (Nat.le_of_ble_eq_true rfl) rfl ?_
  intro p e s m args below meth c A H0 ls F hin hsz M hl
  obtain ⟨hx, hb, hr, hml, hown, hlk, hts, hK, hN, hA, hH⟩ := id F
  generalize s.heap = H at M ⊢
  generalize ([] : List Loc) = locs at M ⊢
  unfold s_X6_bestOfUnsettled at hs
  refine lv_iconst (v := 0) hx hb dX6_bestOfUnsettled_0 (by decide) ?_
  refine lv_istore_n (i := 1) (lv' := [(1, .int 0), (0, .ref th)]) hx hb dX6_bestOfUnsettled_1 rfl hl (by decide) rfl (fun ls hl => ?_)
  obtain ⟨q7, g_q7, hs⟩ := bd hs
  refine w_X6_bestOfUnsettled_L2 F N 0 h _ _ _ q7 g_q7 (lv_sub hl [1, 0] rfl) M (fun t_ ls H locs eq_ hl M => ?_) (fun v eq_ => eq_.elim)
  subst eq_
  refine lv_iconst (v := 0) hx hb dX6_bestOfUnsettled_28 (by decide) ?_
  refine lv_istore_n (i := 1) (lv' := [(1, .int 0), (0, .ref th)]) hx hb dX6_bestOfUnsettled_29 rfl hl (by decide) rfl (fun ls hl => ?_)
  obtain ⟨q14, g_q14, hs⟩ := bd hs
  refine w_X6_bestOfUnsettled_L30 F N 0 q7 _ _ _ q14 g_q14 (lv_sub hl [1, 0] rfl) M (fun t_ ls H locs eq_ hl M => ?_) (fun v eq_ => eq_.elim)
  subst eq_
  refine lv_aload_n hx hb dX6_bestOfUnsettled_56 rfl (lv_at hl 0 rfl) ?_
  obtain ⟨v15, g_v15, hs⟩ := bd hs
  refine ro_gI F M fg_6_4 t_251 g_v15 dX6_bestOfUnsettled_57 ?_
  refine lv_iconst (v := 1) hx hb dX6_bestOfUnsettled_60 (by decide) ?_
  refine lv_isub hx hb dX6_bestOfUnsettled_61 ?_
  refine lv_istore_n (i := 1) (lv' := [(1, .int (v15 - 1)), (0, .ref th)]) hx hb dX6_bestOfUnsettled_62 rfl hl (by decide) rfl (fun ls hl => ?_)
  obtain ⟨q52, g_q52, hs⟩ := bd hs
  refine w_X6_bestOfUnsettled_L63 F N (v15 - 1) q14 _ _ _ q52 g_q52 (lv_sub hl [1, 0] rfl) M (fun t_ ls H locs eq_ hl M => ?_) (fun v eq_ => eq_.elim)
  subst eq_
  refine lv_aload_n hx hb dX6_bestOfUnsettled_200 rfl (lv_at hl 0 rfl) ?_
  obtain ⟨v53, g_v53, hs⟩ := bd hs
  refine ro_gR F M fg_6_1 t_248 g_v53 dX6_bestOfUnsettled_201 ?_
  refine lv_iconst (v := 0) hx hb dX6_bestOfUnsettled_204 (by decide) ?_
  obtain ⟨v54, g_v54, hs⟩ := bd hs
  refine ro_aG F M g_v54 dX6_bestOfUnsettled_205 ?_
  refine lv_iconst (v := 0) hx hb dX6_bestOfUnsettled_206 (by decide) ?_
  obtain ⟨v55, g_v55, hs⟩ := bd hs
  refine ro_aI F M g_v55 dX6_bestOfUnsettled_207 ?_
  obtain rfl := Option.some.inj hs
  exact re_i F M dX6_bestOfUnsettled_208
abbrev rm_X6_firstMate : Room := { frames := 2, cells := 0, slots := 0, locals := 46 }
theorem mf_X6_firstMate : MV 6 yX6_firstMate cX6_firstMate 4 (some .int) 2 RX6 := ⟨t_815, t_814, tS_53, t_9, ⟨by decide +kernel, by decide +kernel, by decide +kernel⟩, rfl, by decide⟩
def s_X6_firstMate_L21 (N : Nat) : Nat → Nat → Int32 → Int32 → Int32 → IH → Option ((Int32 × IH) ⊕ (IH))
  | 0, _, _, _, _, _ => none
  | n + 1, th, x1, x2, x3, h => if 16 ≤ x3 then some (.inr h) else (gR h 6 0 (some th)).bind fun v6 => (aR h 6 v6 x1).bind fun v7 => (aI h v7 x3).bind fun v8 => if v8 = 0 then s_X6_firstMate_L21 N n th x1 x2 (x3 + 1) h else (gR h 6 7 (some th)).bind fun v10 => (aZ h v10 x3).bind fun v11 => if v11 = 0 then (gR h 6 7 (some th)).bind fun v13 => (sZ h v13 x3 1).bind fun h14 => (cV h14 6 (some th) fun a22 => s_X6_bestOfUnsettled N h14 a22 ).bind fun v15 => (gR v15.2 6 0 (some th)).bind fun v16 => (aR v15.2 6 v16 x1).bind fun v17 => (aI v15.2 v17 x3).bind fun v18 => if (v15.1 + v18) = x2 then some (.inl (x3, v15.2)) else (gR v15.2 6 7 (some th)).bind fun v20 => (sZ v15.2 v20 x3 0).bind fun h21 => s_X6_firstMate_L21 N n th x1 x2 (x3 + 1) h21 else s_X6_firstMate_L21 N n th x1 x2 (x3 + 1) h
def s_X6_firstMate (N : Nat) (h : IH) (th : Nat) (a0 : Int32) (a1 : Int32) : Option (Int32 × IH) := if a0 < 0 then some ((-1), h) else if a0 < 16 then (gR h 6 6 (some th)).bind fun v3 => (sZ h v3 a0 1).bind fun h4 => (s_X6_firstMate_L21 N N th a0 a1 0 h4).bind fun q23 => Sum.elim (fun v => some v) (fun t24 => some ((-1), t24)) q23 else some ((-1), h)
set_option maxHeartbeats 4000000 in
set_option maxRecDepth 100000 in
theorem w_X6_firstMate_L21 {p : Program} {l : Launch} {e : Env} {s : State} {m : MethodId} {args : Array Value} {below : List Frame} {meth : Method} {c : Code} {D : va_G} {cy : Nat → ClassId} {A : Nat → Prop} {H0 : Heap} {N th : Nat} {x1 : Int32} {x2 : Int32} {qF : Int32 × IH} (F : Fx p s m args meth c D cy A H0 yX6_firstMate cX6_firstMate 4 (some .int)) : ∀ (n : Nat) (x3 : Int32) (h : IH) (ls : Array Slot) (H : Heap) (locs : List Loc) (q : (Int32 × IH) ⊕ (IH)), s_X6_firstMate_L21 N n th x1 x2 x3 h = some q → lv_has ls 4 [(0, .ref th), (1, .int x1), (2, .int x2), (3, .int x3)] → Mo D cy A H0 h H locs → (∀ (t : IH) (ls : Array Slot) (H : Heap) (locs : List Loc), q = .inr t → lv_has ls 4 [] → Mo D cy A H0 t H locs → W p l e rm_X6_firstMate s m args below meth c H locs 0 0 (MQ below (QR D cy qF.2 A (some (.int qF.1))) args s 0 0 A) (F0 m 89 ls [])) → (∀ v, q = .inl v → v = qF) → W p l e rm_X6_firstMate s m args below meth c H locs 0 0 (MQ below (QR D cy qF.2 A (some (.int qF.1))) args s 0 0 A) (F0 m 21 ls []) := by
  intro n
  induction n with
  | zero => intro x3 h ls H locs q hs; rw [s_X6_firstMate_L21.eq_1] at hs; cases hs
  | succ n ih =>
    intro x3 h ls H locs q hs hl M kx kr
    obtain ⟨hx, hb, hr, hml, hown, hlk, hts, hK, hN, hA, hH⟩ := id F
    rw [s_X6_firstMate_L21.eq_2] at hs
    refine lv_iload_n hx hb dX6_firstMate_21 rfl (lv_at hl 3 rfl) ?_
    refine lv_bipush (v := 16) hx hb dX6_firstMate_22 (by decide) ?_
    refine lv_icmp_ge (tgt := 89) hx hb dX6_firstMate_24 (by decide) (fun c5 => ?_) (fun c5 => ?_)
    · rw [if_pos c5] at hs
      exact kx h _ _ _ (Option.some.inj hs).symm (lv_sub hl [] rfl) M
    · rw [if_neg c5] at hs
      refine lv_aload_n hx hb dX6_firstMate_27 rfl (lv_at hl 0 rfl) ?_
      obtain ⟨v6, g_v6, hs⟩ := bd hs
      refine ro_gR F M fg_6_0 t_247 g_v6 dX6_firstMate_28 ?_
      refine lv_iload_n hx hb dX6_firstMate_31 rfl (lv_at hl 1 rfl) ?_
      obtain ⟨v7, g_v7, hs⟩ := bd hs
      refine ro_aG F M g_v7 dX6_firstMate_32 ?_
      refine lv_iload_n hx hb dX6_firstMate_33 rfl (lv_at hl 3 rfl) ?_
      obtain ⟨v8, g_v8, hs⟩ := bd hs
      refine ro_aI F M g_v8 dX6_firstMate_34 ?_
      refine lv_if_eq (tgt := 83) hx hb dX6_firstMate_35 (by decide) (fun c9 => ?_) (fun c9 => ?_)
      · rw [if_pos c9] at hs
        refine lv_iinc (v := x3 + 1) (lv' := [(3, .int (x3 + 1)), (0, .ref th), (1, .int x1), (2, .int x2)]) hx hb dX6_firstMate_83 hl (k := 3) rfl rfl (by decide) rfl (fun ls hl => ?_)
        refine lv_goto (tgt := 21) hx hb dX6_firstMate_86 (by decide) ?_
        exact ih (x3 + 1) h _ _ _ _ hs (lv_sub hl [1, 2, 3, 0] rfl) M kx kr
      · rw [if_neg c9] at hs
        refine lv_aload_n hx hb dX6_firstMate_38 rfl (lv_at hl 0 rfl) ?_
        obtain ⟨v10, g_v10, hs⟩ := bd hs
        refine ro_gR F M fg_6_7 t_254 g_v10 dX6_firstMate_39 ?_
        refine lv_iload_n hx hb dX6_firstMate_42 rfl (lv_at hl 3 rfl) ?_
        obtain ⟨v11, g_v11, hs⟩ := bd hs
        refine ro_aZ F M g_v11 dX6_firstMate_43 ?_
        refine lv_if_eq (tgt := 50) hx hb dX6_firstMate_44 (by decide) (fun c12 => ?_) (fun c12 => ?_)
        · rw [if_pos c12] at hs
          refine lv_aload_n hx hb dX6_firstMate_50 rfl (lv_at hl 0 rfl) ?_
          obtain ⟨v13, g_v13, hs⟩ := bd hs
          refine ro_gR F M fg_6_7 t_254 g_v13 dX6_firstMate_51 ?_
          refine lv_iload_n hx hb dX6_firstMate_54 rfl (lv_at hl 3 rfl) ?_
          refine lv_iconst (v := 1) hx hb dX6_firstMate_55 (by decide) ?_
          obtain ⟨h14, g_h14, hs⟩ := bd hs
          refine ro_sZ F M g_h14 dX6_firstMate_56 (fun H locs M => ?_)
          refine lv_aload_n hx hb dX6_firstMate_57 rfl (lv_at hl 0 rfl) ?_
          obtain ⟨v15, g_v15, hs⟩ := bd hs
          obtain ⟨a22, e_a22, k_a22, g_v15⟩ := cV_some g_v15
          obtain rfl := Option.some.inj e_a22
          refine ca_Vi (bq := th) (As := []) (rest := []) F M (c_X6_bestOfUnsettled g_v15) mf_X6_bestOfUnsettled t_805 k_a22 rfl ⟨by decide, by decide⟩ ⟨rfl, rfl⟩ ⟨Nat.zero_le _, Nat.zero_le _⟩ hl.1 rfl (by decide) dX6_firstMate_58 (fun H locs M => ?_)
          refine lv_aload_n hx hb dX6_firstMate_61 rfl (lv_at hl 0 rfl) ?_
          obtain ⟨v16, g_v16, hs⟩ := bd hs
          refine ro_gR F M fg_6_0 t_247 g_v16 dX6_firstMate_62 ?_
          refine lv_iload_n hx hb dX6_firstMate_65 rfl (lv_at hl 1 rfl) ?_
          obtain ⟨v17, g_v17, hs⟩ := bd hs
          refine ro_aG F M g_v17 dX6_firstMate_66 ?_
          refine lv_iload_n hx hb dX6_firstMate_67 rfl (lv_at hl 3 rfl) ?_
          obtain ⟨v18, g_v18, hs⟩ := bd hs
          refine ro_aI F M g_v18 dX6_firstMate_68 ?_
          refine lv_iadd hx hb dX6_firstMate_69 ?_
          refine lv_iload_n hx hb dX6_firstMate_70 rfl (lv_at hl 2 rfl) ?_
          refine lv_icmp_ne (tgt := 76) hx hb dX6_firstMate_71 (by decide) (fun c19 => ?_) (fun c19 => ?_)
          · rw [if_neg c19] at hs
            refine lv_aload_n hx hb dX6_firstMate_76 rfl (lv_at hl 0 rfl) ?_
            obtain ⟨v20, g_v20, hs⟩ := bd hs
            refine ro_gR F M fg_6_7 t_254 g_v20 dX6_firstMate_77 ?_
            refine lv_iload_n hx hb dX6_firstMate_80 rfl (lv_at hl 3 rfl) ?_
            refine lv_iconst (v := 0) hx hb dX6_firstMate_81 (by decide) ?_
            obtain ⟨h21, g_h21, hs⟩ := bd hs
            refine ro_sZ F M g_h21 dX6_firstMate_82 (fun H locs M => ?_)
            refine lv_iinc (v := x3 + 1) (lv' := [(3, .int (x3 + 1)), (0, .ref th), (1, .int x1), (2, .int x2)]) hx hb dX6_firstMate_83 hl (k := 3) rfl rfl (by decide) rfl (fun ls hl => ?_)
            refine lv_goto (tgt := 21) hx hb dX6_firstMate_86 (by decide) ?_
            exact ih (x3 + 1) h21 _ _ _ _ hs (lv_sub hl [1, 2, 3, 0] rfl) M kx kr
          · rw [if_pos c19] at hs
            refine lv_iload_n hx hb dX6_firstMate_74 rfl (lv_at hl 3 rfl) ?_
            obtain rfl := kr _ (Option.some.inj hs).symm
            exact re_i F M dX6_firstMate_75
        · rw [if_neg c12] at hs
          refine lv_goto (tgt := 83) hx hb dX6_firstMate_47 (by decide) ?_
          refine lv_iinc (v := x3 + 1) (lv' := [(3, .int (x3 + 1)), (0, .ref th), (1, .int x1), (2, .int x2)]) hx hb dX6_firstMate_83 hl (k := 3) rfl rfl (by decide) rfl (fun ls hl => ?_)
          refine lv_goto (tgt := 21) hx hb dX6_firstMate_86 (by decide) ?_
          exact ih (x3 + 1) h _ _ _ _ hs (lv_sub hl [1, 2, 3, 0] rfl) M kx kr
set_option maxHeartbeats 4000000 in
set_option maxRecDepth 100000 in
theorem c_X6_firstMate {l : Launch} {D : va_G} {cy : Nat → ClassId} {sz N : Nat} {h : IH} {th : Nat} {a0 : Int32} {a1 : Int32} {qF : Int32 × IH} (hs : s_X6_firstMate N h th a0 a1 = some qF) : Ct l D cy yX6_firstMate cX6_firstMate 4 (some .int) rm_X6_firstMate h sz [.ref th, .int a0, .int a1] qF.2 (some (.int qF.1)) := by
  refine ct_start (by decide +kernel) [(0, .ref th), (1, .int a0), (2, .int a1)] (Nat.le_of_ble_eq_true rfl) rfl ?_
  intro p e s m args below meth c A H0 ls F hin hsz M hl
  obtain ⟨hx, hb, hr, hml, hown, hlk, hts, hK, hN, hA, hH⟩ := id F
  generalize s.heap = H at M ⊢
  generalize ([] : List Loc) = locs at M ⊢
  unfold s_X6_firstMate at hs
  refine lv_iload_n hx hb dX6_firstMate_0 rfl (lv_at hl 1 rfl) ?_
  refine lv_if_lt (tgt := 10) hx hb dX6_firstMate_1 (by decide) (fun c1 => ?_) (fun c1 => ?_)
  · rw [if_pos c1] at hs
    refine lv_iconst (v := (-1)) hx hb dX6_firstMate_10 (by decide) ?_
    obtain rfl := Option.some.inj hs
    exact re_i F M dX6_firstMate_11
  · rw [if_neg c1] at hs
    refine lv_iload_n hx hb dX6_firstMate_4 rfl (lv_at hl 1 rfl) ?_
    refine lv_bipush (v := 16) hx hb dX6_firstMate_5 (by decide) ?_
    refine lv_icmp_lt (tgt := 12) hx hb dX6_firstMate_7 (by decide) (fun c2 => ?_) (fun c2 => ?_)
    · rw [if_pos c2] at hs
      refine lv_aload_n hx hb dX6_firstMate_12 rfl (lv_at hl 0 rfl) ?_
      obtain ⟨v3, g_v3, hs⟩ := bd hs
      refine ro_gR F M fg_6_6 t_253 g_v3 dX6_firstMate_13 ?_
      refine lv_iload_n hx hb dX6_firstMate_16 rfl (lv_at hl 1 rfl) ?_
      refine lv_iconst (v := 1) hx hb dX6_firstMate_17 (by decide) ?_
      obtain ⟨h4, g_h4, hs⟩ := bd hs
      refine ro_sZ F M g_h4 dX6_firstMate_18 (fun H locs M => ?_)
      refine lv_iconst (v := 0) hx hb dX6_firstMate_19 (by decide) ?_
      refine lv_istore_n (i := 3) (lv' := [(3, .int 0), (0, .ref th), (1, .int a0), (2, .int a1)]) hx hb dX6_firstMate_20 rfl hl (by decide) rfl (fun ls hl => ?_)
      obtain ⟨q23, g_q23, hs⟩ := bd hs
      refine w_X6_firstMate_L21 F N 0 h4 _ _ _ q23 g_q23 (lv_sub hl [1, 2, 3, 0] rfl) M (fun t24 ls H locs eq_ hl M => ?_) (fun v eq_ => ?_)
      · subst eq_
        have hs := se_r hs
        refine lv_iconst (v := (-1)) hx hb dX6_firstMate_89 (by decide) ?_
        obtain rfl := Option.some.inj hs
        exact re_i F M dX6_firstMate_90
      · subst eq_
        have hs := se_l hs
        exact (Option.some.inj hs)
    · rw [if_neg c2] at hs
      refine lv_iconst (v := (-1)) hx hb dX6_firstMate_10 (by decide) ?_
      obtain rfl := Option.some.inj hs
      exact re_i F M dX6_firstMate_11
abbrev rm_X6_setMate : Room := { frames := 0, cells := 0, slots := 0, locals := 0 }
theorem mf_X6_setMate : MS yX6_setMate cX6_setMate 3 none 3 := ⟨t_818, t_817, t_9, ⟨by decide +kernel, by decide +kernel, by decide +kernel⟩⟩
def s_X6_setMate (h : IH) (a0 : Option Nat) (a1 : Int32) (a2 : Int32) : Option (IH) := ((if a0 = none then some h else (pI h 2 7 a0 a1).bind fun h2 => (pI h2 2 8 a0 a2).bind fun h3 => some h3) : Option (IH)).bind fun q4 => some q4
set_option maxHeartbeats 4000000 in
set_option maxRecDepth 100000 in
theorem c_X6_setMate {l : Launch} {D : va_G} {cy : Nat → ClassId} {sz : Nat} {h : IH} {a0 : Option Nat} {a1 : Int32} {a2 : Int32} {qF : IH} (hs : s_X6_setMate h a0 a1 a2 = some qF) : Ct l D cy yX6_setMate cX6_setMate 3 none rm_X6_setMate h sz [va_rf a0, .int a1, .int a2] qF none := by
  refine ct_start (by decide +kernel) [(0, va_rf a0), (1, .int a1), (2, .int a2)] (by simp [lg_sl, cat_rf, cat_i, cat_j, cat_r]) (by simp [lv_args, cat_rf, cat_i, cat_j, cat_r]) ?_
  intro p e s m args below meth c A H0 ls F hin hsz M hl
  obtain ⟨hx, hb, hr, hml, hown, hlk, hts, hK, hN, hA, hH⟩ := id F
  generalize s.heap = H at M ⊢
  generalize ([] : List Loc) = locs at M ⊢
  unfold s_X6_setMate at hs
  refine lo_aload_n hx hb dX6_setMate_0 rfl (lv_at hl 0 rfl) ?_
  obtain ⟨q4, hsq4, hs⟩ := bd hs
  have KJ14 : ∀ (ls : Array Slot) (H : Heap) (locs : List Loc), lv_has ls 3 [] → Mo D cy A H0 q4 H locs → W p l e rm_X6_setMate s m args below meth c H locs 0 0 (MQ below (QR D cy qF A none) args s 0 0 A) (F0 m 14 ls []) := by
    intro ls H locs hl M
    obtain rfl := Option.some.inj hs
    exact re_v F M dX6_setMate_14
  clear hs
  have hs := hsq4
  refine lo_ifnull (tgt := 14) hx hb dX6_setMate_1 (by decide) (fun c1 => ?_) (fun c1 => ?_)
  · rw [if_pos c1] at hs
    obtain rfl := Option.some.inj hs
    exact KJ14 _ _ _ (lv_sub hl [] rfl) M
  · rw [if_neg c1] at hs
    refine lo_aload_n hx hb dX6_setMate_4 rfl (lv_at hl 0 rfl) ?_
    refine lv_iload_n hx hb dX6_setMate_5 rfl (lv_at hl 1 rfl) ?_
    obtain ⟨h2, g_h2, hs⟩ := bd hs
    refine ro_pIN F M fg_2_7 fp_2_7 rfl tN_121 g_h2 dX6_setMate_6 (fun H locs M => ?_)
    refine lo_aload_n hx hb dX6_setMate_9 rfl (lv_at hl 0 rfl) ?_
    refine lv_iload_n hx hb dX6_setMate_10 rfl (lv_at hl 2 rfl) ?_
    obtain ⟨h3, g_h3, hs⟩ := bd hs
    refine ro_pIN F M fg_2_8 fp_2_8 rfl tN_125 g_h3 dX6_setMate_11 (fun H locs M => ?_)
    obtain rfl := Option.some.inj hs
    exact KJ14 _ _ _ (lv_sub hl [] rfl) M
abbrev rm_X6_pairUp : Room := { frames := 3, cells := 0, slots := 0, locals := 74 }
theorem mf_X6_pairUp : MV 6 yX6_pairUp cX6_pairUp 13 none 5 RX6 := ⟨t_773, t_772, tS_47, t_9, ⟨by decide +kernel, by decide +kernel, by decide +kernel⟩, rfl, by decide⟩
def s_X6_pairUp_L124 (N : Nat) : Nat → Nat → Int32 → Int32 → Option Nat → Option Nat → Int32 → Int32 → IH → Option (IH)
  | 0, _, _, _, _, _, _, _, _ => none
  | n + 1, th, x2, x3, x8, x9, x10, x11, h => (gI h 4 1 x8).bind fun v22 => if v22 ≤ x11 then some h else if x10 ≤ 0 then some h else (cV h 6 (some th) fun a37 => s_X6_firstMate N h a37 x11 x10).bind fun v25 => ((if v25.1 = (-1) then some (x10, v25.2) else (gR v25.2 6 0 (some th)).bind fun v27 => (aR v25.2 6 v27 x11).bind fun v28 => (aI v25.2 v28 v25.1).bind fun v29 => (cV v25.2 4 x8 fun a35 => s_X4_contactAt v25.2 a35 x11).bind fun v30 => (s_X6_setMate v25.2 v30 x3 v25.1).bind fun v31 => (cV v31 4 x9 fun a34 => s_X4_contactAt v31 a34 v25.1).bind fun v32 => (s_X6_setMate v31 v32 x2 x11).bind fun v33 => some (x10 - v29, v33)) : Option (Int32 × IH)).bind fun q36 => s_X6_pairUp_L124 N n th x2 x3 x8 x9 q36.1 (x11 + 1) q36.2
def s_X6_pairUp (N : Nat) (h : IH) (th : Nat) (a0 : Option Nat) (a1 : Int32) (a2 : Int32) (a3 : Int32) (a4 : Int32) : Option (IH) := (cV h 7 a0 fun a45 => s_X7_at h a45 a1).bind fun v1 => (cV h 7 a0 fun a44 => s_X7_at h a44 a2).bind fun v2 => if v1 = none then some h else if v2 = none then some h else (cV h 9 v1 fun a43 => s_X9_logOf h a43 a3).bind fun v5 => (cV h 9 v2 fun a42 => s_X9_logOf h a42 a3).bind fun v6 => if v5 = none then some h else if v6 = none then some h else (gR h 6 2 (some th)).bind fun v9 => (s_X6_putInOrder N h v5 a2 v9 0).bind fun v10 => (pI v10.2 6 4 (some th) v10.1).bind fun h11 => (gR h11 6 3 (some th)).bind fun v12 => (s_X6_putInOrder N h11 v6 a1 v12 1).bind fun v13 => (pI v13.2 6 5 (some th) v13.1).bind fun h14 => (gI h14 6 4 (some th)).bind fun v15 => if v15 = 0 then some h14 else (gI h14 6 5 (some th)).bind fun v17 => if v17 = 0 then some h14 else (cV h14 6 (some th) fun a41 => s_X6_clearMeasures N h14 a41 ).bind fun v19 => (cV v19 6 (some th) fun a40 => s_X6_measure N v19 a40 v1 v2 a3 a4).bind fun v20 => (cV v20 6 (some th) fun a39 => s_X6_bestOfUnsettled N v20 a39 ).bind fun v21 => (s_X6_pairUp_L124 N N th a1 a2 v5 v6 v21.1 0 v21.2).bind fun q38 => some q38
set_option maxHeartbeats 4000000 in
set_option maxRecDepth 100000 in
theorem w_X6_pairUp_L124 {p : Program} {l : Launch} {e : Env} {s : State} {m : MethodId} {args : Array Value} {below : List Frame} {meth : Method} {c : Code} {D : va_G} {cy : Nat → ClassId} {A : Nat → Prop} {H0 : Heap} {N th : Nat} {x2 : Int32} {x3 : Int32} {x8 : Option Nat} {x9 : Option Nat} {qF : IH} (F : Fx p s m args meth c D cy A H0 yX6_pairUp cX6_pairUp 13 none) : ∀ (n : Nat) (x10 : Int32) (x11 : Int32) (h : IH) (ls : Array Slot) (H : Heap) (locs : List Loc) (q : IH), s_X6_pairUp_L124 N n th x2 x3 x8 x9 x10 x11 h = some q → lv_has ls 13 [(0, .ref th), (2, .int x2), (3, .int x3), (8, va_rf x8), (9, va_rf x9), (10, .int x10), (11, .int x11)] → Mo D cy A H0 h H locs → (∀ (t : IH) (ls : Array Slot) (H : Heap) (locs : List Loc), q = t → lv_has ls 13 [] → Mo D cy A H0 t H locs → W p l e rm_X6_pairUp s m args below meth c H locs 0 0 (MQ below (QR D cy qF A none) args s 0 0 A) (F0 m 202 ls [])) → (∀ v : IH, False → v = qF) → W p l e rm_X6_pairUp s m args below meth c H locs 0 0 (MQ below (QR D cy qF A none) args s 0 0 A) (F0 m 124 ls []) := by
  intro n
  induction n with
  | zero => intro x10 x11 h ls H locs q hs; rw [s_X6_pairUp_L124.eq_1] at hs; cases hs
  | succ n ih =>
    intro x10 x11 h ls H locs q hs hl M kx kr
    obtain ⟨hx, hb, hr, hml, hown, hlk, hts, hK, hN, hA, hH⟩ := id F
    rw [s_X6_pairUp_L124.eq_2] at hs
    refine lv_iload hx hb dX6_pairUp_124 (lv_at hl 6 rfl) ?_
    refine lo_aload hx hb dX6_pairUp_126 (lv_at hl 3 rfl) ?_
    obtain ⟨v22, g_v22, hs⟩ := bd hs
    refine ro_gIN F M fg_4_1 tN_168 g_v22 dX6_pairUp_128 ?_
    refine lv_icmp_ge (tgt := 202) hx hb dX6_pairUp_131 (by decide) (fun c23 => ?_) (fun c23 => ?_)
    · rw [if_pos c23] at hs
      exact kx h _ _ _ (Option.some.inj hs).symm (lv_sub hl [] rfl) M
    · rw [if_neg c23] at hs
      refine lv_iload hx hb dX6_pairUp_134 (lv_at hl 5 rfl) ?_
      refine lv_if_le (tgt := 202) hx hb dX6_pairUp_136 (by decide) (fun c24 => ?_) (fun c24 => ?_)
      · rw [if_pos c24] at hs
        exact kx h _ _ _ (Option.some.inj hs).symm (lv_sub hl [] rfl) M
      · rw [if_neg c24] at hs
        refine lv_aload_n hx hb dX6_pairUp_139 rfl (lv_at hl 0 rfl) ?_
        refine lv_iload hx hb dX6_pairUp_140 (lv_at hl 6 rfl) ?_
        refine lv_iload hx hb dX6_pairUp_142 (lv_at hl 5 rfl) ?_
        obtain ⟨v25, g_v25, hs⟩ := bd hs
        obtain ⟨a37, e_a37, k_a37, g_v25⟩ := cV_some g_v25
        obtain rfl := Option.some.inj e_a37
        refine ca_Vi (bq := th) (As := [.int x11, .int x10]) (rest := []) F M (c_X6_firstMate g_v25) mf_X6_firstMate t_812 k_a37 rfl ⟨by decide, by decide⟩ ⟨rfl, rfl⟩ ⟨Nat.zero_le _, Nat.zero_le _⟩ hl.1 rfl (by decide) dX6_pairUp_144 (fun H locs M => ?_)
        refine lv_istore (i := 12) (lv' := [(12, .int v25.1), (0, .ref th), (2, .int x2), (3, .int x3), (8, va_rf x8), (9, va_rf x9), (10, .int x10), (11, .int x11)]) hx hb dX6_pairUp_147 hl (by decide) rfl (fun ls hl => ?_)
        refine lv_iload hx hb dX6_pairUp_149 (lv_at hl 0 rfl) ?_
        refine lv_iconst (v := (-1)) hx hb dX6_pairUp_151 (by decide) ?_
        obtain ⟨q36, hsq36, hs⟩ := bd hs
        have KJ196 : ∀ (ls : Array Slot) (H : Heap) (locs : List Loc), lv_has ls 13 [(0, .ref th), (2, .int x2), (3, .int x3), (8, va_rf x8), (9, va_rf x9), (10, .int q36.1), (11, .int x11)] → Mo D cy A H0 q36.2 H locs → W p l e rm_X6_pairUp s m args below meth c H locs 0 0 (MQ below (QR D cy qF A none) args s 0 0 A) (F0 m 196 ls []) := by
          intro ls H locs hl M
          refine lv_iinc (v := x11 + 1) (lv' := [(11, .int (x11 + 1)), (0, .ref th), (2, .int x2), (3, .int x3), (8, va_rf x8), (9, va_rf x9), (10, .int q36.1)]) hx hb dX6_pairUp_196 hl (k := 6) rfl rfl (by decide) rfl (fun ls hl => ?_)
          refine lv_goto (tgt := 124) hx hb dX6_pairUp_199 (by decide) ?_
          exact ih q36.1 (x11 + 1) q36.2 _ _ _ _ hs (lv_sub hl [1, 2, 3, 4, 5, 6, 0] rfl) M kx kr
        clear hs
        have hs := hsq36
        refine lv_icmp_eq (tgt := 196) hx hb dX6_pairUp_152 (by decide) (fun c26 => ?_) (fun c26 => ?_)
        · rw [if_pos c26] at hs
          obtain rfl := Option.some.inj hs
          exact KJ196 _ _ _ (lv_sub hl [1, 2, 3, 4, 5, 6, 7] rfl) M
        · rw [if_neg c26] at hs
          refine lv_iload hx hb dX6_pairUp_155 (lv_at hl 6 rfl) ?_
          refine lv_aload_n hx hb dX6_pairUp_157 rfl (lv_at hl 1 rfl) ?_
          obtain ⟨v27, g_v27, hs⟩ := bd hs
          refine ro_gR F M fg_6_0 t_247 g_v27 dX6_pairUp_158 ?_
          refine lv_iload hx hb dX6_pairUp_161 (lv_at hl 7 rfl) ?_
          obtain ⟨v28, g_v28, hs⟩ := bd hs
          refine ro_aG F M g_v28 dX6_pairUp_163 ?_
          refine lv_iload hx hb dX6_pairUp_164 (lv_at hl 0 rfl) ?_
          obtain ⟨v29, g_v29, hs⟩ := bd hs
          refine ro_aI F M g_v29 dX6_pairUp_166 ?_
          refine lv_isub hx hb dX6_pairUp_167 ?_
          refine lv_istore (i := 10) (lv' := [(10, .int (x10 - v29)), (12, .int v25.1), (0, .ref th), (2, .int x2), (3, .int x3), (8, va_rf x8), (9, va_rf x9), (11, .int x11)]) hx hb dX6_pairUp_168 hl (by decide) (by simp [cat_rf, cat_i, cat_j, cat_r]) (fun ls hl => ?_)
          refine lo_aload hx hb dX6_pairUp_170 (lv_at hl 5 rfl) ?_
          refine lv_iload hx hb dX6_pairUp_172 (lv_at hl 7 rfl) ?_
          obtain ⟨v30, g_v30, hs⟩ := bd hs
          obtain ⟨a35, e_a35, k_a35, g_v30⟩ := cV_some g_v30
          refine ca_VNa (bq := a35) (As := [.int x11]) (rest := []) F M (c_X4_contactAt g_v30) mf_X4_contactAt tN_779 k_a35 rfl ⟨by decide, by decide⟩ ⟨rfl, rfl⟩ ⟨Nat.zero_le _, Nat.zero_le _⟩ hl.1 (by rw [e_a35]; rfl) (by decide) dX6_pairUp_174 (fun H locs M => ?_)
          refine lv_iload_n hx hb dX6_pairUp_177 rfl (lv_at hl 4 rfl) ?_
          refine lv_iload hx hb dX6_pairUp_178 (lv_at hl 1 rfl) ?_
          obtain ⟨v31, g_v31, hs⟩ := bd hs
          refine ca_Sv (As := [va_rf v30, .int x3, .int v25.1]) (rest := []) F M (c_X6_setMate g_v31) mf_X6_setMate t_816 rfl ⟨by decide, by decide⟩ ⟨rfl, rfl⟩ ⟨Nat.zero_le _, Nat.zero_le _⟩ hl.1 rfl (by decide) dX6_pairUp_180 (fun H locs M => ?_)
          refine lo_aload hx hb dX6_pairUp_183 (lv_at hl 6 rfl) ?_
          refine lv_iload hx hb dX6_pairUp_185 (lv_at hl 1 rfl) ?_
          obtain ⟨v32, g_v32, hs⟩ := bd hs
          obtain ⟨a34, e_a34, k_a34, g_v32⟩ := cV_some g_v32
          refine ca_VNa (bq := a34) (As := [.int v25.1]) (rest := []) F M (c_X4_contactAt g_v32) mf_X4_contactAt tN_779 k_a34 rfl ⟨by decide, by decide⟩ ⟨rfl, rfl⟩ ⟨Nat.zero_le _, Nat.zero_le _⟩ hl.1 (by rw [e_a34]; rfl) (by decide) dX6_pairUp_187 (fun H locs M => ?_)
          refine lv_iload_n hx hb dX6_pairUp_190 rfl (lv_at hl 3 rfl) ?_
          refine lv_iload hx hb dX6_pairUp_191 (lv_at hl 7 rfl) ?_
          obtain ⟨v33, g_v33, hs⟩ := bd hs
          refine ca_Sv (As := [va_rf v32, .int x2, .int x11]) (rest := []) F M (c_X6_setMate g_v33) mf_X6_setMate t_816 rfl ⟨by decide, by decide⟩ ⟨rfl, rfl⟩ ⟨Nat.zero_le _, Nat.zero_le _⟩ hl.1 rfl (by decide) dX6_pairUp_193 (fun H locs M => ?_)
          obtain rfl := Option.some.inj hs
          exact KJ196 _ _ _ (lv_sub hl [2, 3, 4, 5, 6, 0, 7] rfl) M
set_option maxHeartbeats 4000000 in
set_option maxRecDepth 100000 in
theorem c_X6_pairUp {l : Launch} {D : va_G} {cy : Nat → ClassId} {sz N : Nat} {h : IH} {th : Nat} {a0 : Option Nat} {a1 : Int32} {a2 : Int32} {a3 : Int32} {a4 : Int32} {qF : IH} (hs : s_X6_pairUp N h th a0 a1 a2 a3 a4 = some qF) : Ct l D cy yX6_pairUp cX6_pairUp 13 none rm_X6_pairUp h sz [.ref th, va_rf a0, .int a1, .int a2, .int a3, .int a4] qF none := by
  refine ct_start (by decide +kernel) [(0, .ref th), (1, va_rf a0), (2, .int a1), (3, .int a2), (4, .int a3), (5, .int a4)] (by simp [lg_sl, cat_rf, cat_i, cat_j, cat_r]) (by simp [lv_args, cat_rf, cat_i, cat_j, cat_r]) ?_
  intro p e s m args below meth c A H0 ls F hin hsz M hl
  obtain ⟨hx, hb, hr, hml, hown, hlk, hts, hK, hN, hA, hH⟩ := id F
  generalize s.heap = H at M ⊢
  generalize ([] : List Loc) = locs at M ⊢
  unfold s_X6_pairUp at hs
  refine lo_aload_n hx hb dX6_pairUp_0 rfl (lv_at hl 1 rfl) ?_
  refine lv_iload_n hx hb dX6_pairUp_1 rfl (lv_at hl 2 rfl) ?_
  obtain ⟨v1, g_v1, hs⟩ := bd hs
  obtain ⟨a45, e_a45, k_a45, g_v1⟩ := cV_some g_v1
  refine ca_VNa (bq := a45) (As := [.int a1]) (rest := []) F M (c_X7_at g_v1) mf_X7_at tN_774 k_a45 rfl ⟨by decide, by decide⟩ ⟨rfl, rfl⟩ ⟨Nat.zero_le _, Nat.zero_le _⟩ hl.1 (by rw [e_a45]; rfl) (by decide) dX6_pairUp_2 (fun H locs M => ?_)
  refine lo_astore (i := 6) (lv' := [(6, va_rf v1), (0, .ref th), (1, va_rf a0), (2, .int a1), (3, .int a2), (4, .int a3), (5, .int a4)]) hx hb dX6_pairUp_5 hl (by decide) rfl (fun ls hl => ?_)
  refine lo_aload_n hx hb dX6_pairUp_7 rfl (lv_at hl 2 rfl) ?_
  refine lv_iload_n hx hb dX6_pairUp_8 rfl (lv_at hl 4 rfl) ?_
  obtain ⟨v2, g_v2, hs⟩ := bd hs
  obtain ⟨a44, e_a44, k_a44, g_v2⟩ := cV_some g_v2
  refine ca_VNa (bq := a44) (As := [.int a2]) (rest := []) F M (c_X7_at g_v2) mf_X7_at tN_774 k_a44 rfl ⟨by decide, by decide⟩ ⟨rfl, rfl⟩ ⟨Nat.zero_le _, Nat.zero_le _⟩ hl.1 (by rw [e_a44]; rfl) (by decide) dX6_pairUp_9 (fun H locs M => ?_)
  refine lo_astore (i := 7) (lv' := [(7, va_rf v2), (6, va_rf v1), (0, .ref th), (1, va_rf a0), (2, .int a1), (3, .int a2), (4, .int a3), (5, .int a4)]) hx hb dX6_pairUp_12 hl (by decide) (by simp [cat_rf, cat_i, cat_j, cat_r]) (fun ls hl => ?_)
  refine lo_aload hx hb dX6_pairUp_14 (lv_at hl 1 rfl) ?_
  refine lo_ifnull (tgt := 24) hx hb dX6_pairUp_16 (by decide) (fun c3 => ?_) (fun c3 => ?_)
  · rw [if_pos c3] at hs
    obtain rfl := Option.some.inj hs
    exact re_v F M dX6_pairUp_24
  · rw [if_neg c3] at hs
    refine lo_aload hx hb dX6_pairUp_19 (lv_at hl 0 rfl) ?_
    refine lo_ifnonnull (tgt := 25) hx hb dX6_pairUp_21 (by decide) (fun c4 => ?_) (fun c4 => ?_)
    · rw [if_neg c4] at hs
      refine lo_aload hx hb dX6_pairUp_25 (lv_at hl 1 rfl) ?_
      refine lv_iload hx hb dX6_pairUp_27 (lv_at hl 6 rfl) ?_
      obtain ⟨v5, g_v5, hs⟩ := bd hs
      obtain ⟨a43, e_a43, k_a43, g_v5⟩ := cV_some g_v5
      refine ca_VNa (bq := a43) (As := [.int a3]) (rest := []) F M (c_X9_logOf g_v5) mf_X9_logOf tN_775 k_a43 rfl ⟨by decide, by decide⟩ ⟨rfl, rfl⟩ ⟨Nat.zero_le _, Nat.zero_le _⟩ hl.1 (by rw [e_a43]; rfl) (by decide) dX6_pairUp_29 (fun H locs M => ?_)
      refine lo_astore (i := 8) (lv' := [(8, va_rf v5), (7, va_rf v2), (6, va_rf v1), (0, .ref th), (1, va_rf a0), (2, .int a1), (3, .int a2), (4, .int a3), (5, .int a4)]) hx hb dX6_pairUp_32 hl (by decide) (by simp [cat_rf, cat_i, cat_j, cat_r]) (fun ls hl => ?_)
      refine lo_aload hx hb dX6_pairUp_34 (lv_at hl 1 rfl) ?_
      refine lv_iload hx hb dX6_pairUp_36 (lv_at hl 7 rfl) ?_
      obtain ⟨v6, g_v6, hs⟩ := bd hs
      obtain ⟨a42, e_a42, k_a42, g_v6⟩ := cV_some g_v6
      refine ca_VNa (bq := a42) (As := [.int a3]) (rest := []) F M (c_X9_logOf g_v6) mf_X9_logOf tN_775 k_a42 rfl ⟨by decide, by decide⟩ ⟨rfl, rfl⟩ ⟨Nat.zero_le _, Nat.zero_le _⟩ hl.1 (by rw [e_a42]; rfl) (by decide) dX6_pairUp_38 (fun H locs M => ?_)
      refine lo_astore (i := 9) (lv' := [(9, va_rf v6), (8, va_rf v5), (7, va_rf v2), (6, va_rf v1), (0, .ref th), (1, va_rf a0), (2, .int a1), (3, .int a2), (4, .int a3), (5, .int a4)]) hx hb dX6_pairUp_41 hl (by decide) (by simp [cat_rf, cat_i, cat_j, cat_r]) (fun ls hl => ?_)
      refine lo_aload hx hb dX6_pairUp_43 (lv_at hl 1 rfl) ?_
      refine lo_ifnull (tgt := 53) hx hb dX6_pairUp_45 (by decide) (fun c7 => ?_) (fun c7 => ?_)
      · rw [if_pos c7] at hs
        obtain rfl := Option.some.inj hs
        exact re_v F M dX6_pairUp_53
      · rw [if_neg c7] at hs
        refine lo_aload hx hb dX6_pairUp_48 (lv_at hl 0 rfl) ?_
        refine lo_ifnonnull (tgt := 54) hx hb dX6_pairUp_50 (by decide) (fun c8 => ?_) (fun c8 => ?_)
        · rw [if_neg c8] at hs
          refine lv_aload_n hx hb dX6_pairUp_54 rfl (lv_at hl 4 rfl) ?_
          refine lo_aload hx hb dX6_pairUp_55 (lv_at hl 1 rfl) ?_
          refine lv_iload_n hx hb dX6_pairUp_57 rfl (lv_at hl 7 rfl) ?_
          refine lv_aload_n hx hb dX6_pairUp_58 rfl (lv_at hl 4 rfl) ?_
          obtain ⟨v9, g_v9, hs⟩ := bd hs
          refine ro_gR F M fg_6_2 t_249 g_v9 dX6_pairUp_59 ?_
          refine lv_iconst (v := 0) hx hb dX6_pairUp_62 (by decide) ?_
          obtain ⟨v10, g_v10, hs⟩ := bd hs
          refine ca_Si (As := [va_rf v5, .int a2, va_rf v9, .int 0]) (rest := [.ref th]) F M (c_X6_putInOrder g_v10) mf_X6_putInOrder t_776 rfl ⟨by decide, by decide⟩ ⟨rfl, rfl⟩ ⟨Nat.zero_le _, Nat.zero_le _⟩ hl.1 rfl (by simp [cat_rf, cat_i, cat_j, cat_r]) dX6_pairUp_63 (fun H locs M => ?_)
          obtain ⟨h11, g_h11, hs⟩ := bd hs
          refine ro_pI F M fg_6_4 fp_6_4 rfl t_251 g_h11 dX6_pairUp_66 (fun H locs M => ?_)
          refine lv_aload_n hx hb dX6_pairUp_69 rfl (lv_at hl 4 rfl) ?_
          refine lo_aload hx hb dX6_pairUp_70 (lv_at hl 0 rfl) ?_
          refine lv_iload_n hx hb dX6_pairUp_72 rfl (lv_at hl 6 rfl) ?_
          refine lv_aload_n hx hb dX6_pairUp_73 rfl (lv_at hl 4 rfl) ?_
          obtain ⟨v12, g_v12, hs⟩ := bd hs
          refine ro_gR F M fg_6_3 t_250 g_v12 dX6_pairUp_74 ?_
          refine lv_iconst (v := 1) hx hb dX6_pairUp_77 (by decide) ?_
          obtain ⟨v13, g_v13, hs⟩ := bd hs
          refine ca_Si (As := [va_rf v6, .int a1, va_rf v12, .int 1]) (rest := [.ref th]) F M (c_X6_putInOrder g_v13) mf_X6_putInOrder t_776 rfl ⟨by decide, by decide⟩ ⟨rfl, rfl⟩ ⟨Nat.zero_le _, Nat.zero_le _⟩ hl.1 rfl (by simp [cat_rf, cat_i, cat_j, cat_r]) dX6_pairUp_78 (fun H locs M => ?_)
          obtain ⟨h14, g_h14, hs⟩ := bd hs
          refine ro_pI F M fg_6_5 fp_6_5 rfl t_252 g_h14 dX6_pairUp_81 (fun H locs M => ?_)
          refine lv_aload_n hx hb dX6_pairUp_84 rfl (lv_at hl 4 rfl) ?_
          obtain ⟨v15, g_v15, hs⟩ := bd hs
          refine ro_gI F M fg_6_4 t_251 g_v15 dX6_pairUp_85 ?_
          refine lv_if_eq (tgt := 98) hx hb dX6_pairUp_88 (by decide) (fun c16 => ?_) (fun c16 => ?_)
          · rw [if_pos c16] at hs
            obtain rfl := Option.some.inj hs
            exact re_v F M dX6_pairUp_98
          · rw [if_neg c16] at hs
            refine lv_aload_n hx hb dX6_pairUp_91 rfl (lv_at hl 4 rfl) ?_
            obtain ⟨v17, g_v17, hs⟩ := bd hs
            refine ro_gI F M fg_6_5 t_252 g_v17 dX6_pairUp_92 ?_
            refine lv_if_ne (tgt := 99) hx hb dX6_pairUp_95 (by decide) (fun c18 => ?_) (fun c18 => ?_)
            · rw [if_neg c18] at hs
              refine lv_aload_n hx hb dX6_pairUp_99 rfl (lv_at hl 4 rfl) ?_
              obtain ⟨v19, g_v19, hs⟩ := bd hs
              obtain ⟨a41, e_a41, k_a41, g_v19⟩ := cV_some g_v19
              obtain rfl := Option.some.inj e_a41
              refine ca_Vv (bq := th) (As := []) (rest := []) F M (c_X6_clearMeasures g_v19) mf_X6_clearMeasures t_790 k_a41 rfl ⟨by decide, by decide⟩ ⟨rfl, rfl⟩ ⟨Nat.zero_le _, Nat.zero_le _⟩ hl.1 rfl (by decide) dX6_pairUp_100 (fun H locs M => ?_)
              refine lv_aload_n hx hb dX6_pairUp_103 rfl (lv_at hl 4 rfl) ?_
              refine lo_aload hx hb dX6_pairUp_104 (lv_at hl 3 rfl) ?_
              refine lo_aload hx hb dX6_pairUp_106 (lv_at hl 2 rfl) ?_
              refine lv_iload hx hb dX6_pairUp_108 (lv_at hl 8 rfl) ?_
              refine lv_iload hx hb dX6_pairUp_110 (lv_at hl 9 rfl) ?_
              obtain ⟨v20, g_v20, hs⟩ := bd hs
              obtain ⟨a40, e_a40, k_a40, g_v20⟩ := cV_some g_v20
              obtain rfl := Option.some.inj e_a40
              refine ca_Vv (bq := th) (As := [va_rf v1, va_rf v2, .int a3, .int a4]) (rest := []) F M (c_X6_measure g_v20) mf_X6_measure t_794 k_a40 rfl ⟨by decide, by decide⟩ ⟨rfl, rfl⟩ ⟨Nat.zero_le _, Nat.zero_le _⟩ hl.1 rfl (by decide) dX6_pairUp_112 (fun H locs M => ?_)
              refine lv_aload_n hx hb dX6_pairUp_115 rfl (lv_at hl 4 rfl) ?_
              obtain ⟨v21, g_v21, hs⟩ := bd hs
              obtain ⟨a39, e_a39, k_a39, g_v21⟩ := cV_some g_v21
              obtain rfl := Option.some.inj e_a39
              refine ca_Vi (bq := th) (As := []) (rest := []) F M (c_X6_bestOfUnsettled g_v21) mf_X6_bestOfUnsettled t_805 k_a39 rfl ⟨by decide, by decide⟩ ⟨rfl, rfl⟩ ⟨Nat.zero_le _, Nat.zero_le _⟩ hl.1 rfl (by decide) dX6_pairUp_116 (fun H locs M => ?_)
              refine lv_istore (i := 10) (lv' := [(10, .int v21.1), (9, va_rf v6), (8, va_rf v5), (7, va_rf v2), (6, va_rf v1), (0, .ref th), (1, va_rf a0), (2, .int a1), (3, .int a2), (4, .int a3), (5, .int a4)]) hx hb dX6_pairUp_119 hl (by decide) (by simp [cat_rf, cat_i, cat_j, cat_r]) (fun ls hl => ?_)
              refine lv_iconst (v := 0) hx hb dX6_pairUp_121 (by decide) ?_
              refine lv_istore (i := 11) (lv' := [(11, .int 0), (10, .int v21.1), (9, va_rf v6), (8, va_rf v5), (7, va_rf v2), (6, va_rf v1), (0, .ref th), (1, va_rf a0), (2, .int a1), (3, .int a2), (4, .int a3), (5, .int a4)]) hx hb dX6_pairUp_122 hl (by decide) rfl (fun ls hl => ?_)
              obtain ⟨q38, g_q38, hs⟩ := bd hs
              refine w_X6_pairUp_L124 F N v21.1 0 v21.2 _ _ _ q38 g_q38 (lv_sub hl [6, 8, 9, 3, 2, 1, 0] rfl) M (fun t_ ls H locs eq_ hl M => ?_) (fun v eq_ => eq_.elim)
              subst eq_
              obtain rfl := Option.some.inj hs
              exact re_v F M dX6_pairUp_202
            · rw [if_pos c18] at hs
              obtain rfl := Option.some.inj hs
              exact re_v F M dX6_pairUp_98
        · rw [if_pos c8] at hs
          obtain rfl := Option.some.inj hs
          exact re_v F M dX6_pairUp_53
    · rw [if_pos c4] at hs
      obtain rfl := Option.some.inj hs
      exact re_v F M dX6_pairUp_24
abbrev rm_X0_mayBeMisheard : Room := { frames := 1, cells := 0, slots := 0, locals := 20 }
theorem mf_X0_mayBeMisheard : MS yX0_mayBeMisheard cX0_mayBeMisheard 1 (some .boolean) 1 := ⟨t_825, t_824, t_8, ⟨by decide +kernel, by decide +kernel, by decide +kernel⟩⟩
def s_X0_mayBeMisheard (h : IH) (a0 : Option Nat) : Option (Int32) := (gI h 2 6 a0).bind fun v1 => ((if v1 = (-1) then (cV h 2 a0 fun a5 => s_X2_isComplete h a5 ).bind fun v3 => if v3 = 0 then some 0 else some 1 else some 0) : Option (Int32)).bind fun q6 => if q6 = 0 ∨ q6 = 1 then some q6 else none
set_option maxHeartbeats 4000000 in
set_option maxRecDepth 100000 in
theorem c_X0_mayBeMisheard {l : Launch} {D : va_G} {cy : Nat → ClassId} {sz : Nat} {h : IH} {a0 : Option Nat} {qF : Int32} (hs : s_X0_mayBeMisheard h a0 = some qF) : Ct l D cy yX0_mayBeMisheard cX0_mayBeMisheard 1 (some .boolean) rm_X0_mayBeMisheard h sz [va_rf a0] h (some (.int qF)) := by
  refine ct_start (by decide +kernel) [(0, va_rf a0)] (by simp [lg_sl, cat_rf, cat_i, cat_j, cat_r]) (by simp [lv_args, cat_rf, cat_i, cat_j, cat_r]) ?_
  intro p e s m args below meth c A H0 ls F hin hsz M hl
  obtain ⟨hx, hb, hr, hml, hown, hlk, hts, hK, hN, hA, hH⟩ := id F
  generalize s.heap = H at M ⊢
  generalize ([] : List Loc) = locs at M ⊢
  unfold s_X0_mayBeMisheard at hs
  refine lo_aload_n hx hb dX0_mayBeMisheard_0 rfl (lv_at hl 0 rfl) ?_
  obtain ⟨v1, g_v1, hs⟩ := bd hs
  refine ro_gIN F M fg_2_6 tN_118 g_v1 dX0_mayBeMisheard_1 ?_
  refine lv_iconst (v := (-1)) hx hb dX0_mayBeMisheard_4 (by decide) ?_
  obtain ⟨q6, hsq6, hs⟩ := bd hs
  have KJ20 : ∀ (ls : Array Slot) (H : Heap) (locs : List Loc), lv_has ls 1 [] → Mo D cy A H0 h H locs → W p l e rm_X0_mayBeMisheard s m args below meth c H locs 0 0 (MQ below (QR D cy h A (some (.int qF))) args s 0 0 A) (F0 m 20 ls [.int q6]) := by
    intro ls H locs hl M
    by_cases zg : q6 = 0 ∨ q6 = 1
    · rw [if_pos zg] at hs
      obtain rfl := Option.some.inj hs
      exact re_z F M zg dX0_mayBeMisheard_20
    · rw [if_neg zg] at hs; cases hs
  clear hs
  have hs := hsq6
  refine lv_icmp_ne (tgt := 19) hx hb dX0_mayBeMisheard_5 (by decide) (fun c2 => ?_) (fun c2 => ?_)
  · rw [if_neg c2] at hs
    refine lv_iconst (v := 0) hx hb dX0_mayBeMisheard_19 (by decide) ?_
    obtain rfl := Option.some.inj hs
    exact KJ20 _ _ _ (lv_sub hl [] rfl) M
  · rw [if_pos c2] at hs
    refine lo_aload_n hx hb dX0_mayBeMisheard_8 rfl (lv_at hl 0 rfl) ?_
    obtain ⟨v3, g_v3, hs⟩ := bd hs
    obtain ⟨a5, e_a5, k_a5, g_v3⟩ := cV_some g_v3
    refine ca_VNi (bq := a5) (As := []) (rest := []) F M (c_X2_isComplete g_v3) mf_X2_isComplete tN_826 k_a5 rfl ⟨by decide, by decide⟩ ⟨rfl, rfl⟩ ⟨Nat.zero_le _, Nat.zero_le _⟩ hl.1 (by rw [e_a5]; rfl) (by decide) dX0_mayBeMisheard_9 (fun H locs M => ?_)
    refine lv_if_eq (tgt := 19) hx hb dX0_mayBeMisheard_12 (by decide) (fun c4 => ?_) (fun c4 => ?_)
    · rw [if_pos c4] at hs
      refine lv_iconst (v := 0) hx hb dX0_mayBeMisheard_19 (by decide) ?_
      obtain rfl := Option.some.inj hs
      exact KJ20 _ _ _ (lv_sub hl [] rfl) M
    · rw [if_neg c4] at hs
      refine lv_iconst (v := 1) hx hb dX0_mayBeMisheard_15 (by decide) ?_
      refine lv_goto (tgt := 20) hx hb dX0_mayBeMisheard_16 (by decide) ?_
      obtain rfl := Option.some.inj hs
      exact KJ20 _ _ _ (lv_sub hl [] rfl) M
abbrev rm_X2_isMisheardFrom : Room := { frames := 0, cells := 0, slots := 0, locals := 0 }
theorem mf_X2_isMisheardFrom : MV 2 yX2_isMisheardFrom cX2_isMisheardFrom 9 (some .boolean) 1 RX2 := ⟨t_835, t_834, tS_56, t_5, ⟨by decide +kernel, by decide +kernel, by decide +kernel⟩, rfl, by decide⟩
def s_X2_isMisheardFrom_L5 (N : Nat) : Nat → Nat → Int64 → Int32 → Int32 → IH → Option ((Int32) ⊕ (Int32))
  | 0, _, _, _, _, _ => none
  | n + 1, th, x1, x3, x4, h => if 48 ≤ x4 then some (.inr x3) else (gL h 2 3 (some th)).bind fun v2 => ((if (lg_cmp (((v2.toUInt64 >>> (x4.toInt64.toUInt64 &&& Int64.toUInt64 63)).toInt64) &&& 255) (((x1.toUInt64 >>> (x4.toInt64.toUInt64 &&& Int64.toUInt64 63)).toInt64) &&& 255)) = 0 then some x3 else some (x3 + 1)) : Option (Int32)).bind fun q4 => ((if (lg_cmp (((v2.toUInt64 >>> (x4.toInt64.toUInt64 &&& Int64.toUInt64 63)).toInt64) &&& 255) 0) = 0 then some 1 else some 0) : Option (Int32)).bind fun q6 => ((if (lg_cmp (((x1.toUInt64 >>> (x4.toInt64.toUInt64 &&& Int64.toUInt64 63)).toInt64) &&& 255) 0) = 0 then some 1 else some 0) : Option (Int32)).bind fun q8 => if q6 = q8 then s_X2_isMisheardFrom_L5 N n th x1 q4 (x4 + 8) h else some (.inl 0)
def s_X2_isMisheardFrom (N : Nat) (h : IH) (th : Nat) (a0 : Int64) : Option (Int32) := (s_X2_isMisheardFrom_L5 N N th a0 0 0 h).bind fun q10 => Sum.elim (fun v => some v) (fun t11 => ((if t11 = 1 then some 1 else some 0) : Option (Int32)).bind fun q13 => if q13 = 0 ∨ q13 = 1 then some q13 else none) q10
set_option maxHeartbeats 4000000 in
set_option maxRecDepth 100000 in
theorem w_X2_isMisheardFrom_L5 {p : Program} {l : Launch} {e : Env} {s : State} {m : MethodId} {args : Array Value} {below : List Frame} {meth : Method} {c : Code} {D : va_G} {cy : Nat → ClassId} {A : Nat → Prop} {H0 : Heap} {N th : Nat} {x1 : Int64} {h : IH} {qF : Int32} (F : Fx p s m args meth c D cy A H0 yX2_isMisheardFrom cX2_isMisheardFrom 9 (some .boolean)) : ∀ (n : Nat) (x3 : Int32) (x4 : Int32) (ls : Array Slot) (H : Heap) (locs : List Loc) (q : (Int32) ⊕ (Int32)), s_X2_isMisheardFrom_L5 N n th x1 x3 x4 h = some q → lv_has ls 9 [(0, .ref th), (1, .long x1), (3, .int x3), (4, .int x4)] → Mo D cy A H0 h H locs → (∀ (t : Int32) (ls : Array Slot) (H : Heap) (locs : List Loc), q = .inr t → lv_has ls 9 [(3, .int t)] → Mo D cy A H0 h H locs → W p l e rm_X2_isMisheardFrom s m args below meth c H locs 0 0 (MQ below (QR D cy h A (some (.int qF))) args s 0 0 A) (F0 m 81 ls [])) → (∀ v, q = .inl v → v = qF) → W p l e rm_X2_isMisheardFrom s m args below meth c H locs 0 0 (MQ below (QR D cy h A (some (.int qF))) args s 0 0 A) (F0 m 5 ls []) := by
  intro n
  induction n with
  | zero => intro x3 x4 ls H locs q hs; rw [s_X2_isMisheardFrom_L5.eq_1] at hs; cases hs
  | succ n ih =>
    intro x3 x4 ls H locs q hs hl M kx kr
    obtain ⟨hx, hb, hr, hml, hown, hlk, hts, hK, hN, hA, hH⟩ := id F
    rw [s_X2_isMisheardFrom_L5.eq_2] at hs
    refine lv_iload hx hb dX2_isMisheardFrom_5 (lv_at hl 3 rfl) ?_
    refine lv_bipush (v := 48) hx hb dX2_isMisheardFrom_7 (by decide) ?_
    refine lv_icmp_ge (tgt := 81) hx hb dX2_isMisheardFrom_9 (by decide) (fun c1 => ?_) (fun c1 => ?_)
    · rw [if_pos c1] at hs
      exact kx x3 _ _ _ (Option.some.inj hs).symm (lv_sub hl [2] rfl) M
    · rw [if_neg c1] at hs
      refine lv_aload_n hx hb dX2_isMisheardFrom_12 rfl (lv_at hl 0 rfl) ?_
      obtain ⟨v2, g_v2, hs⟩ := bd hs
      refine ro_gL F M fg_2_3 t_104 g_v2 dX2_isMisheardFrom_13 ?_
      refine lv_iload hx hb dX2_isMisheardFrom_16 (lv_at hl 3 rfl) ?_
      refine lv_lushr hx hb dX2_isMisheardFrom_18 rfl ?_
      refine lv_ldc2 (v := 255) hx hb hown (hts _ (List.mem_cons_of_mem _ t_836)) dX2_isMisheardFrom_19 ?_
      refine lv_land hx hb dX2_isMisheardFrom_22 ?_
      refine lv_lstore (i := 5) (lv' := [(5, .long (((v2.toUInt64 >>> (x4.toInt64.toUInt64 &&& Int64.toUInt64 63)).toInt64) &&& 255)), (0, .ref th), (1, .long x1), (3, .int x3), (4, .int x4)]) hx hb dX2_isMisheardFrom_23 hl (by decide) rfl (fun ls hl => ?_)
      refine lv_lload_n hx hb dX2_isMisheardFrom_25 rfl (lv_at hl 2 rfl) ?_
      refine lv_iload hx hb dX2_isMisheardFrom_26 (lv_at hl 4 rfl) ?_
      refine lv_lushr hx hb dX2_isMisheardFrom_28 rfl ?_
      refine lv_ldc2 (v := 255) hx hb hown (hts _ (List.mem_cons_of_mem _ t_836)) dX2_isMisheardFrom_29 ?_
      refine lv_land hx hb dX2_isMisheardFrom_32 ?_
      refine lv_lstore (i := 7) (lv' := [(7, .long (((x1.toUInt64 >>> (x4.toInt64.toUInt64 &&& Int64.toUInt64 63)).toInt64) &&& 255)), (5, .long (((v2.toUInt64 >>> (x4.toInt64.toUInt64 &&& Int64.toUInt64 63)).toInt64) &&& 255)), (0, .ref th), (1, .long x1), (3, .int x3), (4, .int x4)]) hx hb dX2_isMisheardFrom_33 hl (by decide) rfl (fun ls hl => ?_)
      refine lv_lload hx hb dX2_isMisheardFrom_35 (lv_at hl 1 rfl) ?_
      refine lv_lload hx hb dX2_isMisheardFrom_37 (lv_at hl 0 rfl) ?_
      refine W.lcmp hx hb dX2_isMisheardFrom_39 ?_
      obtain ⟨q4, hsq4, hs⟩ := bd hs
      have KJ46 : ∀ (ls : Array Slot) (H : Heap) (locs : List Loc), lv_has ls 9 [(0, .ref th), (1, .long x1), (3, .int q4), (4, .int x4), (5, .long (((v2.toUInt64 >>> (x4.toInt64.toUInt64 &&& Int64.toUInt64 63)).toInt64) &&& 255)), (7, .long (((x1.toUInt64 >>> (x4.toInt64.toUInt64 &&& Int64.toUInt64 63)).toInt64) &&& 255))] → Mo D cy A H0 h H locs → W p l e rm_X2_isMisheardFrom s m args below meth c H locs 0 0 (MQ below (QR D cy h A (some (.int qF))) args s 0 0 A) (F0 m 46 ls []) := by
        intro ls H locs hl M
        refine lv_lload hx hb dX2_isMisheardFrom_46 (lv_at hl 4 rfl) ?_
        refine lv_lconst (v := 0) hx hb dX2_isMisheardFrom_48 (by decide) ?_
        refine W.lcmp hx hb dX2_isMisheardFrom_49 ?_
        obtain ⟨q6, hsq6, hs⟩ := bd hs
        have KJ58 : ∀ (ls : Array Slot) (H : Heap) (locs : List Loc), lv_has ls 9 [(0, .ref th), (1, .long x1), (3, .int q4), (4, .int x4), (7, .long (((x1.toUInt64 >>> (x4.toInt64.toUInt64 &&& Int64.toUInt64 63)).toInt64) &&& 255))] → Mo D cy A H0 h H locs → W p l e rm_X2_isMisheardFrom s m args below meth c H locs 0 0 (MQ below (QR D cy h A (some (.int qF))) args s 0 0 A) (F0 m 58 ls [.int q6]) := by
          intro ls H locs hl M
          refine lv_lload hx hb dX2_isMisheardFrom_58 (lv_at hl 4 rfl) ?_
          refine lv_lconst (v := 0) hx hb dX2_isMisheardFrom_60 (by decide) ?_
          refine W.lcmp hx hb dX2_isMisheardFrom_61 ?_
          obtain ⟨q8, hsq8, hs⟩ := bd hs
          have KJ70 : ∀ (ls : Array Slot) (H : Heap) (locs : List Loc), lv_has ls 9 [(0, .ref th), (1, .long x1), (3, .int q4), (4, .int x4)] → Mo D cy A H0 h H locs → W p l e rm_X2_isMisheardFrom s m args below meth c H locs 0 0 (MQ below (QR D cy h A (some (.int qF))) args s 0 0 A) (F0 m 70 ls [.int q8, .int q6]) := by
            intro ls H locs hl M
            refine lv_icmp_eq (tgt := 75) hx hb dX2_isMisheardFrom_70 (by decide) (fun c9 => ?_) (fun c9 => ?_)
            · rw [if_pos c9] at hs
              refine lv_iinc (v := x4 + 8) (lv' := [(4, .int (x4 + 8)), (0, .ref th), (1, .long x1), (3, .int q4)]) hx hb dX2_isMisheardFrom_75 hl (k := 3) rfl rfl (by decide) rfl (fun ls hl => ?_)
              refine lv_goto (tgt := 5) hx hb dX2_isMisheardFrom_78 (by decide) ?_
              exact ih q4 (x4 + 8) _ _ _ _ hs (lv_sub hl [1, 2, 3, 0] rfl) M kx kr
            · rw [if_neg c9] at hs
              refine lv_iconst (v := 0) hx hb dX2_isMisheardFrom_73 (by decide) ?_
              obtain rfl := kr _ (Option.some.inj hs).symm
              exact re_z F M (Or.inl rfl) dX2_isMisheardFrom_74
          clear hs
          have hs := hsq8
          refine lv_if_ne (tgt := 69) hx hb dX2_isMisheardFrom_62 (by decide) (fun c7 => ?_) (fun c7 => ?_)
          · rw [if_neg c7] at hs
            refine lv_iconst (v := 0) hx hb dX2_isMisheardFrom_69 (by decide) ?_
            obtain rfl := Option.some.inj hs
            exact KJ70 _ _ _ (lv_sub hl [0, 1, 2, 3] rfl) M
          · rw [if_pos c7] at hs
            refine lv_iconst (v := 1) hx hb dX2_isMisheardFrom_65 (by decide) ?_
            refine lv_goto (tgt := 70) hx hb dX2_isMisheardFrom_66 (by decide) ?_
            obtain rfl := Option.some.inj hs
            exact KJ70 _ _ _ (lv_sub hl [0, 1, 2, 3] rfl) M
        clear hs
        have hs := hsq6
        refine lv_if_ne (tgt := 57) hx hb dX2_isMisheardFrom_50 (by decide) (fun c5 => ?_) (fun c5 => ?_)
        · rw [if_neg c5] at hs
          refine lv_iconst (v := 0) hx hb dX2_isMisheardFrom_57 (by decide) ?_
          obtain rfl := Option.some.inj hs
          exact KJ58 _ _ _ (lv_sub hl [0, 1, 2, 3, 5] rfl) M
        · rw [if_pos c5] at hs
          refine lv_iconst (v := 1) hx hb dX2_isMisheardFrom_53 (by decide) ?_
          refine lv_goto (tgt := 58) hx hb dX2_isMisheardFrom_54 (by decide) ?_
          obtain rfl := Option.some.inj hs
          exact KJ58 _ _ _ (lv_sub hl [0, 1, 2, 3, 5] rfl) M
      clear hs
      have hs := hsq4
      refine lv_if_eq (tgt := 46) hx hb dX2_isMisheardFrom_40 (by decide) (fun c3 => ?_) (fun c3 => ?_)
      · rw [if_pos c3] at hs
        obtain rfl := Option.some.inj hs
        exact KJ46 _ _ _ (lv_sub hl [2, 3, 4, 5, 1, 0] rfl) M
      · rw [if_neg c3] at hs
        refine lv_iinc (v := x3 + 1) (lv' := [(3, .int (x3 + 1)), (7, .long (((x1.toUInt64 >>> (x4.toInt64.toUInt64 &&& Int64.toUInt64 63)).toInt64) &&& 255)), (5, .long (((v2.toUInt64 >>> (x4.toInt64.toUInt64 &&& Int64.toUInt64 63)).toInt64) &&& 255)), (0, .ref th), (1, .long x1), (4, .int x4)]) hx hb dX2_isMisheardFrom_43 hl (k := 4) rfl rfl (by decide) rfl (fun ls hl => ?_)
        obtain rfl := Option.some.inj hs
        exact KJ46 _ _ _ (lv_sub hl [3, 4, 0, 5, 2, 1] rfl) M
set_option maxHeartbeats 4000000 in
set_option maxRecDepth 100000 in
theorem c_X2_isMisheardFrom {l : Launch} {D : va_G} {cy : Nat → ClassId} {sz N : Nat} {h : IH} {th : Nat} {a0 : Int64} {qF : Int32} (hs : s_X2_isMisheardFrom N h th a0 = some qF) : Ct l D cy yX2_isMisheardFrom cX2_isMisheardFrom 9 (some .boolean) rm_X2_isMisheardFrom h sz [.ref th, .long a0] h (some (.int qF)) := by
  refine ct_start (by decide +kernel) [(0, .ref th), (1, .long a0)] (Nat.le_of_ble_eq_true rfl) rfl ?_
  intro p e s m args below meth c A H0 ls F hin hsz M hl
  obtain ⟨hx, hb, hr, hml, hown, hlk, hts, hK, hN, hA, hH⟩ := id F
  generalize s.heap = H at M ⊢
  generalize ([] : List Loc) = locs at M ⊢
  unfold s_X2_isMisheardFrom at hs
  refine lv_iconst (v := 0) hx hb dX2_isMisheardFrom_0 (by decide) ?_
  refine lv_istore_n (i := 3) (lv' := [(3, .int 0), (0, .ref th), (1, .long a0)]) hx hb dX2_isMisheardFrom_1 rfl hl (by decide) rfl (fun ls hl => ?_)
  refine lv_iconst (v := 0) hx hb dX2_isMisheardFrom_2 (by decide) ?_
  refine lv_istore (i := 4) (lv' := [(4, .int 0), (3, .int 0), (0, .ref th), (1, .long a0)]) hx hb dX2_isMisheardFrom_3 hl (by decide) rfl (fun ls hl => ?_)
  obtain ⟨q10, g_q10, hs⟩ := bd hs
  refine w_X2_isMisheardFrom_L5 F N 0 0 _ _ _ q10 g_q10 (lv_sub hl [2, 3, 1, 0] rfl) M (fun t11 ls H locs eq_ hl M => ?_) (fun v eq_ => ?_)
  · subst eq_
    have hs := se_r hs
    refine lv_iload_n hx hb dX2_isMisheardFrom_81 rfl (lv_at hl 0 rfl) ?_
    refine lv_iconst (v := 1) hx hb dX2_isMisheardFrom_82 (by decide) ?_
    obtain ⟨q13, hsq13, hs⟩ := bd hs
    have KJ91 : ∀ (ls : Array Slot) (H : Heap) (locs : List Loc), lv_has ls 9 [] → Mo D cy A H0 h H locs → W p l e rm_X2_isMisheardFrom s m args below meth c H locs 0 0 (MQ below (QR D cy h A (some (.int qF))) args s 0 0 A) (F0 m 91 ls [.int q13]) := by
      intro ls H locs hl M
      by_cases zg : q13 = 0 ∨ q13 = 1
      · rw [if_pos zg] at hs
        obtain rfl := Option.some.inj hs
        exact re_z F M zg dX2_isMisheardFrom_91
      · rw [if_neg zg] at hs; cases hs
    clear hs
    have hs := hsq13
    refine lv_icmp_ne (tgt := 90) hx hb dX2_isMisheardFrom_83 (by decide) (fun c12 => ?_) (fun c12 => ?_)
    · rw [if_neg c12] at hs
      refine lv_iconst (v := 0) hx hb dX2_isMisheardFrom_90 (by decide) ?_
      obtain rfl := Option.some.inj hs
      exact KJ91 _ _ _ (lv_sub hl [] rfl) M
    · rw [if_pos c12] at hs
      refine lv_iconst (v := 1) hx hb dX2_isMisheardFrom_86 (by decide) ?_
      refine lv_goto (tgt := 91) hx hb dX2_isMisheardFrom_87 (by decide) ?_
      obtain rfl := Option.some.inj hs
      exact KJ91 _ _ _ (lv_sub hl [] rfl) M
  · subst eq_
    have hs := se_l hs
    exact (Option.some.inj hs)
abbrev rm_X2_isPaired : Room := { frames := 0, cells := 0, slots := 0, locals := 0 }
theorem mf_X2_isPaired : MV 2 yX2_isPaired cX2_isPaired 1 (some .boolean) 0 RX2 := ⟨t_844, t_843, tS_58, t_5, ⟨by decide +kernel, by decide +kernel, by decide +kernel⟩, rfl, by decide⟩
def s_X2_isPaired (h : IH) (th : Nat) : Option (Int32) := (gI h 2 7 (some th)).bind fun v1 => ((if v1 = (-1) then some 0 else some 1) : Option (Int32)).bind fun q3 => if q3 = 0 ∨ q3 = 1 then some q3 else none
set_option maxHeartbeats 4000000 in
set_option maxRecDepth 100000 in
theorem c_X2_isPaired {l : Launch} {D : va_G} {cy : Nat → ClassId} {sz : Nat} {h : IH} {th : Nat} {qF : Int32} (hs : s_X2_isPaired h th = some qF) : Ct l D cy yX2_isPaired cX2_isPaired 1 (some .boolean) rm_X2_isPaired h sz [.ref th] h (some (.int qF)) := by
  refine ct_start (by decide +kernel) [(0, .ref th)] (Nat.le_of_ble_eq_true rfl) rfl ?_
  intro p e s m args below meth c A H0 ls F hin hsz M hl
  obtain ⟨hx, hb, hr, hml, hown, hlk, hts, hK, hN, hA, hH⟩ := id F
  generalize s.heap = H at M ⊢
  generalize ([] : List Loc) = locs at M ⊢
  unfold s_X2_isPaired at hs
  refine lv_aload_n hx hb dX2_isPaired_0 rfl (lv_at hl 0 rfl) ?_
  obtain ⟨v1, g_v1, hs⟩ := bd hs
  refine ro_gI F M fg_2_7 t_122 g_v1 dX2_isPaired_1 ?_
  refine lv_iconst (v := (-1)) hx hb dX2_isPaired_4 (by decide) ?_
  obtain ⟨q3, hsq3, hs⟩ := bd hs
  have KJ13 : ∀ (ls : Array Slot) (H : Heap) (locs : List Loc), lv_has ls 1 [] → Mo D cy A H0 h H locs → W p l e rm_X2_isPaired s m args below meth c H locs 0 0 (MQ below (QR D cy h A (some (.int qF))) args s 0 0 A) (F0 m 13 ls [.int q3]) := by
    intro ls H locs hl M
    by_cases zg : q3 = 0 ∨ q3 = 1
    · rw [if_pos zg] at hs
      obtain rfl := Option.some.inj hs
      exact re_z F M zg dX2_isPaired_13
    · rw [if_neg zg] at hs; cases hs
  clear hs
  have hs := hsq3
  refine lv_icmp_eq (tgt := 12) hx hb dX2_isPaired_5 (by decide) (fun c2 => ?_) (fun c2 => ?_)
  · rw [if_pos c2] at hs
    refine lv_iconst (v := 0) hx hb dX2_isPaired_12 (by decide) ?_
    obtain rfl := Option.some.inj hs
    exact KJ13 _ _ _ (lv_sub hl [] rfl) M
  · rw [if_neg c2] at hs
    refine lv_iconst (v := 1) hx hb dX2_isPaired_8 (by decide) ?_
    refine lv_goto (tgt := 13) hx hb dX2_isPaired_9 (by decide) ?_
    obtain rfl := Option.some.inj hs
    exact KJ13 _ _ _ (lv_sub hl [] rfl) M
abbrev rm_J9_min_f86c9 : Room := { frames := 0, cells := 0, slots := 0, locals := 0 }
theorem mf_J9_min_f86c9 : MS yJ9_min_f86c9 cJ9_min_f86c9 4 (some .long) 2 := ⟨t_850, t_849, t_18, ⟨by decide +kernel, by decide +kernel, by decide +kernel⟩⟩
def s_J9_min_f86c9 (h : IH) (a0 : Int64) (a1 : Int64) : Option (Int64) := ((if 0 < (lg_cmp a0 a1) then some a1 else some a0) : Option (Int64)).bind fun q2 => some q2
set_option maxHeartbeats 4000000 in
set_option maxRecDepth 100000 in
theorem c_J9_min_f86c9 {l : Launch} {D : va_G} {cy : Nat → ClassId} {sz : Nat} {h : IH} {a0 : Int64} {a1 : Int64} {qF : Int64} (hs : s_J9_min_f86c9 h a0 a1 = some qF) : Ct l D cy yJ9_min_f86c9 cJ9_min_f86c9 4 (some .long) rm_J9_min_f86c9 h sz [.long a0, .long a1] h (some (.long qF)) := by
  refine ct_startF (by decide +kernel) [(0, .long a0), (2, .long a1)] (Nat.le_of_ble_eq_true rfl) rfl ?_
  intro p e s m args below meth c A H0 ls F hin hsz M hl
  obtain ⟨hx, hb, hr, hml, hown, hlk, hts, hK, hN, hA, hH⟩ := id F
  generalize s.heap = H at M ⊢
  generalize ([] : List Loc) = locs at M ⊢
  unfold s_J9_min_f86c9 at hs
  refine lv_lload_n hx hb dJ9_min_f86c9_0 rfl (lv_at hl 0 rfl) ?_
  refine lv_lload_n hx hb dJ9_min_f86c9_1 rfl (lv_at hl 1 rfl) ?_
  refine W.lcmp hx hb dJ9_min_f86c9_2 ?_
  obtain ⟨q2, hsq2, hs⟩ := bd hs
  have KJ11 : ∀ (ls : Array Slot) (H : Heap) (locs : List Loc), lv_has ls 4 [] → Mo D cy A H0 h H locs → W p l e rm_J9_min_f86c9 s m args below meth c H locs 0 0 (MQ below (QR D cy h A (some (.long qF))) args s 0 0 A) (F0 m 11 ls [.long q2]) := by
    intro ls H locs hl M
    obtain rfl := Option.some.inj hs
    exact re_l F M dJ9_min_f86c9_11
  clear hs
  have hs := hsq2
  refine lv_if_gt (tgt := 10) hx hb dJ9_min_f86c9_3 (by decide) (fun c1 => ?_) (fun c1 => ?_)
  · rw [if_pos c1] at hs
    refine lv_lload_n hx hb dJ9_min_f86c9_10 rfl (lv_at hl 1 rfl) ?_
    obtain rfl := Option.some.inj hs
    exact KJ11 _ _ _ (lv_sub hl [] rfl) M
  · rw [if_neg c1] at hs
    refine lv_lload_n hx hb dJ9_min_f86c9_6 rfl (lv_at hl 0 rfl) ?_
    refine lv_goto (tgt := 11) hx hb dJ9_min_f86c9_7 (by decide) ?_
    obtain rfl := Option.some.inj hs
    exact KJ11 _ _ _ (lv_sub hl [] rfl) M
abbrev rm_X0_earliestAnswer : Room := { frames := 1, cells := 0, slots := 0, locals := 23 }
theorem mf_X0_earliestAnswer : MV 0 yX0_earliestAnswer cX0_earliestAnswer 13 (some .long) 4 RX0 := ⟨t_840, t_839, tS_57, t_8, ⟨by decide +kernel, by decide +kernel, by decide +kernel⟩, rfl, by decide⟩
def s_X0_earliestAnswer_L26 (N : Nat) : Nat → Nat → Option Nat → Int32 → Option Nat → Option Nat → Option Nat → Int64 → Int32 → IH → Option (Int64)
  | 0, _, _, _, _, _, _, _, _, _ => none
  | n + 1, th, x1, x2, x3, x5, x6, x7, x9, h => if x5 = none then some x7 else if x6 = none then some x7 else (gI h 4 1 x6).bind fun v6 => if v6 ≤ x9 then some x7 else (cV h 4 x6 fun a27 => s_X4_contactAt h a27 x9).bind fun v8 => ((if v8 = none then some x7 else (gI h 2 6 v8).bind fun v10 => if v10 = x2 then (cV h 2 v8 fun a25 => s_X2_isPaired h a25 ).bind fun v12 => if v12 = 0 then (cV h 2 x1 fun a24 => s_X2_answersTo h a24 v8).bind fun v14 => if v14 = 0 then some x7 else (cV h 9 x3 fun a23 => s_X9_putRight h a23 v8).bind fun v16 => (cV h 9 x5 fun a22 => s_X9_putRight h a22 x1).bind fun v17 => (s_J9_abs_067f4 h (v17 - v16)).bind fun v18 => (gI h 0 3 (some th)).bind fun v19 => if 0 < (lg_cmp v18 v19.toInt64) then some x7 else (s_J9_min_f86c9 h x7 v16).bind fun v21 => some v21 else some x7 else some x7) : Option (Int64)).bind fun q26 => s_X0_earliestAnswer_L26 N n th x1 x2 x3 x5 x6 q26 (x9 + 1) h
def s_X0_earliestAnswer (N : Nat) (h : IH) (th : Nat) (a0 : Option Nat) (a1 : Int32) (a2 : Option Nat) (a3 : Int32) : Option (Int64) := (gR h 0 0 (some th)).bind fun v1 => (cV h 7 v1 fun a30 => s_X7_at h a30 a1).bind fun v2 => (cV h 9 a2 fun a29 => s_X9_logOf h a29 a3).bind fun v3 => (s_X0_earliestAnswer_L26 N N th a0 a1 a2 v2 v3 1099511627776 0 h).bind fun q28 => some q28
set_option maxHeartbeats 4000000 in
set_option maxRecDepth 100000 in
theorem w_X0_earliestAnswer_L26 {p : Program} {l : Launch} {e : Env} {s : State} {m : MethodId} {args : Array Value} {below : List Frame} {meth : Method} {c : Code} {D : va_G} {cy : Nat → ClassId} {A : Nat → Prop} {H0 : Heap} {N th : Nat} {x1 : Option Nat} {x2 : Int32} {x3 : Option Nat} {x5 : Option Nat} {x6 : Option Nat} {h : IH} {qF : Int64} (F : Fx p s m args meth c D cy A H0 yX0_earliestAnswer cX0_earliestAnswer 13 (some .long)) : ∀ (n : Nat) (x7 : Int64) (x9 : Int32) (ls : Array Slot) (H : Heap) (locs : List Loc) (q : Int64), s_X0_earliestAnswer_L26 N n th x1 x2 x3 x5 x6 x7 x9 h = some q → lv_has ls 13 [(0, .ref th), (1, va_rf x1), (2, .int x2), (3, va_rf x3), (5, va_rf x5), (6, va_rf x6), (7, .long x7), (9, .int x9)] → Mo D cy A H0 h H locs → (∀ (t : Int64) (ls : Array Slot) (H : Heap) (locs : List Loc), q = t → lv_has ls 13 [(7, .long t)] → Mo D cy A H0 h H locs → W p l e rm_X0_earliestAnswer s m args below meth c H locs 0 0 (MQ below (QR D cy h A (some (.long qF))) args s 0 0 A) (F0 m 133 ls [])) → (∀ v : Int64, False → v = qF) → W p l e rm_X0_earliestAnswer s m args below meth c H locs 0 0 (MQ below (QR D cy h A (some (.long qF))) args s 0 0 A) (F0 m 26 ls []) := by
  intro n
  induction n with
  | zero => intro x7 x9 ls H locs q hs; rw [s_X0_earliestAnswer_L26.eq_1] at hs; cases hs
  | succ n ih =>
    intro x7 x9 ls H locs q hs hl M kx kr
    obtain ⟨hx, hb, hr, hml, hown, hlk, hts, hK, hN, hA, hH⟩ := id F
    rw [s_X0_earliestAnswer_L26.eq_2] at hs
    refine lo_aload hx hb dX0_earliestAnswer_26 (lv_at hl 4 rfl) ?_
    refine lo_ifnull (tgt := 133) hx hb dX0_earliestAnswer_28 (by decide) (fun c4 => ?_) (fun c4 => ?_)
    · rw [if_pos c4] at hs
      exact kx x7 _ _ _ (Option.some.inj hs).symm (lv_sub hl [6] rfl) M
    · rw [if_neg c4] at hs
      refine lo_aload hx hb dX0_earliestAnswer_31 (lv_at hl 5 rfl) ?_
      refine lo_ifnull (tgt := 133) hx hb dX0_earliestAnswer_33 (by decide) (fun c5 => ?_) (fun c5 => ?_)
      · rw [if_pos c5] at hs
        exact kx x7 _ _ _ (Option.some.inj hs).symm (lv_sub hl [6] rfl) M
      · rw [if_neg c5] at hs
        refine lv_iload hx hb dX0_earliestAnswer_36 (lv_at hl 7 rfl) ?_
        refine lo_aload hx hb dX0_earliestAnswer_38 (lv_at hl 5 rfl) ?_
        obtain ⟨v6, g_v6, hs⟩ := bd hs
        refine ro_gIN F M fg_4_1 tN_169 g_v6 dX0_earliestAnswer_40 ?_
        refine lv_icmp_ge (tgt := 133) hx hb dX0_earliestAnswer_43 (by decide) (fun c7 => ?_) (fun c7 => ?_)
        · rw [if_pos c7] at hs
          exact kx x7 _ _ _ (Option.some.inj hs).symm (lv_sub hl [6] rfl) M
        · rw [if_neg c7] at hs
          refine lo_aload hx hb dX0_earliestAnswer_46 (lv_at hl 5 rfl) ?_
          refine lv_iload hx hb dX0_earliestAnswer_48 (lv_at hl 7 rfl) ?_
          obtain ⟨v8, g_v8, hs⟩ := bd hs
          obtain ⟨a27, e_a27, k_a27, g_v8⟩ := cV_some g_v8
          refine ca_VNa (bq := a27) (As := [.int x9]) (rest := []) F M (c_X4_contactAt g_v8) mf_X4_contactAt tN_724 k_a27 rfl ⟨by decide, by decide⟩ ⟨rfl, rfl⟩ ⟨Nat.zero_le _, Nat.zero_le _⟩ hl.1 (by rw [e_a27]; rfl) (by decide) dX0_earliestAnswer_50 (fun H locs M => ?_)
          refine lo_astore (i := 10) (lv' := [(10, va_rf v8), (0, .ref th), (1, va_rf x1), (2, .int x2), (3, va_rf x3), (5, va_rf x5), (6, va_rf x6), (7, .long x7), (9, .int x9)]) hx hb dX0_earliestAnswer_53 hl (by decide) rfl (fun ls hl => ?_)
          refine lo_aload hx hb dX0_earliestAnswer_55 (lv_at hl 0 rfl) ?_
          obtain ⟨q26, hsq26, hs⟩ := bd hs
          have KJ127 : ∀ (ls : Array Slot) (H : Heap) (locs : List Loc), lv_has ls 13 [(0, .ref th), (1, va_rf x1), (2, .int x2), (3, va_rf x3), (5, va_rf x5), (6, va_rf x6), (7, .long q26), (9, .int x9)] → Mo D cy A H0 h H locs → W p l e rm_X0_earliestAnswer s m args below meth c H locs 0 0 (MQ below (QR D cy h A (some (.long qF))) args s 0 0 A) (F0 m 127 ls []) := by
            intro ls H locs hl M
            refine lv_iinc (v := x9 + 1) (lv' := [(9, .int (x9 + 1)), (0, .ref th), (1, va_rf x1), (2, .int x2), (3, va_rf x3), (5, va_rf x5), (6, va_rf x6), (7, .long q26)]) hx hb dX0_earliestAnswer_127 hl (k := 7) rfl rfl (by decide) rfl (fun ls hl => ?_)
            refine lv_goto (tgt := 26) hx hb dX0_earliestAnswer_130 (by decide) ?_
            exact ih q26 (x9 + 1) _ _ _ _ hs (lv_sub hl [1, 2, 3, 4, 5, 6, 7, 0] rfl) M kx kr
          clear hs
          have hs := hsq26
          refine lo_ifnull (tgt := 127) hx hb dX0_earliestAnswer_57 (by decide) (fun c9 => ?_) (fun c9 => ?_)
          · rw [if_pos c9] at hs
            obtain rfl := Option.some.inj hs
            exact KJ127 _ _ _ (lv_sub hl [1, 2, 3, 4, 5, 6, 7, 8] rfl) M
          · rw [if_neg c9] at hs
            refine lo_aload hx hb dX0_earliestAnswer_60 (lv_at hl 0 rfl) ?_
            obtain ⟨v10, g_v10, hs⟩ := bd hs
            refine ro_gIN F M fg_2_6 tN_118 g_v10 dX0_earliestAnswer_62 ?_
            refine lv_iload_n hx hb dX0_earliestAnswer_65 rfl (lv_at hl 3 rfl) ?_
            refine lv_icmp_ne (tgt := 127) hx hb dX0_earliestAnswer_66 (by decide) (fun c11 => ?_) (fun c11 => ?_)
            · rw [if_neg c11] at hs
              obtain rfl := Option.some.inj hs
              exact KJ127 _ _ _ (lv_sub hl [1, 2, 3, 4, 5, 6, 7, 8] rfl) M
            · rw [if_pos c11] at hs
              refine lo_aload hx hb dX0_earliestAnswer_69 (lv_at hl 0 rfl) ?_
              obtain ⟨v12, g_v12, hs⟩ := bd hs
              obtain ⟨a25, e_a25, k_a25, g_v12⟩ := cV_some g_v12
              refine ca_VNi (bq := a25) (As := []) (rest := []) F M (c_X2_isPaired g_v12) mf_X2_isPaired tN_841 k_a25 rfl ⟨by decide, by decide⟩ ⟨rfl, rfl⟩ ⟨Nat.zero_le _, Nat.zero_le _⟩ hl.1 (by rw [e_a25]; rfl) (by decide) dX0_earliestAnswer_71 (fun H locs M => ?_)
              refine lv_if_ne (tgt := 127) hx hb dX0_earliestAnswer_74 (by decide) (fun c13 => ?_) (fun c13 => ?_)
              · rw [if_neg c13] at hs
                obtain rfl := Option.some.inj hs
                exact KJ127 _ _ _ (lv_sub hl [1, 2, 3, 4, 5, 6, 7, 8] rfl) M
              · rw [if_pos c13] at hs
                refine lo_aload_n hx hb dX0_earliestAnswer_77 rfl (lv_at hl 2 rfl) ?_
                refine lo_aload hx hb dX0_earliestAnswer_78 (lv_at hl 0 rfl) ?_
                obtain ⟨v14, g_v14, hs⟩ := bd hs
                obtain ⟨a24, e_a24, k_a24, g_v14⟩ := cV_some g_v14
                refine ca_VNi (bq := a24) (As := [va_rf v8]) (rest := []) F M (c_X2_answersTo g_v14) mf_X2_answersTo tN_845 k_a24 rfl ⟨by decide, by decide⟩ ⟨rfl, rfl⟩ ⟨Nat.zero_le _, Nat.zero_le _⟩ hl.1 (by rw [e_a24]; rfl) (by decide) dX0_earliestAnswer_80 (fun H locs M => ?_)
                refine lv_if_ne (tgt := 89) hx hb dX0_earliestAnswer_83 (by decide) (fun c15 => ?_) (fun c15 => ?_)
                · rw [if_neg c15] at hs
                  refine lo_aload_n hx hb dX0_earliestAnswer_89 rfl (lv_at hl 4 rfl) ?_
                  refine lo_aload hx hb dX0_earliestAnswer_90 (lv_at hl 0 rfl) ?_
                  obtain ⟨v16, g_v16, hs⟩ := bd hs
                  obtain ⟨a23, e_a23, k_a23, g_v16⟩ := cV_some g_v16
                  refine ca_VNl (bq := a23) (As := [va_rf v8]) (rest := []) F M (c_X9_putRight g_v16) mf_X9_putRight tN_846 k_a23 rfl ⟨by decide, by decide⟩ ⟨rfl, rfl⟩ ⟨Nat.zero_le _, Nat.zero_le _⟩ hl.1 (by rw [e_a23]; rfl) (by decide) dX0_earliestAnswer_92 (fun H locs M => ?_)
                  refine lv_lstore (i := 11) (lv' := [(11, .long v16), (10, va_rf v8), (0, .ref th), (1, va_rf x1), (2, .int x2), (3, va_rf x3), (5, va_rf x5), (6, va_rf x6), (7, .long x7), (9, .int x9)]) hx hb dX0_earliestAnswer_95 hl (by decide) (by simp [cat_rf, cat_i, cat_j, cat_r]) (fun ls hl => ?_)
                  refine lo_aload hx hb dX0_earliestAnswer_97 (lv_at hl 6 rfl) ?_
                  refine lo_aload_n hx hb dX0_earliestAnswer_99 rfl (lv_at hl 3 rfl) ?_
                  obtain ⟨v17, g_v17, hs⟩ := bd hs
                  obtain ⟨a22, e_a22, k_a22, g_v17⟩ := cV_some g_v17
                  refine ca_VNl (bq := a22) (As := [va_rf x1]) (rest := []) F M (c_X9_putRight g_v17) mf_X9_putRight tN_846 k_a22 rfl ⟨by decide, by decide⟩ ⟨rfl, rfl⟩ ⟨Nat.zero_le _, Nat.zero_le _⟩ hl.1 (by rw [e_a22]; rfl) (by decide) dX0_earliestAnswer_100 (fun H locs M => ?_)
                  refine lv_lload hx hb dX0_earliestAnswer_103 (lv_at hl 0 rfl) ?_
                  refine lv_lsub hx hb dX0_earliestAnswer_105 ?_
                  obtain ⟨v18, g_v18, hs⟩ := bd hs
                  refine ca_Sl (As := [.long (v17 - v16)]) (rest := []) F M (c_J9_abs_067f4 g_v18) mf_J9_abs_067f4 t_847 rfl ⟨by decide, by decide⟩ ⟨rfl, rfl⟩ ⟨Nat.zero_le _, Nat.zero_le _⟩ hl.1 rfl (by decide) dX0_earliestAnswer_106 (fun H locs M => ?_)
                  refine lv_aload_n hx hb dX0_earliestAnswer_109 rfl (lv_at hl 2 rfl) ?_
                  obtain ⟨v19, g_v19, hs⟩ := bd hs
                  refine ro_gI F M fg_0_3 t_298 g_v19 dX0_earliestAnswer_110 ?_
                  refine lv_i2l hx hb dX0_earliestAnswer_113 rfl ?_
                  refine W.lcmp hx hb dX0_earliestAnswer_114 ?_
                  refine lv_if_gt (tgt := 127) hx hb dX0_earliestAnswer_115 (by decide) (fun c20 => ?_) (fun c20 => ?_)
                  · rw [if_pos c20] at hs
                    obtain rfl := Option.some.inj hs
                    exact KJ127 _ _ _ (lv_sub hl [2, 3, 4, 5, 6, 7, 8, 9] rfl) M
                  · rw [if_neg c20] at hs
                    refine lv_lload hx hb dX0_earliestAnswer_118 (lv_at hl 8 rfl) ?_
                    refine lv_lload hx hb dX0_earliestAnswer_120 (lv_at hl 0 rfl) ?_
                    obtain ⟨v21, g_v21, hs⟩ := bd hs
                    refine ca_Sl (As := [.long x7, .long v16]) (rest := []) F M (c_J9_min_f86c9 g_v21) mf_J9_min_f86c9 t_848 rfl ⟨by decide, by decide⟩ ⟨rfl, rfl⟩ ⟨Nat.zero_le _, Nat.zero_le _⟩ hl.1 rfl (by decide) dX0_earliestAnswer_122 (fun H locs M => ?_)
                    refine lv_lstore (i := 7) (lv' := [(7, .long v21), (11, .long v16), (10, va_rf v8), (0, .ref th), (1, va_rf x1), (2, .int x2), (3, va_rf x3), (5, va_rf x5), (6, va_rf x6), (9, .int x9)]) hx hb dX0_earliestAnswer_125 hl (by decide) (by simp [cat_rf, cat_i, cat_j, cat_r]) (fun ls hl => ?_)
                    obtain rfl := Option.some.inj hs
                    exact KJ127 _ _ _ (lv_sub hl [3, 4, 5, 6, 7, 8, 0, 9] rfl) M
                · rw [if_pos c15] at hs
                  refine lv_goto (tgt := 127) hx hb dX0_earliestAnswer_86 (by decide) ?_
                  obtain rfl := Option.some.inj hs
                  exact KJ127 _ _ _ (lv_sub hl [1, 2, 3, 4, 5, 6, 7, 8] rfl) M
set_option maxHeartbeats 4000000 in
set_option maxRecDepth 100000 in
theorem c_X0_earliestAnswer {l : Launch} {D : va_G} {cy : Nat → ClassId} {sz N : Nat} {h : IH} {th : Nat} {a0 : Option Nat} {a1 : Int32} {a2 : Option Nat} {a3 : Int32} {qF : Int64} (hs : s_X0_earliestAnswer N h th a0 a1 a2 a3 = some qF) : Ct l D cy yX0_earliestAnswer cX0_earliestAnswer 13 (some .long) rm_X0_earliestAnswer h sz [.ref th, va_rf a0, .int a1, va_rf a2, .int a3] h (some (.long qF)) := by
  refine ct_start (by decide +kernel) [(0, .ref th), (1, va_rf a0), (2, .int a1), (3, va_rf a2), (4, .int a3)] (by simp [lg_sl, cat_rf, cat_i, cat_j, cat_r]) (by simp [lv_args, cat_rf, cat_i, cat_j, cat_r]) ?_
  intro p e s m args below meth c A H0 ls F hin hsz M hl
  obtain ⟨hx, hb, hr, hml, hown, hlk, hts, hK, hN, hA, hH⟩ := id F
  generalize s.heap = H at M ⊢
  generalize ([] : List Loc) = locs at M ⊢
  unfold s_X0_earliestAnswer at hs
  refine lv_aload_n hx hb dX0_earliestAnswer_0 rfl (lv_at hl 0 rfl) ?_
  obtain ⟨v1, g_v1, hs⟩ := bd hs
  refine ro_gR F M fg_0_0 t_295 g_v1 dX0_earliestAnswer_1 ?_
  refine lv_iload_n hx hb dX0_earliestAnswer_4 rfl (lv_at hl 2 rfl) ?_
  obtain ⟨v2, g_v2, hs⟩ := bd hs
  obtain ⟨a30, e_a30, k_a30, g_v2⟩ := cV_some g_v2
  refine ca_VNa (bq := a30) (As := [.int a1]) (rest := []) F M (c_X7_at g_v2) mf_X7_at tN_722 k_a30 rfl ⟨by decide, by decide⟩ ⟨rfl, rfl⟩ ⟨Nat.zero_le _, Nat.zero_le _⟩ hl.1 (by rw [e_a30]; rfl) (by decide) dX0_earliestAnswer_5 (fun H locs M => ?_)
  refine lo_astore (i := 5) (lv' := [(5, va_rf v2), (0, .ref th), (1, va_rf a0), (2, .int a1), (3, va_rf a2), (4, .int a3)]) hx hb dX0_earliestAnswer_8 hl (by decide) rfl (fun ls hl => ?_)
  refine lo_aload_n hx hb dX0_earliestAnswer_10 rfl (lv_at hl 4 rfl) ?_
  refine lv_iload hx hb dX0_earliestAnswer_11 (lv_at hl 5 rfl) ?_
  obtain ⟨v3, g_v3, hs⟩ := bd hs
  obtain ⟨a29, e_a29, k_a29, g_v3⟩ := cV_some g_v3
  refine ca_VNa (bq := a29) (As := [.int a3]) (rest := []) F M (c_X9_logOf g_v3) mf_X9_logOf tN_723 k_a29 rfl ⟨by decide, by decide⟩ ⟨rfl, rfl⟩ ⟨Nat.zero_le _, Nat.zero_le _⟩ hl.1 (by rw [e_a29]; rfl) (by decide) dX0_earliestAnswer_13 (fun H locs M => ?_)
  refine lo_astore (i := 6) (lv' := [(6, va_rf v3), (5, va_rf v2), (0, .ref th), (1, va_rf a0), (2, .int a1), (3, va_rf a2), (4, .int a3)]) hx hb dX0_earliestAnswer_16 hl (by decide) (by simp [cat_rf, cat_i, cat_j, cat_r]) (fun ls hl => ?_)
  refine lv_ldc2 (v := 1099511627776) hx hb hown (hts _ (List.mem_cons_of_mem _ t_831)) dX0_earliestAnswer_18 ?_
  refine lv_lstore (i := 7) (lv' := [(7, .long 1099511627776), (6, va_rf v3), (5, va_rf v2), (0, .ref th), (1, va_rf a0), (2, .int a1), (3, va_rf a2), (4, .int a3)]) hx hb dX0_earliestAnswer_21 hl (by decide) (by simp [cat_rf, cat_i, cat_j, cat_r]) (fun ls hl => ?_)
  refine lv_iconst (v := 0) hx hb dX0_earliestAnswer_23 (by decide) ?_
  refine lv_istore (i := 9) (lv' := [(9, .int 0), (7, .long 1099511627776), (6, va_rf v3), (5, va_rf v2), (0, .ref th), (1, va_rf a0), (2, .int a1), (3, va_rf a2), (4, .int a3)]) hx hb dX0_earliestAnswer_24 hl (by decide) rfl (fun ls hl => ?_)
  obtain ⟨q28, g_q28, hs⟩ := bd hs
  refine w_X0_earliestAnswer_L26 F N 1099511627776 0 _ _ _ q28 g_q28 (lv_sub hl [4, 5, 6, 7, 3, 2, 1, 0] rfl) M (fun t_ ls H locs eq_ hl M => ?_) (fun v eq_ => eq_.elim)
  subst eq_
  refine lv_lload hx hb dX0_earliestAnswer_133 (lv_at hl 0 rfl) ?_
  obtain rfl := Option.some.inj hs
  exact re_l F M dX0_earliestAnswer_135
abbrev rm_X0_stationMeant : Room := { frames := 2, cells := 0, slots := 0, locals := 55 }
theorem mf_X0_stationMeant : MV 0 yX0_stationMeant cX0_stationMeant 11 (some .int) 3 RX0 := ⟨t_830, t_829, tS_55, t_8, ⟨by decide +kernel, by decide +kernel, by decide +kernel⟩, rfl, by decide⟩
def s_X0_stationMeant_L11 (N : Nat) : Nat → Nat → Option Nat → Int32 → Int32 → Int32 → Int64 → Int32 → IH → Option (Int32)
  | 0, _, _, _, _, _, _, _, _ => none
  | n + 1, th, x1, x2, x3, x4, x5, x7, h => (gR h 0 0 (some th)).bind fun v1 => (gI h 7 1 v1).bind fun v2 => if v2 ≤ x7 then some x4 else (gR h 0 0 (some th)).bind fun v4 => (cV h 7 v4 fun a16 => s_X7_at h a16 x7).bind fun v5 => ((if x7 = x2 then some (x4, x5) else if v5 = none then some (x4, x5) else (gL h 9 4 v5).bind fun v8 => (cV h 2 x1 fun a14 => s_X2_isMisheardFrom N h a14 v8).bind fun v9 => if v9 = 0 then some (x4, x5) else (cV h 0 (some th) fun a13 => s_X0_earliestAnswer N h a13 x1 x2 v5 x3).bind fun v11 => if 0 ≤ (lg_cmp v11 x5) then some (x4, x5) else some (x7, v11)) : Option (Int32 × Int64)).bind fun q15 => s_X0_stationMeant_L11 N n th x1 x2 x3 q15.1 q15.2 (x7 + 1) h
def s_X0_stationMeant (N : Nat) (h : IH) (th : Nat) (a0 : Option Nat) (a1 : Int32) (a2 : Int32) : Option (Int32) := (s_X0_stationMeant_L11 N N th a0 a1 a2 (-1) 1099511627776 0 h).bind fun q17 => some q17
set_option maxHeartbeats 4000000 in
set_option maxRecDepth 100000 in
theorem w_X0_stationMeant_L11 {p : Program} {l : Launch} {e : Env} {s : State} {m : MethodId} {args : Array Value} {below : List Frame} {meth : Method} {c : Code} {D : va_G} {cy : Nat → ClassId} {A : Nat → Prop} {H0 : Heap} {N th : Nat} {x1 : Option Nat} {x2 : Int32} {x3 : Int32} {h : IH} {qF : Int32} (F : Fx p s m args meth c D cy A H0 yX0_stationMeant cX0_stationMeant 11 (some .int)) : ∀ (n : Nat) (x4 : Int32) (x5 : Int64) (x7 : Int32) (ls : Array Slot) (H : Heap) (locs : List Loc) (q : Int32), s_X0_stationMeant_L11 N n th x1 x2 x3 x4 x5 x7 h = some q → lv_has ls 11 [(0, .ref th), (1, va_rf x1), (2, .int x2), (3, .int x3), (4, .int x4), (5, .long x5), (7, .int x7)] → Mo D cy A H0 h H locs → (∀ (t : Int32) (ls : Array Slot) (H : Heap) (locs : List Loc), q = t → lv_has ls 11 [(4, .int t)] → Mo D cy A H0 h H locs → W p l e rm_X0_stationMeant s m args below meth c H locs 0 0 (MQ below (QR D cy h A (some (.int qF))) args s 0 0 A) (F0 m 93 ls [])) → (∀ v : Int32, False → v = qF) → W p l e rm_X0_stationMeant s m args below meth c H locs 0 0 (MQ below (QR D cy h A (some (.int qF))) args s 0 0 A) (F0 m 11 ls []) := by
  intro n
  induction n with
  | zero => intro x4 x5 x7 ls H locs q hs; rw [s_X0_stationMeant_L11.eq_1] at hs; cases hs
  | succ n ih =>
    intro x4 x5 x7 ls H locs q hs hl M kx kr
    obtain ⟨hx, hb, hr, hml, hown, hlk, hts, hK, hN, hA, hH⟩ := id F
    rw [s_X0_stationMeant_L11.eq_2] at hs
    refine lv_iload hx hb dX0_stationMeant_11 (lv_at hl 6 rfl) ?_
    refine lv_aload_n hx hb dX0_stationMeant_13 rfl (lv_at hl 0 rfl) ?_
    obtain ⟨v1, g_v1, hs⟩ := bd hs
    refine ro_gR F M fg_0_0 t_295 g_v1 dX0_stationMeant_14 ?_
    obtain ⟨v2, g_v2, hs⟩ := bd hs
    refine ro_gIN F M fg_7_1 tN_71 g_v2 dX0_stationMeant_17 ?_
    refine lv_icmp_ge (tgt := 93) hx hb dX0_stationMeant_20 (by decide) (fun c3 => ?_) (fun c3 => ?_)
    · rw [if_pos c3] at hs
      exact kx x4 _ _ _ (Option.some.inj hs).symm (lv_sub hl [4] rfl) M
    · rw [if_neg c3] at hs
      refine lv_aload_n hx hb dX0_stationMeant_23 rfl (lv_at hl 0 rfl) ?_
      obtain ⟨v4, g_v4, hs⟩ := bd hs
      refine ro_gR F M fg_0_0 t_295 g_v4 dX0_stationMeant_24 ?_
      refine lv_iload hx hb dX0_stationMeant_27 (lv_at hl 6 rfl) ?_
      obtain ⟨v5, g_v5, hs⟩ := bd hs
      obtain ⟨a16, e_a16, k_a16, g_v5⟩ := cV_some g_v5
      refine ca_VNa (bq := a16) (As := [.int x7]) (rest := []) F M (c_X7_at g_v5) mf_X7_at tN_722 k_a16 rfl ⟨by decide, by decide⟩ ⟨rfl, rfl⟩ ⟨Nat.zero_le _, Nat.zero_le _⟩ hl.1 (by rw [e_a16]; rfl) (by decide) dX0_stationMeant_29 (fun H locs M => ?_)
      refine lo_astore (i := 8) (lv' := [(8, va_rf v5), (0, .ref th), (1, va_rf x1), (2, .int x2), (3, .int x3), (4, .int x4), (5, .long x5), (7, .int x7)]) hx hb dX0_stationMeant_32 hl (by decide) rfl (fun ls hl => ?_)
      refine lv_iload hx hb dX0_stationMeant_34 (lv_at hl 7 rfl) ?_
      refine lv_iload_n hx hb dX0_stationMeant_36 rfl (lv_at hl 3 rfl) ?_
      obtain ⟨q15, hsq15, hs⟩ := bd hs
      have KJ87 : ∀ (ls : Array Slot) (H : Heap) (locs : List Loc), lv_has ls 11 [(0, .ref th), (1, va_rf x1), (2, .int x2), (3, .int x3), (4, .int q15.1), (5, .long q15.2), (7, .int x7)] → Mo D cy A H0 h H locs → W p l e rm_X0_stationMeant s m args below meth c H locs 0 0 (MQ below (QR D cy h A (some (.int qF))) args s 0 0 A) (F0 m 87 ls []) := by
        intro ls H locs hl M
        refine lv_iinc (v := x7 + 1) (lv' := [(7, .int (x7 + 1)), (0, .ref th), (1, va_rf x1), (2, .int x2), (3, .int x3), (4, .int q15.1), (5, .long q15.2)]) hx hb dX0_stationMeant_87 hl (k := 6) rfl rfl (by decide) rfl (fun ls hl => ?_)
        refine lv_goto (tgt := 11) hx hb dX0_stationMeant_90 (by decide) ?_
        exact ih q15.1 q15.2 (x7 + 1) _ _ _ _ hs (lv_sub hl [1, 2, 3, 4, 5, 6, 0] rfl) M kx kr
      clear hs
      have hs := hsq15
      refine lv_icmp_eq (tgt := 87) hx hb dX0_stationMeant_37 (by decide) (fun c6 => ?_) (fun c6 => ?_)
      · rw [if_pos c6] at hs
        obtain rfl := Option.some.inj hs
        exact KJ87 _ _ _ (lv_sub hl [1, 2, 3, 4, 5, 6, 7] rfl) M
      · rw [if_neg c6] at hs
        refine lo_aload hx hb dX0_stationMeant_40 (lv_at hl 0 rfl) ?_
        refine lo_ifnull (tgt := 87) hx hb dX0_stationMeant_42 (by decide) (fun c7 => ?_) (fun c7 => ?_)
        · rw [if_pos c7] at hs
          obtain rfl := Option.some.inj hs
          exact KJ87 _ _ _ (lv_sub hl [1, 2, 3, 4, 5, 6, 7] rfl) M
        · rw [if_neg c7] at hs
          refine lo_aload_n hx hb dX0_stationMeant_45 rfl (lv_at hl 2 rfl) ?_
          refine lo_aload hx hb dX0_stationMeant_46 (lv_at hl 0 rfl) ?_
          obtain ⟨v8, g_v8, hs⟩ := bd hs
          refine ro_gLN F M fg_9_4 tN_431 g_v8 dX0_stationMeant_48 ?_
          obtain ⟨v9, g_v9, hs⟩ := bd hs
          obtain ⟨a14, e_a14, k_a14, g_v9⟩ := cV_some g_v9
          refine ca_VNi (bq := a14) (As := [.long v8]) (rest := []) F M (c_X2_isMisheardFrom g_v9) mf_X2_isMisheardFrom tN_832 k_a14 rfl ⟨by decide, by decide⟩ ⟨rfl, rfl⟩ ⟨Nat.zero_le _, Nat.zero_le _⟩ hl.1 (by rw [e_a14]; rfl) (by decide) dX0_stationMeant_51 (fun H locs M => ?_)
          refine lv_if_ne (tgt := 60) hx hb dX0_stationMeant_54 (by decide) (fun c10 => ?_) (fun c10 => ?_)
          · rw [if_neg c10] at hs
            refine lv_aload_n hx hb dX0_stationMeant_60 rfl (lv_at hl 1 rfl) ?_
            refine lo_aload_n hx hb dX0_stationMeant_61 rfl (lv_at hl 2 rfl) ?_
            refine lv_iload_n hx hb dX0_stationMeant_62 rfl (lv_at hl 3 rfl) ?_
            refine lo_aload hx hb dX0_stationMeant_63 (lv_at hl 0 rfl) ?_
            refine lv_iload_n hx hb dX0_stationMeant_65 rfl (lv_at hl 4 rfl) ?_
            obtain ⟨v11, g_v11, hs⟩ := bd hs
            obtain ⟨a13, e_a13, k_a13, g_v11⟩ := cV_some g_v11
            obtain rfl := Option.some.inj e_a13
            refine ca_Vl (bq := th) (As := [va_rf x1, .int x2, va_rf v5, .int x3]) (rest := []) F M (c_X0_earliestAnswer g_v11) mf_X0_earliestAnswer t_837 k_a13 rfl ⟨by decide, by decide⟩ ⟨rfl, rfl⟩ ⟨Nat.zero_le _, Nat.zero_le _⟩ hl.1 rfl (by decide) dX0_stationMeant_66 (fun H locs M => ?_)
            refine lv_lstore (i := 9) (lv' := [(9, .long v11), (8, va_rf v5), (0, .ref th), (1, va_rf x1), (2, .int x2), (3, .int x3), (4, .int x4), (5, .long x5), (7, .int x7)]) hx hb dX0_stationMeant_69 hl (by decide) (by simp [cat_rf, cat_i, cat_j, cat_r]) (fun ls hl => ?_)
            refine lv_lload hx hb dX0_stationMeant_71 (lv_at hl 0 rfl) ?_
            refine lv_lload hx hb dX0_stationMeant_73 (lv_at hl 7 rfl) ?_
            refine W.lcmp hx hb dX0_stationMeant_75 ?_
            refine lv_if_ge (tgt := 87) hx hb dX0_stationMeant_76 (by decide) (fun c12 => ?_) (fun c12 => ?_)
            · rw [if_pos c12] at hs
              obtain rfl := Option.some.inj hs
              exact KJ87 _ _ _ (lv_sub hl [2, 3, 4, 5, 6, 7, 8] rfl) M
            · rw [if_neg c12] at hs
              refine lv_lload hx hb dX0_stationMeant_79 (lv_at hl 0 rfl) ?_
              refine lv_lstore (i := 5) (lv' := [(5, .long v11), (9, .long v11), (8, va_rf v5), (0, .ref th), (1, va_rf x1), (2, .int x2), (3, .int x3), (4, .int x4), (7, .int x7)]) hx hb dX0_stationMeant_81 hl (by decide) rfl (fun ls hl => ?_)
              refine lv_iload hx hb dX0_stationMeant_83 (lv_at hl 8 rfl) ?_
              refine lv_istore (i := 4) (lv' := [(4, .int x7), (5, .long v11), (9, .long v11), (8, va_rf v5), (0, .ref th), (1, va_rf x1), (2, .int x2), (3, .int x3), (7, .int x7)]) hx hb dX0_stationMeant_85 hl (by decide) rfl (fun ls hl => ?_)
              obtain rfl := Option.some.inj hs
              exact KJ87 _ _ _ (lv_sub hl [4, 5, 6, 7, 0, 1, 8] rfl) M
          · rw [if_pos c10] at hs
            refine lv_goto (tgt := 87) hx hb dX0_stationMeant_57 (by decide) ?_
            obtain rfl := Option.some.inj hs
            exact KJ87 _ _ _ (lv_sub hl [1, 2, 3, 4, 5, 6, 7] rfl) M
set_option maxHeartbeats 4000000 in
set_option maxRecDepth 100000 in
theorem c_X0_stationMeant {l : Launch} {D : va_G} {cy : Nat → ClassId} {sz N : Nat} {h : IH} {th : Nat} {a0 : Option Nat} {a1 : Int32} {a2 : Int32} {qF : Int32} (hs : s_X0_stationMeant N h th a0 a1 a2 = some qF) : Ct l D cy yX0_stationMeant cX0_stationMeant 11 (some .int) rm_X0_stationMeant h sz [.ref th, va_rf a0, .int a1, .int a2] h (some (.int qF)) := by
  refine ct_start (by decide +kernel) [(0, .ref th), (1, va_rf a0), (2, .int a1), (3, .int a2)] (by simp [lg_sl, cat_rf, cat_i, cat_j, cat_r]) (by simp [lv_args, cat_rf, cat_i, cat_j, cat_r]) ?_
  intro p e s m args below meth c A H0 ls F hin hsz M hl
  obtain ⟨hx, hb, hr, hml, hown, hlk, hts, hK, hN, hA, hH⟩ := id F
  generalize s.heap = H at M ⊢
  generalize ([] : List Loc) = locs at M ⊢
  unfold s_X0_stationMeant at hs
  refine lv_iconst (v := (-1)) hx hb dX0_stationMeant_0 (by decide) ?_
  refine lv_istore (i := 4) (lv' := [(4, .int (-1)), (0, .ref th), (1, va_rf a0), (2, .int a1), (3, .int a2)]) hx hb dX0_stationMeant_1 hl (by decide) rfl (fun ls hl => ?_)
  refine lv_ldc2 (v := 1099511627776) hx hb hown (hts _ (List.mem_cons_of_mem _ t_831)) dX0_stationMeant_3 ?_
  refine lv_lstore (i := 5) (lv' := [(5, .long 1099511627776), (4, .int (-1)), (0, .ref th), (1, va_rf a0), (2, .int a1), (3, .int a2)]) hx hb dX0_stationMeant_6 hl (by decide) rfl (fun ls hl => ?_)
  refine lv_iconst (v := 0) hx hb dX0_stationMeant_8 (by decide) ?_
  refine lv_istore (i := 7) (lv' := [(7, .int 0), (5, .long 1099511627776), (4, .int (-1)), (0, .ref th), (1, va_rf a0), (2, .int a1), (3, .int a2)]) hx hb dX0_stationMeant_9 hl (by decide) rfl (fun ls hl => ?_)
  obtain ⟨q17, g_q17, hs⟩ := bd hs
  refine w_X0_stationMeant_L11 F N (-1) 1099511627776 0 _ _ _ q17 g_q17 (lv_sub hl [3, 4, 5, 6, 2, 1, 0] rfl) M (fun t_ ls H locs eq_ hl M => ?_) (fun v eq_ => eq_.elim)
  subst eq_
  refine lv_iload hx hb dX0_stationMeant_93 (lv_at hl 0 rfl) ?_
  obtain rfl := Option.some.inj hs
  exact re_i F M dX0_stationMeant_95
abbrev rm_X0_isDupe : Room := { frames := 1, cells := 0, slots := 0, locals := 21 }
theorem mf_X0_isDupe : MS yX0_isDupe cX0_isDupe 5 (some .boolean) 3 := ⟨t_853, t_852, t_8, ⟨by decide +kernel, by decide +kernel, by decide +kernel⟩⟩
def s_X0_isDupe_L2 (N : Nat) : Nat → Option Nat → Option Nat → Int32 → Int32 → IH → Option ((Int32) ⊕ (Unit))
  | 0, _, _, _, _, _ => none
  | n + 1, x0, x1, x2, x3, h => (gI h 4 1 x1).bind fun v1 => if v1 ≤ x3 then some (.inr ()) else (cV h 4 x1 fun a15 => s_X4_contactAt h a15 x3).bind fun v3 => if v3 = none then s_X0_isDupe_L2 N n x0 x1 x2 (x3 + 1) h else (gI h 2 7 v3).bind fun v5 => (gI h 2 7 x0).bind fun v6 => if v5 = v6 then (gL h 2 1 v3).bind fun v8 => (gL h 2 1 x0).bind fun v9 => if (lg_cmp v8 v9) < 0 then some (.inl 1) else (gL h 2 1 v3).bind fun v11 => (gL h 2 1 x0).bind fun v12 => if (lg_cmp v11 v12) = 0 then if x2 ≤ x3 then s_X0_isDupe_L2 N n x0 x1 x2 (x3 + 1) h else some (.inl 1) else s_X0_isDupe_L2 N n x0 x1 x2 (x3 + 1) h else s_X0_isDupe_L2 N n x0 x1 x2 (x3 + 1) h
def s_X0_isDupe (N : Nat) (h : IH) (a0 : Option Nat) (a1 : Option Nat) (a2 : Int32) : Option (Int32) := (s_X0_isDupe_L2 N N a0 a1 a2 0 h).bind fun q16 => Sum.elim (fun v => some v) (fun t17 => some 0) q16
set_option maxHeartbeats 4000000 in
set_option maxRecDepth 100000 in
theorem w_X0_isDupe_L2 {p : Program} {l : Launch} {e : Env} {s : State} {m : MethodId} {args : Array Value} {below : List Frame} {meth : Method} {c : Code} {D : va_G} {cy : Nat → ClassId} {A : Nat → Prop} {H0 : Heap} {N : Nat} {x0 : Option Nat} {x1 : Option Nat} {x2 : Int32} {h : IH} {qF : Int32} (F : Fx p s m args meth c D cy A H0 yX0_isDupe cX0_isDupe 5 (some .boolean)) : ∀ (n : Nat) (x3 : Int32) (ls : Array Slot) (H : Heap) (locs : List Loc) (q : (Int32) ⊕ (Unit)), s_X0_isDupe_L2 N n x0 x1 x2 x3 h = some q → lv_has ls 5 [(0, va_rf x0), (1, va_rf x1), (2, .int x2), (3, .int x3)] → Mo D cy A H0 h H locs → (∀ (t : Unit) (ls : Array Slot) (H : Heap) (locs : List Loc), q = .inr t → lv_has ls 5 [] → Mo D cy A H0 h H locs → W p l e rm_X0_isDupe s m args below meth c H locs 0 0 (MQ below (QR D cy h A (some (.int qF))) args s 0 0 A) (F0 m 76 ls [])) → (∀ v, q = .inl v → v = qF) → W p l e rm_X0_isDupe s m args below meth c H locs 0 0 (MQ below (QR D cy h A (some (.int qF))) args s 0 0 A) (F0 m 2 ls []) := by
  intro n
  induction n with
  | zero => intro x3 ls H locs q hs; rw [s_X0_isDupe_L2.eq_1] at hs; cases hs
  | succ n ih =>
    intro x3 ls H locs q hs hl M kx kr
    obtain ⟨hx, hb, hr, hml, hown, hlk, hts, hK, hN, hA, hH⟩ := id F
    rw [s_X0_isDupe_L2.eq_2] at hs
    refine lv_iload_n hx hb dX0_isDupe_2 rfl (lv_at hl 3 rfl) ?_
    refine lo_aload_n hx hb dX0_isDupe_3 rfl (lv_at hl 1 rfl) ?_
    obtain ⟨v1, g_v1, hs⟩ := bd hs
    refine ro_gIN F M fg_4_1 tN_169 g_v1 dX0_isDupe_4 ?_
    refine lv_icmp_ge (tgt := 76) hx hb dX0_isDupe_7 (by decide) (fun c2 => ?_) (fun c2 => ?_)
    · rw [if_pos c2] at hs
      exact kx () _ _ _ (Option.some.inj hs).symm (lv_sub hl [] rfl) M
    · rw [if_neg c2] at hs
      refine lo_aload_n hx hb dX0_isDupe_10 rfl (lv_at hl 1 rfl) ?_
      refine lv_iload_n hx hb dX0_isDupe_11 rfl (lv_at hl 3 rfl) ?_
      obtain ⟨v3, g_v3, hs⟩ := bd hs
      obtain ⟨a15, e_a15, k_a15, g_v3⟩ := cV_some g_v3
      refine ca_VNa (bq := a15) (As := [.int x3]) (rest := []) F M (c_X4_contactAt g_v3) mf_X4_contactAt tN_724 k_a15 rfl ⟨by decide, by decide⟩ ⟨rfl, rfl⟩ ⟨Nat.zero_le _, Nat.zero_le _⟩ hl.1 (by rw [e_a15]; rfl) (by decide) dX0_isDupe_12 (fun H locs M => ?_)
      refine lo_astore (i := 4) (lv' := [(4, va_rf v3), (0, va_rf x0), (1, va_rf x1), (2, .int x2), (3, .int x3)]) hx hb dX0_isDupe_15 hl (by decide) rfl (fun ls hl => ?_)
      refine lo_aload hx hb dX0_isDupe_17 (lv_at hl 0 rfl) ?_
      refine lo_ifnull (tgt := 70) hx hb dX0_isDupe_19 (by decide) (fun c4 => ?_) (fun c4 => ?_)
      · rw [if_pos c4] at hs
        refine lv_iinc (v := x3 + 1) (lv' := [(3, .int (x3 + 1)), (4, va_rf v3), (0, va_rf x0), (1, va_rf x1), (2, .int x2)]) hx hb dX0_isDupe_70 hl (k := 4) rfl rfl (by decide) rfl (fun ls hl => ?_)
        refine lv_goto (tgt := 2) hx hb dX0_isDupe_73 (by decide) ?_
        exact ih (x3 + 1) _ _ _ _ hs (lv_sub hl [2, 3, 4, 0] rfl) M kx kr
      · rw [if_neg c4] at hs
        refine lo_aload hx hb dX0_isDupe_22 (lv_at hl 0 rfl) ?_
        obtain ⟨v5, g_v5, hs⟩ := bd hs
        refine ro_gIN F M fg_2_7 tN_123 g_v5 dX0_isDupe_24 ?_
        refine lo_aload_n hx hb dX0_isDupe_27 rfl (lv_at hl 1 rfl) ?_
        obtain ⟨v6, g_v6, hs⟩ := bd hs
        refine ro_gIN F M fg_2_7 tN_123 g_v6 dX0_isDupe_28 ?_
        refine lv_icmp_eq (tgt := 37) hx hb dX0_isDupe_31 (by decide) (fun c7 => ?_) (fun c7 => ?_)
        · rw [if_pos c7] at hs
          refine lo_aload hx hb dX0_isDupe_37 (lv_at hl 0 rfl) ?_
          obtain ⟨v8, g_v8, hs⟩ := bd hs
          refine ro_gLN F M fg_2_1 tN_99 g_v8 dX0_isDupe_39 ?_
          refine lo_aload_n hx hb dX0_isDupe_42 rfl (lv_at hl 1 rfl) ?_
          obtain ⟨v9, g_v9, hs⟩ := bd hs
          refine ro_gLN F M fg_2_1 tN_99 g_v9 dX0_isDupe_43 ?_
          refine W.lcmp hx hb dX0_isDupe_46 ?_
          refine lv_if_lt (tgt := 68) hx hb dX0_isDupe_47 (by decide) (fun c10 => ?_) (fun c10 => ?_)
          · rw [if_pos c10] at hs
            refine lv_iconst (v := 1) hx hb dX0_isDupe_68 (by decide) ?_
            obtain rfl := kr _ (Option.some.inj hs).symm
            exact re_z F M (Or.inr rfl) dX0_isDupe_69
          · rw [if_neg c10] at hs
            refine lo_aload hx hb dX0_isDupe_50 (lv_at hl 0 rfl) ?_
            obtain ⟨v11, g_v11, hs⟩ := bd hs
            refine ro_gLN F M fg_2_1 tN_99 g_v11 dX0_isDupe_52 ?_
            refine lo_aload_n hx hb dX0_isDupe_55 rfl (lv_at hl 1 rfl) ?_
            obtain ⟨v12, g_v12, hs⟩ := bd hs
            refine ro_gLN F M fg_2_1 tN_99 g_v12 dX0_isDupe_56 ?_
            refine W.lcmp hx hb dX0_isDupe_59 ?_
            refine lv_if_ne (tgt := 70) hx hb dX0_isDupe_60 (by decide) (fun c13 => ?_) (fun c13 => ?_)
            · rw [if_neg c13] at hs
              refine lv_iinc (v := x3 + 1) (lv' := [(3, .int (x3 + 1)), (4, va_rf v3), (0, va_rf x0), (1, va_rf x1), (2, .int x2)]) hx hb dX0_isDupe_70 hl (k := 4) rfl rfl (by decide) rfl (fun ls hl => ?_)
              refine lv_goto (tgt := 2) hx hb dX0_isDupe_73 (by decide) ?_
              exact ih (x3 + 1) _ _ _ _ hs (lv_sub hl [2, 3, 4, 0] rfl) M kx kr
            · rw [if_pos c13] at hs
              refine lv_iload_n hx hb dX0_isDupe_63 rfl (lv_at hl 4 rfl) ?_
              refine lv_iload_n hx hb dX0_isDupe_64 rfl (lv_at hl 3 rfl) ?_
              refine lv_icmp_ge (tgt := 70) hx hb dX0_isDupe_65 (by decide) (fun c14 => ?_) (fun c14 => ?_)
              · rw [if_pos c14] at hs
                refine lv_iinc (v := x3 + 1) (lv' := [(3, .int (x3 + 1)), (4, va_rf v3), (0, va_rf x0), (1, va_rf x1), (2, .int x2)]) hx hb dX0_isDupe_70 hl (k := 4) rfl rfl (by decide) rfl (fun ls hl => ?_)
                refine lv_goto (tgt := 2) hx hb dX0_isDupe_73 (by decide) ?_
                exact ih (x3 + 1) _ _ _ _ hs (lv_sub hl [2, 3, 4, 0] rfl) M kx kr
              · rw [if_neg c14] at hs
                refine lv_iconst (v := 1) hx hb dX0_isDupe_68 (by decide) ?_
                obtain rfl := kr _ (Option.some.inj hs).symm
                exact re_z F M (Or.inr rfl) dX0_isDupe_69
        · rw [if_neg c7] at hs
          refine lv_goto (tgt := 70) hx hb dX0_isDupe_34 (by decide) ?_
          refine lv_iinc (v := x3 + 1) (lv' := [(3, .int (x3 + 1)), (4, va_rf v3), (0, va_rf x0), (1, va_rf x1), (2, .int x2)]) hx hb dX0_isDupe_70 hl (k := 4) rfl rfl (by decide) rfl (fun ls hl => ?_)
          refine lv_goto (tgt := 2) hx hb dX0_isDupe_73 (by decide) ?_
          exact ih (x3 + 1) _ _ _ _ hs (lv_sub hl [2, 3, 4, 0] rfl) M kx kr
set_option maxHeartbeats 4000000 in
set_option maxRecDepth 100000 in
theorem c_X0_isDupe {l : Launch} {D : va_G} {cy : Nat → ClassId} {sz N : Nat} {h : IH} {a0 : Option Nat} {a1 : Option Nat} {a2 : Int32} {qF : Int32} (hs : s_X0_isDupe N h a0 a1 a2 = some qF) : Ct l D cy yX0_isDupe cX0_isDupe 5 (some .boolean) rm_X0_isDupe h sz [va_rf a0, va_rf a1, .int a2] h (some (.int qF)) := by
  refine ct_start (by decide +kernel) [(0, va_rf a0), (1, va_rf a1), (2, .int a2)] (by simp [lg_sl, cat_rf, cat_i, cat_j, cat_r]) (by simp [lv_args, cat_rf, cat_i, cat_j, cat_r]) ?_
  intro p e s m args below meth c A H0 ls F hin hsz M hl
  obtain ⟨hx, hb, hr, hml, hown, hlk, hts, hK, hN, hA, hH⟩ := id F
  generalize s.heap = H at M ⊢
  generalize ([] : List Loc) = locs at M ⊢
  unfold s_X0_isDupe at hs
  refine lv_iconst (v := 0) hx hb dX0_isDupe_0 (by decide) ?_
  refine lv_istore_n (i := 3) (lv' := [(3, .int 0), (0, va_rf a0), (1, va_rf a1), (2, .int a2)]) hx hb dX0_isDupe_1 rfl hl (by decide) rfl (fun ls hl => ?_)
  obtain ⟨q16, g_q16, hs⟩ := bd hs
  refine w_X0_isDupe_L2 F N 0 _ _ _ q16 g_q16 (lv_sub hl [1, 2, 3, 0] rfl) M (fun t17 ls H locs eq_ hl M => ?_) (fun v eq_ => ?_)
  · subst eq_
    have hs := se_r hs
    refine lv_iconst (v := 0) hx hb dX0_isDupe_76 (by decide) ?_
    obtain rfl := Option.some.inj hs
    exact re_z F M (Or.inl rfl) dX0_isDupe_77
  · subst eq_
    have hs := se_l hs
    exact (Option.some.inj hs)
abbrev rm_X4_holdsCall : Room := { frames := 0, cells := 0, slots := 0, locals := 0 }
theorem mf_X4_holdsCall : MV 4 yX4_holdsCall cX4_holdsCall 4 (some .boolean) 1 RX4 := ⟨t_869, t_868, tS_62, t_6, ⟨by decide +kernel, by decide +kernel, by decide +kernel⟩, rfl, by decide⟩
def s_X4_holdsCall_L2 (N : Nat) : Nat → Nat → Int64 → Int32 → IH → Option ((Int32) ⊕ (Unit))
  | 0, _, _, _, _ => none
  | n + 1, th, x1, x3, h => (gI h 4 1 (some th)).bind fun v1 => if v1 ≤ x3 then some (.inr ()) else (gR h 4 0 (some th)).bind fun v3 => (aR h 3 v3 x3).bind fun v4 => (gI h 2 0 v4).bind fun v5 => if v5 = 0 then (gR h 4 0 (some th)).bind fun v7 => (aR h 3 v7 x3).bind fun v8 => (gL h 2 3 v8).bind fun v9 => if (lg_cmp v9 x1) = 0 then some (.inl 1) else s_X4_holdsCall_L2 N n th x1 (x3 + 1) h else s_X4_holdsCall_L2 N n th x1 (x3 + 1) h
def s_X4_holdsCall (N : Nat) (h : IH) (th : Nat) (a0 : Int64) : Option (Int32) := (s_X4_holdsCall_L2 N N th a0 0 h).bind fun q11 => Sum.elim (fun v => some v) (fun t12 => some 0) q11
set_option maxHeartbeats 4000000 in
set_option maxRecDepth 100000 in
theorem w_X4_holdsCall_L2 {p : Program} {l : Launch} {e : Env} {s : State} {m : MethodId} {args : Array Value} {below : List Frame} {meth : Method} {c : Code} {D : va_G} {cy : Nat → ClassId} {A : Nat → Prop} {H0 : Heap} {N th : Nat} {x1 : Int64} {h : IH} {qF : Int32} (F : Fx p s m args meth c D cy A H0 yX4_holdsCall cX4_holdsCall 4 (some .boolean)) : ∀ (n : Nat) (x3 : Int32) (ls : Array Slot) (H : Heap) (locs : List Loc) (q : (Int32) ⊕ (Unit)), s_X4_holdsCall_L2 N n th x1 x3 h = some q → lv_has ls 4 [(0, .ref th), (1, .long x1), (3, .int x3)] → Mo D cy A H0 h H locs → (∀ (t : Unit) (ls : Array Slot) (H : Heap) (locs : List Loc), q = .inr t → lv_has ls 4 [] → Mo D cy A H0 h H locs → W p l e rm_X4_holdsCall s m args below meth c H locs 0 0 (MQ below (QR D cy h A (some (.int qF))) args s 0 0 A) (F0 m 44 ls [])) → (∀ v, q = .inl v → v = qF) → W p l e rm_X4_holdsCall s m args below meth c H locs 0 0 (MQ below (QR D cy h A (some (.int qF))) args s 0 0 A) (F0 m 2 ls []) := by
  intro n
  induction n with
  | zero => intro x3 ls H locs q hs; rw [s_X4_holdsCall_L2.eq_1] at hs; cases hs
  | succ n ih =>
    intro x3 ls H locs q hs hl M kx kr
    obtain ⟨hx, hb, hr, hml, hown, hlk, hts, hK, hN, hA, hH⟩ := id F
    rw [s_X4_holdsCall_L2.eq_2] at hs
    refine lv_iload_n hx hb dX4_holdsCall_2 rfl (lv_at hl 2 rfl) ?_
    refine lv_aload_n hx hb dX4_holdsCall_3 rfl (lv_at hl 0 rfl) ?_
    obtain ⟨v1, g_v1, hs⟩ := bd hs
    refine ro_gI F M fg_4_1 t_166 g_v1 dX4_holdsCall_4 ?_
    refine lv_icmp_ge (tgt := 44) hx hb dX4_holdsCall_7 (by decide) (fun c2 => ?_) (fun c2 => ?_)
    · rw [if_pos c2] at hs
      exact kx () _ _ _ (Option.some.inj hs).symm (lv_sub hl [] rfl) M
    · rw [if_neg c2] at hs
      refine lv_aload_n hx hb dX4_holdsCall_10 rfl (lv_at hl 0 rfl) ?_
      obtain ⟨v3, g_v3, hs⟩ := bd hs
      refine ro_gR F M fg_4_0 t_165 g_v3 dX4_holdsCall_11 ?_
      refine lv_iload_n hx hb dX4_holdsCall_14 rfl (lv_at hl 2 rfl) ?_
      obtain ⟨v4, g_v4, hs⟩ := bd hs
      refine ro_aR (k := 3) (by decide) rfl F M g_v4 dX4_holdsCall_15 ?_
      obtain ⟨v5, g_v5, hs⟩ := bd hs
      refine ro_gIN F M fg_2_0 tN_91 g_v5 dX4_holdsCall_16 ?_
      refine lv_if_ne (tgt := 38) hx hb dX4_holdsCall_19 (by decide) (fun c6 => ?_) (fun c6 => ?_)
      · rw [if_neg c6] at hs
        refine lv_iinc (v := x3 + 1) (lv' := [(3, .int (x3 + 1)), (0, .ref th), (1, .long x1)]) hx hb dX4_holdsCall_38 hl (k := 2) rfl rfl (by decide) rfl (fun ls hl => ?_)
        refine lv_goto (tgt := 2) hx hb dX4_holdsCall_41 (by decide) ?_
        exact ih (x3 + 1) _ _ _ _ hs (lv_sub hl [1, 2, 0] rfl) M kx kr
      · rw [if_pos c6] at hs
        refine lv_aload_n hx hb dX4_holdsCall_22 rfl (lv_at hl 0 rfl) ?_
        obtain ⟨v7, g_v7, hs⟩ := bd hs
        refine ro_gR F M fg_4_0 t_165 g_v7 dX4_holdsCall_23 ?_
        refine lv_iload_n hx hb dX4_holdsCall_26 rfl (lv_at hl 2 rfl) ?_
        obtain ⟨v8, g_v8, hs⟩ := bd hs
        refine ro_aR (k := 3) (by decide) rfl F M g_v8 dX4_holdsCall_27 ?_
        obtain ⟨v9, g_v9, hs⟩ := bd hs
        refine ro_gLN F M fg_2_3 tN_106 g_v9 dX4_holdsCall_28 ?_
        refine lv_lload_n hx hb dX4_holdsCall_31 rfl (lv_at hl 1 rfl) ?_
        refine W.lcmp hx hb dX4_holdsCall_32 ?_
        refine lv_if_ne (tgt := 38) hx hb dX4_holdsCall_33 (by decide) (fun c10 => ?_) (fun c10 => ?_)
        · rw [if_neg c10] at hs
          refine lv_iinc (v := x3 + 1) (lv' := [(3, .int (x3 + 1)), (0, .ref th), (1, .long x1)]) hx hb dX4_holdsCall_38 hl (k := 2) rfl rfl (by decide) rfl (fun ls hl => ?_)
          refine lv_goto (tgt := 2) hx hb dX4_holdsCall_41 (by decide) ?_
          exact ih (x3 + 1) _ _ _ _ hs (lv_sub hl [1, 2, 0] rfl) M kx kr
        · rw [if_pos c10] at hs
          refine lv_iconst (v := 1) hx hb dX4_holdsCall_36 (by decide) ?_
          obtain rfl := kr _ (Option.some.inj hs).symm
          exact re_z F M (Or.inr rfl) dX4_holdsCall_37
set_option maxHeartbeats 4000000 in
set_option maxRecDepth 100000 in
theorem c_X4_holdsCall {l : Launch} {D : va_G} {cy : Nat → ClassId} {sz N : Nat} {h : IH} {th : Nat} {a0 : Int64} {qF : Int32} (hs : s_X4_holdsCall N h th a0 = some qF) : Ct l D cy yX4_holdsCall cX4_holdsCall 4 (some .boolean) rm_X4_holdsCall h sz [.ref th, .long a0] h (some (.int qF)) := by
  refine ct_start (by decide +kernel) [(0, .ref th), (1, .long a0)] (Nat.le_of_ble_eq_true rfl) rfl ?_
  intro p e s m args below meth c A H0 ls F hin hsz M hl
  obtain ⟨hx, hb, hr, hml, hown, hlk, hts, hK, hN, hA, hH⟩ := id F
  generalize s.heap = H at M ⊢
  generalize ([] : List Loc) = locs at M ⊢
  unfold s_X4_holdsCall at hs
  refine lv_iconst (v := 0) hx hb dX4_holdsCall_0 (by decide) ?_
  refine lv_istore_n (i := 3) (lv' := [(3, .int 0), (0, .ref th), (1, .long a0)]) hx hb dX4_holdsCall_1 rfl hl (by decide) rfl (fun ls hl => ?_)
  obtain ⟨q11, g_q11, hs⟩ := bd hs
  refine w_X4_holdsCall_L2 F N 0 _ _ _ q11 g_q11 (lv_sub hl [1, 2, 0] rfl) M (fun t12 ls H locs eq_ hl M => ?_) (fun v eq_ => ?_)
  · subst eq_
    have hs := se_r hs
    refine lv_iconst (v := 0) hx hb dX4_holdsCall_44 (by decide) ?_
    obtain rfl := Option.some.inj hs
    exact re_z F M (Or.inl rfl) dX4_holdsCall_45
  · subst eq_
    have hs := se_l hs
    exact (Option.some.inj hs)
abbrev rm_X9_holdsCall : Room := { frames := 1, cells := 0, slots := 0, locals := 23 }
theorem mf_X9_holdsCall : MV 9 yX9_holdsCall cX9_holdsCall 7 (some .boolean) 1 RX9 := ⟨t_865, t_864, tS_61, t_13, ⟨by decide +kernel, by decide +kernel, by decide +kernel⟩, rfl, by decide⟩
def s_X9_holdsCall_L12 (N : Nat) : Nat → Int64 → Option Nat → Int32 → Int32 → IH → Option ((Int32) ⊕ (Unit))
  | 0, _, _, _, _, _ => none
  | n + 1, x1, x3, x4, x5, h => if x4 ≤ x5 then some (.inr ()) else (aR h 4 x3 x5).bind fun v4 => (cV h 4 v4 fun a7 => s_X4_holdsCall N h a7 x1).bind fun v5 => if v5 = 0 then s_X9_holdsCall_L12 N n x1 x3 x4 (x5 + 1) h else some (.inl 1)
def s_X9_holdsCall (N : Nat) (h : IH) (th : Nat) (a0 : Int64) : Option (Int32) := (gR h 9 5 (some th)).bind fun v1 => (lnO h v1).bind fun v2 => (s_X9_holdsCall_L12 N N a0 v1 v2 0 h).bind fun q8 => Sum.elim (fun v => some v) (fun t9 => some 0) q8
set_option maxHeartbeats 4000000 in
set_option maxRecDepth 100000 in
theorem w_X9_holdsCall_L12 {p : Program} {l : Launch} {e : Env} {s : State} {m : MethodId} {args : Array Value} {below : List Frame} {meth : Method} {c : Code} {D : va_G} {cy : Nat → ClassId} {A : Nat → Prop} {H0 : Heap} {N : Nat} {x1 : Int64} {x3 : Option Nat} {x4 : Int32} {h : IH} {qF : Int32} (F : Fx p s m args meth c D cy A H0 yX9_holdsCall cX9_holdsCall 7 (some .boolean)) : ∀ (n : Nat) (x5 : Int32) (ls : Array Slot) (H : Heap) (locs : List Loc) (q : (Int32) ⊕ (Unit)), s_X9_holdsCall_L12 N n x1 x3 x4 x5 h = some q → lv_has ls 7 [(1, .long x1), (3, va_rf x3), (4, .int x4), (5, .int x5)] → Mo D cy A H0 h H locs → (∀ (t : Unit) (ls : Array Slot) (H : Heap) (locs : List Loc), q = .inr t → lv_has ls 7 [] → Mo D cy A H0 h H locs → W p l e rm_X9_holdsCall s m args below meth c H locs 0 0 (MQ below (QR D cy h A (some (.int qF))) args s 0 0 A) (F0 m 42 ls [])) → (∀ v, q = .inl v → v = qF) → W p l e rm_X9_holdsCall s m args below meth c H locs 0 0 (MQ below (QR D cy h A (some (.int qF))) args s 0 0 A) (F0 m 12 ls []) := by
  intro n
  induction n with
  | zero => intro x5 ls H locs q hs; rw [s_X9_holdsCall_L12.eq_1] at hs; cases hs
  | succ n ih =>
    intro x5 ls H locs q hs hl M kx kr
    obtain ⟨hx, hb, hr, hml, hown, hlk, hts, hK, hN, hA, hH⟩ := id F
    rw [s_X9_holdsCall_L12.eq_2] at hs
    refine lv_iload hx hb dX9_holdsCall_12 (lv_at hl 3 rfl) ?_
    refine lv_iload hx hb dX9_holdsCall_14 (lv_at hl 2 rfl) ?_
    refine lv_icmp_ge (tgt := 42) hx hb dX9_holdsCall_16 (by decide) (fun c3 => ?_) (fun c3 => ?_)
    · rw [if_pos c3] at hs
      exact kx () _ _ _ (Option.some.inj hs).symm (lv_sub hl [] rfl) M
    · rw [if_neg c3] at hs
      refine lo_aload_n hx hb dX9_holdsCall_19 rfl (lv_at hl 1 rfl) ?_
      refine lv_iload hx hb dX9_holdsCall_20 (lv_at hl 3 rfl) ?_
      obtain ⟨v4, g_v4, hs⟩ := bd hs
      refine ro_aR (k := 4) (by decide) rfl F M g_v4 dX9_holdsCall_22 ?_
      refine lo_astore (i := 6) (lv' := [(6, va_rf v4), (1, .long x1), (3, va_rf x3), (4, .int x4), (5, .int x5)]) hx hb dX9_holdsCall_23 hl (by decide) rfl (fun ls hl => ?_)
      refine lo_aload hx hb dX9_holdsCall_25 (lv_at hl 0 rfl) ?_
      refine lv_lload_n hx hb dX9_holdsCall_27 rfl (lv_at hl 1 rfl) ?_
      obtain ⟨v5, g_v5, hs⟩ := bd hs
      obtain ⟨a7, e_a7, k_a7, g_v5⟩ := cV_some g_v5
      refine ca_VNi (bq := a7) (As := [.long x1]) (rest := []) F M (c_X4_holdsCall g_v5) mf_X4_holdsCall tN_866 k_a7 rfl ⟨by decide, by decide⟩ ⟨rfl, rfl⟩ ⟨Nat.zero_le _, Nat.zero_le _⟩ hl.1 (by rw [e_a7]; rfl) (by decide) dX9_holdsCall_28 (fun H locs M => ?_)
      refine lv_if_eq (tgt := 36) hx hb dX9_holdsCall_31 (by decide) (fun c6 => ?_) (fun c6 => ?_)
      · rw [if_pos c6] at hs
        refine lv_iinc (v := x5 + 1) (lv' := [(5, .int (x5 + 1)), (6, va_rf v4), (1, .long x1), (3, va_rf x3), (4, .int x4)]) hx hb dX9_holdsCall_36 hl (k := 4) rfl rfl (by decide) rfl (fun ls hl => ?_)
        refine lv_goto (tgt := 12) hx hb dX9_holdsCall_39 (by decide) ?_
        exact ih (x5 + 1) _ _ _ _ hs (lv_sub hl [2, 3, 4, 0] rfl) M kx kr
      · rw [if_neg c6] at hs
        refine lv_iconst (v := 1) hx hb dX9_holdsCall_34 (by decide) ?_
        obtain rfl := kr _ (Option.some.inj hs).symm
        exact re_z F M (Or.inr rfl) dX9_holdsCall_35
set_option maxHeartbeats 4000000 in
set_option maxRecDepth 100000 in
theorem c_X9_holdsCall {l : Launch} {D : va_G} {cy : Nat → ClassId} {sz N : Nat} {h : IH} {th : Nat} {a0 : Int64} {qF : Int32} (hs : s_X9_holdsCall N h th a0 = some qF) : Ct l D cy yX9_holdsCall cX9_holdsCall 7 (some .boolean) rm_X9_holdsCall h sz [.ref th, .long a0] h (some (.int qF)) := by
  refine ct_start (by decide +kernel) [(0, .ref th), (1, .long a0)] (Nat.le_of_ble_eq_true rfl) rfl ?_
  intro p e s m args below meth c A H0 ls F hin hsz M hl
  obtain ⟨hx, hb, hr, hml, hown, hlk, hts, hK, hN, hA, hH⟩ := id F
  generalize s.heap = H at M ⊢
  generalize ([] : List Loc) = locs at M ⊢
  unfold s_X9_holdsCall at hs
  refine lv_aload_n hx hb dX9_holdsCall_0 rfl (lv_at hl 0 rfl) ?_
  obtain ⟨v1, g_v1, hs⟩ := bd hs
  refine ro_gR F M fg_9_5 t_432 g_v1 dX9_holdsCall_1 ?_
  refine lo_astore_n (i := 3) (lv' := [(3, va_rf v1), (0, .ref th), (1, .long a0)]) hx hb dX9_holdsCall_4 rfl hl (by decide) rfl (fun ls hl => ?_)
  refine lo_aload_n hx hb dX9_holdsCall_5 rfl (lv_at hl 0 rfl) ?_
  obtain ⟨v2, g_v2, hs⟩ := bd hs
  refine ro_len F M g_v2 dX9_holdsCall_6 ?_
  refine lv_istore (i := 4) (lv' := [(4, .int v2), (3, va_rf v1), (0, .ref th), (1, .long a0)]) hx hb dX9_holdsCall_7 hl (by decide) (by simp [cat_rf, cat_i, cat_j, cat_r]) (fun ls hl => ?_)
  refine lv_iconst (v := 0) hx hb dX9_holdsCall_9 (by decide) ?_
  refine lv_istore (i := 5) (lv' := [(5, .int 0), (4, .int v2), (3, va_rf v1), (0, .ref th), (1, .long a0)]) hx hb dX9_holdsCall_10 hl (by decide) rfl (fun ls hl => ?_)
  obtain ⟨q8, g_q8, hs⟩ := bd hs
  refine w_X9_holdsCall_L12 F N 0 _ _ _ q8 g_q8 (lv_sub hl [4, 2, 1, 0] rfl) M (fun t9 ls H locs eq_ hl M => ?_) (fun v eq_ => ?_)
  · subst eq_
    have hs := se_r hs
    refine lv_iconst (v := 0) hx hb dX9_holdsCall_42 (by decide) ?_
    obtain rfl := Option.some.inj hs
    exact re_z F M (Or.inl rfl) dX9_holdsCall_43
  · subst eq_
    have hs := se_l hs
    exact (Option.some.inj hs)
