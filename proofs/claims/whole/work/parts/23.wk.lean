abbrev rm_X12_pairAll : Room := { frames := 4, cells := 0, slots := 0, locals := 99 }
theorem mf_X12_pairAll : MV 12 yX12_pairAll cX12_pairAll 9 none 3 RX12 := ⟨t_1390, t_1389, tS_101, t_12, ⟨by decide +kernel, by decide +kernel, by decide +kernel⟩, rfl, by decide⟩
def s_X12_pairAll_L39 (N : Nat) : Nat → Nat → Int32 → Int64 → Int32 → Int32 → IH → Option (Int32 × Int64 × IH)
  | 0, _, _, _, _, _, _ => none
  | n + 1, th, x4, x5, x7, x8, h => (gI h 12 58 (some th)).bind fun v7 => if v7 ≤ x8 then some (x4, x5, h) else (gR h 12 61 (some th)).bind fun v9 => (aJ h v9 ((16 * x7) + x8)).bind fun v10 => ((if (lg_cmp v10 0) < 0 then some (x4, x5, h) else (gR h 12 62 (some th)).bind fun v12 => (aZ h v12 x8).bind fun v13 => if v13 = 0 then (gR h 12 19 (some th)).bind fun v15 => (gR h 12 59 (some th)).bind fun v16 => (aI h v16 x7).bind fun v17 => (aI h v15 v17).bind fun v18 => if v18 < 0 then (gR h 12 62 (some th)).bind fun v20 => (sZ h v20 x8 1).bind fun h21 => (cV h21 12 (some th) fun a47 => s_X12_solve N h21 a47 (x7 + 1)).bind fun v22 => (gI v22 12 67 (some th)).bind fun v23 => if (1 + v23) = x4 then (gR v22 12 61 (some th)).bind fun v25 => (aJ v22 v25 ((16 * x7) + x8)).bind fun v26 => (gL v22 12 68 (some th)).bind fun v27 => if (lg_cmp (v26 + v27) x5) = 0 then (gR v22 12 19 (some th)).bind fun v29 => (gR v22 12 59 (some th)).bind fun v30 => (aI v22 v30 x7).bind fun v31 => (gR v22 12 60 (some th)).bind fun v32 => (aI v22 v32 x8).bind fun v33 => (sI v22 v29 v31 v33).bind fun h34 => (gR h34 12 19 (some th)).bind fun v35 => (gR h34 12 60 (some th)).bind fun v36 => (aI h34 v36 x8).bind fun v37 => (gR h34 12 59 (some th)).bind fun v38 => (aI h34 v38 x7).bind fun v39 => (sI h34 v35 v37 v39).bind fun h40 => (gR h40 12 61 (some th)).bind fun v41 => (aJ h40 v41 ((16 * x7) + x8)).bind fun v42 => some (x4 + (-1), x5 - v42, h40) else (gR v22 12 62 (some th)).bind fun v43 => (sZ v22 v43 x8 0).bind fun h44 => some (x4, x5, h44) else (gR v22 12 62 (some th)).bind fun v45 => (sZ v22 v45 x8 0).bind fun h46 => some (x4, x5, h46) else some (x4, x5, h) else some (x4, x5, h)) : Option (Int32 × Int64 × IH)).bind fun q48 => s_X12_pairAll_L39 N n th q48.1 q48.2.1 x7 (x8 + 1) q48.2.2
def s_X12_pairAll_L27 (N : Nat) : Nat → Nat → Int32 → Int64 → Int32 → IH → Option (IH)
  | 0, _, _, _, _, _ => none
  | n + 1, th, x4, x5, x7, h => (gI h 12 57 (some th)).bind fun v5 => if v5 ≤ x7 then some h else (s_X12_pairAll_L39 N N th x4 x5 x7 0 h).bind fun q49 => s_X12_pairAll_L27 N n th q49.1 q49.2.1 (x7 + 1) q49.2.2
def s_X12_pairAll (N : Nat) (h : IH) (th : Nat) (a0 : Int32) (a1 : Int32) (a2 : Int32) : Option (IH) := (cV h 12 (some th) fun a52 => s_X12_lay N h a52 a0 a1 a2).bind fun v1 => (cV v1 12 (some th) fun a51 => s_X12_solve N v1 a51 0).bind fun v2 => (gI v2 12 67 (some th)).bind fun v3 => (gL v2 12 68 (some th)).bind fun v4 => (s_X12_pairAll_L27 N N th v3 v4 0 v2).bind fun q50 => some q50
set_option maxHeartbeats 4000000 in
set_option maxRecDepth 100000 in
theorem w_X12_pairAll_L39 {p : Program} {l : Launch} {e : Env} {s : State} {m : MethodId} {args : Array Value} {below : List Frame} {meth : Method} {c : Code} {D : va_G} {cy : Nat → ClassId} {A : Nat → Prop} {H0 : Heap} {N th : Nat} {x7 : Int32} {qF : IH} (F : Fx p s m args meth c D cy A H0 yX12_pairAll cX12_pairAll 9 none) : ∀ (n : Nat) (x4 : Int32) (x5 : Int64) (x8 : Int32) (h : IH) (ls : Array Slot) (H : Heap) (locs : List Loc) (q : Int32 × Int64 × IH), s_X12_pairAll_L39 N n th x4 x5 x7 x8 h = some q → lv_has ls 9 [(0, .ref th), (4, .int x4), (5, .long x5), (7, .int x7), (8, .int x8)] → Mo D cy A H0 h H locs → (∀ (t : Int32 × Int64 × IH) (ls : Array Slot) (H : Heap) (locs : List Loc), q = t → lv_has ls 9 [(0, .ref th), (4, .int t.1), (5, .long t.2.1), (7, .int x7)] → Mo D cy A H0 t.2.2 H locs → W p l e rm_X12_pairAll s m args below meth c H locs 0 0 (MQ below (QR D cy qF A none) args s 0 0 A) (F0 m 221 ls [])) → (∀ v : IH, False → v = qF) → W p l e rm_X12_pairAll s m args below meth c H locs 0 0 (MQ below (QR D cy qF A none) args s 0 0 A) (F0 m 39 ls []) := by
  intro n
  induction n with
  | zero => intro x4 x5 x8 h ls H locs q hs; rw [s_X12_pairAll_L39.eq_1] at hs; cases hs
  | succ n ih =>
    intro x4 x5 x8 h ls H locs q hs hl M kx kr
    obtain ⟨hx, hb, hr, hml, hown, hlk, hts, hK, hN, hA, hH⟩ := id F
    rw [s_X12_pairAll_L39.eq_2] at hs
    refine lv_iload hx hb dX12_pairAll_39 (lv_at hl 4 rfl) ?_
    refine lv_aload_n hx hb dX12_pairAll_41 rfl (lv_at hl 0 rfl) ?_
    obtain ⟨v7, g_v7, hs⟩ := bd hs
    refine ro_gI F M fg_12_58 t_1064 g_v7 dX12_pairAll_42 ?_
    refine lv_icmp_ge (tgt := 221) hx hb dX12_pairAll_45 (by decide) (fun c8 => ?_) (fun c8 => ?_)
    · rw [if_pos c8] at hs
      exact kx (x4, x5, h) _ _ _ (Option.some.inj hs).symm (lv_sub hl [0, 1, 2, 3] rfl) M
    · rw [if_neg c8] at hs
      refine lv_aload_n hx hb dX12_pairAll_48 rfl (lv_at hl 0 rfl) ?_
      obtain ⟨v9, g_v9, hs⟩ := bd hs
      refine ro_gR F M fg_12_61 t_1067 g_v9 dX12_pairAll_49 ?_
      refine lv_bipush (v := 16) hx hb dX12_pairAll_52 (by decide) ?_
      refine lv_iload hx hb dX12_pairAll_54 (lv_at hl 3 rfl) ?_
      refine lv_imul hx hb dX12_pairAll_56 ?_
      refine lv_iload hx hb dX12_pairAll_57 (lv_at hl 4 rfl) ?_
      refine lv_iadd hx hb dX12_pairAll_59 ?_
      obtain ⟨v10, g_v10, hs⟩ := bd hs
      refine ro_aJ F M g_v10 dX12_pairAll_60 ?_
      refine lv_lconst (v := 0) hx hb dX12_pairAll_61 (by decide) ?_
      refine W.lcmp hx hb dX12_pairAll_62 ?_
      obtain ⟨q48, hsq48, hs⟩ := bd hs
      have KJ215 : ∀ (ls : Array Slot) (H : Heap) (locs : List Loc), lv_has ls 9 [(0, .ref th), (4, .int q48.1), (5, .long q48.2.1), (7, .int x7), (8, .int x8)] → Mo D cy A H0 q48.2.2 H locs → W p l e rm_X12_pairAll s m args below meth c H locs 0 0 (MQ below (QR D cy qF A none) args s 0 0 A) (F0 m 215 ls []) := by
        intro ls H locs hl M
        refine lv_iinc (v := x8 + 1) (lv' := [(8, .int (x8 + 1)), (0, .ref th), (4, .int q48.1), (5, .long q48.2.1), (7, .int x7)]) hx hb dX12_pairAll_215 hl (k := 4) rfl rfl (by decide) rfl (fun ls hl => ?_)
        refine lv_goto (tgt := 39) hx hb dX12_pairAll_218 (by decide) ?_
        exact ih q48.1 q48.2.1 (x8 + 1) q48.2.2 _ _ _ _ hs (lv_sub hl [1, 2, 3, 4, 0] rfl) M kx kr
      clear hs
      have hs := hsq48
      refine lv_if_lt (tgt := 215) hx hb dX12_pairAll_63 (by decide) (fun c11 => ?_) (fun c11 => ?_)
      · rw [if_pos c11] at hs
        obtain rfl := Option.some.inj hs
        exact KJ215 _ _ _ (lv_sub hl [0, 1, 2, 3, 4] rfl) M
      · rw [if_neg c11] at hs
        refine lv_aload_n hx hb dX12_pairAll_66 rfl (lv_at hl 0 rfl) ?_
        obtain ⟨v12, g_v12, hs⟩ := bd hs
        refine ro_gR F M fg_12_62 t_1068 g_v12 dX12_pairAll_67 ?_
        refine lv_iload hx hb dX12_pairAll_70 (lv_at hl 4 rfl) ?_
        obtain ⟨v13, g_v13, hs⟩ := bd hs
        refine ro_aZ F M g_v13 dX12_pairAll_72 ?_
        refine lv_if_ne (tgt := 215) hx hb dX12_pairAll_73 (by decide) (fun c14 => ?_) (fun c14 => ?_)
        · rw [if_neg c14] at hs
          obtain rfl := Option.some.inj hs
          exact KJ215 _ _ _ (lv_sub hl [0, 1, 2, 3, 4] rfl) M
        · rw [if_pos c14] at hs
          refine lv_aload_n hx hb dX12_pairAll_76 rfl (lv_at hl 0 rfl) ?_
          obtain ⟨v15, g_v15, hs⟩ := bd hs
          refine ro_gR F M fg_12_19 t_1025 g_v15 dX12_pairAll_77 ?_
          refine lv_aload_n hx hb dX12_pairAll_80 rfl (lv_at hl 0 rfl) ?_
          obtain ⟨v16, g_v16, hs⟩ := bd hs
          refine ro_gR F M fg_12_59 t_1065 g_v16 dX12_pairAll_81 ?_
          refine lv_iload hx hb dX12_pairAll_84 (lv_at hl 3 rfl) ?_
          obtain ⟨v17, g_v17, hs⟩ := bd hs
          refine ro_aI F M g_v17 dX12_pairAll_86 ?_
          obtain ⟨v18, g_v18, hs⟩ := bd hs
          refine ro_aI F M g_v18 dX12_pairAll_87 ?_
          refine lv_if_lt (tgt := 94) hx hb dX12_pairAll_88 (by decide) (fun c19 => ?_) (fun c19 => ?_)
          · rw [if_pos c19] at hs
            refine lv_aload_n hx hb dX12_pairAll_94 rfl (lv_at hl 0 rfl) ?_
            obtain ⟨v20, g_v20, hs⟩ := bd hs
            refine ro_gR F M fg_12_62 t_1068 g_v20 dX12_pairAll_95 ?_
            refine lv_iload hx hb dX12_pairAll_98 (lv_at hl 4 rfl) ?_
            refine lv_iconst (v := 1) hx hb dX12_pairAll_100 (by decide) ?_
            obtain ⟨h21, g_h21, hs⟩ := bd hs
            refine ro_sZ F M g_h21 dX12_pairAll_101 (fun H locs M => ?_)
            refine lv_aload_n hx hb dX12_pairAll_102 rfl (lv_at hl 0 rfl) ?_
            refine lv_iload hx hb dX12_pairAll_103 (lv_at hl 3 rfl) ?_
            refine lv_iconst (v := 1) hx hb dX12_pairAll_105 (by decide) ?_
            refine lv_iadd hx hb dX12_pairAll_106 ?_
            obtain ⟨v22, g_v22, hs⟩ := bd hs
            obtain ⟨a47, e_a47, k_a47, g_v22⟩ := cV_some g_v22
            obtain rfl := Option.some.inj e_a47
            refine ca_Vv (bq := th) (As := [.int (x7 + 1)]) (rest := []) F M (c_X12_solve g_v22) mf_X12_solve t_1395 k_a47 rfl ⟨by decide, by decide⟩ ⟨rfl, rfl⟩ ⟨Nat.zero_le _, Nat.zero_le _⟩ hl.1 rfl (by decide) dX12_pairAll_107 (fun H locs M => ?_)
            refine lv_iconst (v := 1) hx hb dX12_pairAll_110 (by decide) ?_
            refine lv_aload_n hx hb dX12_pairAll_111 rfl (lv_at hl 0 rfl) ?_
            obtain ⟨v23, g_v23, hs⟩ := bd hs
            refine ro_gI F M fg_12_67 t_1073 g_v23 dX12_pairAll_112 ?_
            refine lv_iadd hx hb dX12_pairAll_115 ?_
            refine lv_iload hx hb dX12_pairAll_116 (lv_at hl 1 rfl) ?_
            refine lv_icmp_ne (tgt := 207) hx hb dX12_pairAll_118 (by decide) (fun c24 => ?_) (fun c24 => ?_)
            · rw [if_neg c24] at hs
              refine lv_aload_n hx hb dX12_pairAll_207 rfl (lv_at hl 0 rfl) ?_
              obtain ⟨v45, g_v45, hs⟩ := bd hs
              refine ro_gR F M fg_12_62 t_1068 g_v45 dX12_pairAll_208 ?_
              refine lv_iload hx hb dX12_pairAll_211 (lv_at hl 4 rfl) ?_
              refine lv_iconst (v := 0) hx hb dX12_pairAll_213 (by decide) ?_
              obtain ⟨h46, g_h46, hs⟩ := bd hs
              refine ro_sZ F M g_h46 dX12_pairAll_214 (fun H locs M => ?_)
              obtain rfl := Option.some.inj hs
              exact KJ215 _ _ _ (lv_sub hl [0, 1, 2, 3, 4] rfl) M
            · rw [if_pos c24] at hs
              refine lv_aload_n hx hb dX12_pairAll_121 rfl (lv_at hl 0 rfl) ?_
              obtain ⟨v25, g_v25, hs⟩ := bd hs
              refine ro_gR F M fg_12_61 t_1067 g_v25 dX12_pairAll_122 ?_
              refine lv_bipush (v := 16) hx hb dX12_pairAll_125 (by decide) ?_
              refine lv_iload hx hb dX12_pairAll_127 (lv_at hl 3 rfl) ?_
              refine lv_imul hx hb dX12_pairAll_129 ?_
              refine lv_iload hx hb dX12_pairAll_130 (lv_at hl 4 rfl) ?_
              refine lv_iadd hx hb dX12_pairAll_132 ?_
              obtain ⟨v26, g_v26, hs⟩ := bd hs
              refine ro_aJ F M g_v26 dX12_pairAll_133 ?_
              refine lv_aload_n hx hb dX12_pairAll_134 rfl (lv_at hl 0 rfl) ?_
              obtain ⟨v27, g_v27, hs⟩ := bd hs
              refine ro_gL F M fg_12_68 t_1074 g_v27 dX12_pairAll_135 ?_
              refine lv_ladd hx hb dX12_pairAll_138 ?_
              refine lv_lload hx hb dX12_pairAll_139 (lv_at hl 2 rfl) ?_
              refine W.lcmp hx hb dX12_pairAll_141 ?_
              refine lv_if_ne (tgt := 207) hx hb dX12_pairAll_142 (by decide) (fun c28 => ?_) (fun c28 => ?_)
              · rw [if_neg c28] at hs
                refine lv_aload_n hx hb dX12_pairAll_207 rfl (lv_at hl 0 rfl) ?_
                obtain ⟨v43, g_v43, hs⟩ := bd hs
                refine ro_gR F M fg_12_62 t_1068 g_v43 dX12_pairAll_208 ?_
                refine lv_iload hx hb dX12_pairAll_211 (lv_at hl 4 rfl) ?_
                refine lv_iconst (v := 0) hx hb dX12_pairAll_213 (by decide) ?_
                obtain ⟨h44, g_h44, hs⟩ := bd hs
                refine ro_sZ F M g_h44 dX12_pairAll_214 (fun H locs M => ?_)
                obtain rfl := Option.some.inj hs
                exact KJ215 _ _ _ (lv_sub hl [0, 1, 2, 3, 4] rfl) M
              · rw [if_pos c28] at hs
                refine lv_aload_n hx hb dX12_pairAll_145 rfl (lv_at hl 0 rfl) ?_
                obtain ⟨v29, g_v29, hs⟩ := bd hs
                refine ro_gR F M fg_12_19 t_1025 g_v29 dX12_pairAll_146 ?_
                refine lv_aload_n hx hb dX12_pairAll_149 rfl (lv_at hl 0 rfl) ?_
                obtain ⟨v30, g_v30, hs⟩ := bd hs
                refine ro_gR F M fg_12_59 t_1065 g_v30 dX12_pairAll_150 ?_
                refine lv_iload hx hb dX12_pairAll_153 (lv_at hl 3 rfl) ?_
                obtain ⟨v31, g_v31, hs⟩ := bd hs
                refine ro_aI F M g_v31 dX12_pairAll_155 ?_
                refine lv_aload_n hx hb dX12_pairAll_156 rfl (lv_at hl 0 rfl) ?_
                obtain ⟨v32, g_v32, hs⟩ := bd hs
                refine ro_gR F M fg_12_60 t_1066 g_v32 dX12_pairAll_157 ?_
                refine lv_iload hx hb dX12_pairAll_160 (lv_at hl 4 rfl) ?_
                obtain ⟨v33, g_v33, hs⟩ := bd hs
                refine ro_aI F M g_v33 dX12_pairAll_162 ?_
                obtain ⟨h34, g_h34, hs⟩ := bd hs
                refine ro_sI F M g_h34 dX12_pairAll_163 (fun H locs M => ?_)
                refine lv_aload_n hx hb dX12_pairAll_164 rfl (lv_at hl 0 rfl) ?_
                obtain ⟨v35, g_v35, hs⟩ := bd hs
                refine ro_gR F M fg_12_19 t_1025 g_v35 dX12_pairAll_165 ?_
                refine lv_aload_n hx hb dX12_pairAll_168 rfl (lv_at hl 0 rfl) ?_
                obtain ⟨v36, g_v36, hs⟩ := bd hs
                refine ro_gR F M fg_12_60 t_1066 g_v36 dX12_pairAll_169 ?_
                refine lv_iload hx hb dX12_pairAll_172 (lv_at hl 4 rfl) ?_
                obtain ⟨v37, g_v37, hs⟩ := bd hs
                refine ro_aI F M g_v37 dX12_pairAll_174 ?_
                refine lv_aload_n hx hb dX12_pairAll_175 rfl (lv_at hl 0 rfl) ?_
                obtain ⟨v38, g_v38, hs⟩ := bd hs
                refine ro_gR F M fg_12_59 t_1065 g_v38 dX12_pairAll_176 ?_
                refine lv_iload hx hb dX12_pairAll_179 (lv_at hl 3 rfl) ?_
                obtain ⟨v39, g_v39, hs⟩ := bd hs
                refine ro_aI F M g_v39 dX12_pairAll_181 ?_
                obtain ⟨h40, g_h40, hs⟩ := bd hs
                refine ro_sI F M g_h40 dX12_pairAll_182 (fun H locs M => ?_)
                refine lv_iinc (v := x4 + (-1)) (lv' := [(4, .int (x4 + (-1))), (0, .ref th), (5, .long x5), (7, .int x7), (8, .int x8)]) hx hb dX12_pairAll_183 hl (k := 1) rfl rfl (by decide) rfl (fun ls hl => ?_)
                refine lv_lload hx hb dX12_pairAll_186 (lv_at hl 2 rfl) ?_
                refine lv_aload_n hx hb dX12_pairAll_188 rfl (lv_at hl 1 rfl) ?_
                obtain ⟨v41, g_v41, hs⟩ := bd hs
                refine ro_gR F M fg_12_61 t_1067 g_v41 dX12_pairAll_189 ?_
                refine lv_bipush (v := 16) hx hb dX12_pairAll_192 (by decide) ?_
                refine lv_iload hx hb dX12_pairAll_194 (lv_at hl 3 rfl) ?_
                refine lv_imul hx hb dX12_pairAll_196 ?_
                refine lv_iload hx hb dX12_pairAll_197 (lv_at hl 4 rfl) ?_
                refine lv_iadd hx hb dX12_pairAll_199 ?_
                obtain ⟨v42, g_v42, hs⟩ := bd hs
                refine ro_aJ F M g_v42 dX12_pairAll_200 ?_
                refine lv_lsub hx hb dX12_pairAll_201 ?_
                refine lv_lstore (i := 5) (lv' := [(5, .long (x5 - v42)), (4, .int (x4 + (-1))), (0, .ref th), (7, .int x7), (8, .int x8)]) hx hb dX12_pairAll_202 hl (by decide) rfl (fun ls hl => ?_)
                refine lv_goto (tgt := 215) hx hb dX12_pairAll_204 (by decide) ?_
                obtain rfl := Option.some.inj hs
                exact KJ215 _ _ _ (lv_sub hl [2, 1, 0, 3, 4] rfl) M
          · rw [if_neg c19] at hs
            refine lv_goto (tgt := 215) hx hb dX12_pairAll_91 (by decide) ?_
            obtain rfl := Option.some.inj hs
            exact KJ215 _ _ _ (lv_sub hl [0, 1, 2, 3, 4] rfl) M
set_option maxHeartbeats 4000000 in
set_option maxRecDepth 100000 in
theorem w_X12_pairAll_L27 {p : Program} {l : Launch} {e : Env} {s : State} {m : MethodId} {args : Array Value} {below : List Frame} {meth : Method} {c : Code} {D : va_G} {cy : Nat → ClassId} {A : Nat → Prop} {H0 : Heap} {N th : Nat} {qF : IH} (F : Fx p s m args meth c D cy A H0 yX12_pairAll cX12_pairAll 9 none) : ∀ (n : Nat) (x4 : Int32) (x5 : Int64) (x7 : Int32) (h : IH) (ls : Array Slot) (H : Heap) (locs : List Loc) (q : IH), s_X12_pairAll_L27 N n th x4 x5 x7 h = some q → lv_has ls 9 [(0, .ref th), (4, .int x4), (5, .long x5), (7, .int x7)] → Mo D cy A H0 h H locs → (∀ (t : IH) (ls : Array Slot) (H : Heap) (locs : List Loc), q = t → lv_has ls 9 [] → Mo D cy A H0 t H locs → W p l e rm_X12_pairAll s m args below meth c H locs 0 0 (MQ below (QR D cy qF A none) args s 0 0 A) (F0 m 227 ls [])) → (∀ v : IH, False → v = qF) → W p l e rm_X12_pairAll s m args below meth c H locs 0 0 (MQ below (QR D cy qF A none) args s 0 0 A) (F0 m 27 ls []) := by
  intro n
  induction n with
  | zero => intro x4 x5 x7 h ls H locs q hs; rw [s_X12_pairAll_L27.eq_1] at hs; cases hs
  | succ n ih =>
    intro x4 x5 x7 h ls H locs q hs hl M kx kr
    obtain ⟨hx, hb, hr, hml, hown, hlk, hts, hK, hN, hA, hH⟩ := id F
    rw [s_X12_pairAll_L27.eq_2] at hs
    refine lv_iload hx hb dX12_pairAll_27 (lv_at hl 3 rfl) ?_
    refine lv_aload_n hx hb dX12_pairAll_29 rfl (lv_at hl 0 rfl) ?_
    obtain ⟨v5, g_v5, hs⟩ := bd hs
    refine ro_gI F M fg_12_57 t_1063 g_v5 dX12_pairAll_30 ?_
    refine lv_icmp_ge (tgt := 227) hx hb dX12_pairAll_33 (by decide) (fun c6 => ?_) (fun c6 => ?_)
    · rw [if_pos c6] at hs
      exact kx h _ _ _ (Option.some.inj hs).symm (lv_sub hl [] rfl) M
    · rw [if_neg c6] at hs
      refine lv_iconst (v := 0) hx hb dX12_pairAll_36 (by decide) ?_
      refine lv_istore (i := 8) (lv' := [(8, .int 0), (0, .ref th), (4, .int x4), (5, .long x5), (7, .int x7)]) hx hb dX12_pairAll_37 hl (by decide) rfl (fun ls hl => ?_)
      obtain ⟨q49, g_q49, hs⟩ := bd hs
      refine w_X12_pairAll_L39 F N x4 x5 0 h _ _ _ q49 g_q49 (lv_sub hl [1, 2, 3, 4, 0] rfl) M (fun t_ ls H locs eq_ hl M => ?_) (fun v eq_ => eq_.elim)
      subst eq_
      refine lv_iinc (v := x7 + 1) (lv' := [(7, .int (x7 + 1)), (0, .ref th), (4, .int q49.1), (5, .long q49.2.1)]) hx hb dX12_pairAll_221 hl (k := 3) rfl rfl (by decide) rfl (fun ls hl => ?_)
      refine lv_goto (tgt := 27) hx hb dX12_pairAll_224 (by decide) ?_
      exact ih q49.1 q49.2.1 (x7 + 1) q49.2.2 _ _ _ _ hs (lv_sub hl [1, 2, 3, 0] rfl) M kx kr
set_option maxHeartbeats 4000000 in
set_option maxRecDepth 100000 in
theorem c_X12_pairAll {l : Launch} {D : va_G} {cy : Nat → ClassId} {sz N : Nat} {h : IH} {th : Nat} {a0 : Int32} {a1 : Int32} {a2 : Int32} {qF : IH} (hs : s_X12_pairAll N h th a0 a1 a2 = some qF) : Ct l D cy yX12_pairAll cX12_pairAll 9 none rm_X12_pairAll h sz [.ref th, .int a0, .int a1, .int a2] qF none := by
  refine ct_start (by decide +kernel) [(0, .ref th), (1, .int a0), (2, .int a1), (3, .int a2)] (Nat.le_of_ble_eq_true rfl) rfl ?_
  intro p e s m args below meth c A H0 ls F hin hsz M hl
  obtain ⟨hx, hb, hr, hml, hown, hlk, hts, hK, hN, hA, hH⟩ := id F
  generalize s.heap = H at M ⊢
  generalize ([] : List Loc) = locs at M ⊢
  unfold s_X12_pairAll at hs
  refine lv_aload_n hx hb dX12_pairAll_0 rfl (lv_at hl 0 rfl) ?_
  refine lv_iload_n hx hb dX12_pairAll_1 rfl (lv_at hl 1 rfl) ?_
  refine lv_iload_n hx hb dX12_pairAll_2 rfl (lv_at hl 2 rfl) ?_
  refine lv_iload_n hx hb dX12_pairAll_3 rfl (lv_at hl 3 rfl) ?_
  obtain ⟨v1, g_v1, hs⟩ := bd hs
  obtain ⟨a52, e_a52, k_a52, g_v1⟩ := cV_some g_v1
  obtain rfl := Option.some.inj e_a52
  refine ca_Vv (bq := th) (As := [.int a0, .int a1, .int a2]) (rest := []) F M (c_X12_lay g_v1) mf_X12_lay t_1391 k_a52 rfl ⟨by decide, by decide⟩ ⟨rfl, rfl⟩ ⟨Nat.zero_le _, Nat.zero_le _⟩ hl.1 rfl (by decide) dX12_pairAll_4 (fun H locs M => ?_)
  refine lv_aload_n hx hb dX12_pairAll_7 rfl (lv_at hl 0 rfl) ?_
  refine lv_iconst (v := 0) hx hb dX12_pairAll_8 (by decide) ?_
  obtain ⟨v2, g_v2, hs⟩ := bd hs
  obtain ⟨a51, e_a51, k_a51, g_v2⟩ := cV_some g_v2
  obtain rfl := Option.some.inj e_a51
  refine ca_Vv (bq := th) (As := [.int 0]) (rest := []) F M (c_X12_solve g_v2) mf_X12_solve t_1395 k_a51 rfl ⟨by decide, by decide⟩ ⟨rfl, rfl⟩ ⟨Nat.zero_le _, Nat.zero_le _⟩ hl.1 rfl (by decide) dX12_pairAll_9 (fun H locs M => ?_)
  refine lv_aload_n hx hb dX12_pairAll_12 rfl (lv_at hl 0 rfl) ?_
  obtain ⟨v3, g_v3, hs⟩ := bd hs
  refine ro_gI F M fg_12_67 t_1073 g_v3 dX12_pairAll_13 ?_
  refine lv_istore (i := 4) (lv' := [(4, .int v3), (0, .ref th), (1, .int a0), (2, .int a1), (3, .int a2)]) hx hb dX12_pairAll_16 hl (by decide) rfl (fun ls hl => ?_)
  refine lv_aload_n hx hb dX12_pairAll_18 rfl (lv_at hl 1 rfl) ?_
  obtain ⟨v4, g_v4, hs⟩ := bd hs
  refine ro_gL F M fg_12_68 t_1074 g_v4 dX12_pairAll_19 ?_
  refine lv_lstore (i := 5) (lv' := [(5, .long v4), (4, .int v3), (0, .ref th), (1, .int a0), (2, .int a1), (3, .int a2)]) hx hb dX12_pairAll_22 hl (by decide) rfl (fun ls hl => ?_)
  refine lv_iconst (v := 0) hx hb dX12_pairAll_24 (by decide) ?_
  refine lv_istore (i := 7) (lv' := [(7, .int 0), (5, .long v4), (4, .int v3), (0, .ref th), (1, .int a0), (2, .int a1), (3, .int a2)]) hx hb dX12_pairAll_25 hl (by decide) rfl (fun ls hl => ?_)
  obtain ⟨q50, g_q50, hs⟩ := bd hs
  refine w_X12_pairAll_L27 F N v3 v4 0 v2 _ _ _ q50 g_q50 (lv_sub hl [3, 2, 1, 0] rfl) M (fun t_ ls H locs eq_ hl M => ?_) (fun v eq_ => eq_.elim)
  subst eq_
  obtain rfl := Option.some.inj hs
  exact re_v F M dX12_pairAll_227
abbrev rm_X12_check : Room := { frames := 5, cells := 0, slots := 0, locals := 133 }
theorem mf_X12_check : MV 12 yX12_check cX12_check 4 none 0 RX12 := ⟨t_1347, t_1346, tS_92, t_12, ⟨by decide +kernel, by decide +kernel, by decide +kernel⟩, rfl, by decide⟩
def s_X12_check_L19 (N : Nat) : Nat → Nat → Int32 → IH → Option (IH)
  | 0, _, _, _ => none
  | n + 1, th, x1, h => (gI h 12 1 (some th)).bind fun v5 => if v5 ≤ x1 then some h else (gR h 12 20 (some th)).bind fun v7 => (cV h 12 (some th) fun a14 => s_X12_hasLog h a14 x1).bind fun v8 => ((if v8 = 0 then some 0 else (cV h 12 (some th) fun a11 => s_X12_offsetOf N h a11 x1).bind fun v10 => some v10) : Option (Int64)).bind fun q12 => (sJ h v7 x1 q12).bind fun h13 => s_X12_check_L19 N n th (x1 + 1) h13
def s_X12_check_L80 (N : Nat) : Nat → Nat → Int32 → Int32 → Int32 → IH → Option (IH)
  | 0, _, _, _, _, _ => none
  | n + 1, th, x1, x2, x3, h => if 3 ≤ x3 then some h else (cV h 12 (some th) fun a22 => s_X12_pairAll N h a22 x1 x2 x3).bind fun v21 => s_X12_check_L80 N n th x1 x2 (x3 + 1) v21
def s_X12_check_L70 (N : Nat) : Nat → Nat → Int32 → Int32 → IH → Option (IH)
  | 0, _, _, _, _ => none
  | n + 1, th, x1, x2, h => (gI h 12 1 (some th)).bind fun v18 => if v18 ≤ x2 then some h else (s_X12_check_L80 N N th x1 x2 0 h).bind fun q23 => s_X12_check_L70 N n th x1 (x2 + 1) q23
def s_X12_check_L58 (N : Nat) : Nat → Nat → Int32 → IH → Option (IH)
  | 0, _, _, _ => none
  | n + 1, th, x1, h => (gI h 12 1 (some th)).bind fun v16 => if v16 ≤ x1 then some h else (s_X12_check_L70 N N th x1 (x1 + 1) h).bind fun q24 => s_X12_check_L58 N n th (x1 + 1) q24
def s_X12_check (N : Nat) (h : IH) (th : Nat) : Option (IH) := (gI h 12 17 (some th)).bind fun v1 => if v1 = 0 then (pZ h 12 17 (some th) 1).bind fun h3 => (cV h3 12 (some th) fun a26 => s_X12_setCalled N h3 a26 ).bind fun v4 => (s_X12_check_L19 N N th 0 v4).bind fun q15 => (s_X12_check_L58 N N th 0 q15).bind fun q25 => some q25 else some h
set_option maxHeartbeats 4000000 in
set_option maxRecDepth 100000 in
theorem w_X12_check_L19 {p : Program} {l : Launch} {e : Env} {s : State} {m : MethodId} {args : Array Value} {below : List Frame} {meth : Method} {c : Code} {D : va_G} {cy : Nat → ClassId} {A : Nat → Prop} {H0 : Heap} {N th : Nat} {qF : IH} (F : Fx p s m args meth c D cy A H0 yX12_check cX12_check 4 none) : ∀ (n : Nat) (x1 : Int32) (h : IH) (ls : Array Slot) (H : Heap) (locs : List Loc) (q : IH), s_X12_check_L19 N n th x1 h = some q → lv_has ls 4 [(0, .ref th), (1, .int x1)] → Mo D cy A H0 h H locs → (∀ (t : IH) (ls : Array Slot) (H : Heap) (locs : List Loc), q = t → lv_has ls 4 [(0, .ref th)] → Mo D cy A H0 t H locs → W p l e rm_X12_check s m args below meth c H locs 0 0 (MQ below (QR D cy qF A none) args s 0 0 A) (F0 m 56 ls [])) → (∀ v : IH, False → v = qF) → W p l e rm_X12_check s m args below meth c H locs 0 0 (MQ below (QR D cy qF A none) args s 0 0 A) (F0 m 19 ls []) := by
  intro n
  induction n with
  | zero => intro x1 h ls H locs q hs; rw [s_X12_check_L19.eq_1] at hs; cases hs
  | succ n ih =>
    intro x1 h ls H locs q hs hl M kx kr
    obtain ⟨hx, hb, hr, hml, hown, hlk, hts, hK, hN, hA, hH⟩ := id F
    rw [s_X12_check_L19.eq_2] at hs
    refine lv_iload_n hx hb dX12_check_19 rfl (lv_at hl 1 rfl) ?_
    refine lv_aload_n hx hb dX12_check_20 rfl (lv_at hl 0 rfl) ?_
    obtain ⟨v5, g_v5, hs⟩ := bd hs
    refine ro_gI F M fg_12_1 t_1007 g_v5 dX12_check_21 ?_
    refine lv_icmp_ge (tgt := 56) hx hb dX12_check_24 (by decide) (fun c6 => ?_) (fun c6 => ?_)
    · rw [if_pos c6] at hs
      exact kx h _ _ _ (Option.some.inj hs).symm (lv_sub hl [0] rfl) M
    · rw [if_neg c6] at hs
      refine lv_aload_n hx hb dX12_check_27 rfl (lv_at hl 0 rfl) ?_
      obtain ⟨v7, g_v7, hs⟩ := bd hs
      refine ro_gR F M fg_12_20 t_1026 g_v7 dX12_check_28 ?_
      refine lv_iload_n hx hb dX12_check_31 rfl (lv_at hl 1 rfl) ?_
      refine lv_aload_n hx hb dX12_check_32 rfl (lv_at hl 0 rfl) ?_
      refine lv_iload_n hx hb dX12_check_33 rfl (lv_at hl 1 rfl) ?_
      obtain ⟨v8, g_v8, hs⟩ := bd hs
      obtain ⟨a14, e_a14, k_a14, g_v8⟩ := cV_some g_v8
      obtain rfl := Option.some.inj e_a14
      refine ca_Vi (bq := th) (As := [.int x1]) (rest := [.int x1, va_rf v7]) F M (c_X12_hasLog g_v8) mf_X12_hasLog t_1356 k_a14 rfl ⟨by decide, by decide⟩ ⟨rfl, rfl⟩ ⟨Nat.zero_le _, Nat.zero_le _⟩ hl.1 rfl (by simp [cat_rf, cat_i, cat_j, cat_r]) dX12_check_34 (fun H locs M => ?_)
      obtain ⟨q12, hsq12, hs⟩ := bd hs
      have KJ49 : ∀ (ls : Array Slot) (H : Heap) (locs : List Loc), lv_has ls 4 [(0, .ref th), (1, .int x1)] → Mo D cy A H0 h H locs → W p l e rm_X12_check s m args below meth c H locs 0 0 (MQ below (QR D cy qF A none) args s 0 0 A) (F0 m 49 ls [.long q12, .int x1, va_rf v7]) := by
        intro ls H locs hl M
        obtain ⟨h13, g_h13, hs⟩ := bd hs
        refine ro_sJ F M g_h13 dX12_check_49 (fun H locs M => ?_)
        refine lv_iinc (v := x1 + 1) (lv' := [(1, .int (x1 + 1)), (0, .ref th)]) hx hb dX12_check_50 hl (k := 1) rfl rfl (by decide) rfl (fun ls hl => ?_)
        refine lv_goto (tgt := 19) hx hb dX12_check_53 (by decide) ?_
        exact ih (x1 + 1) h13 _ _ _ _ hs (lv_sub hl [1, 0] rfl) M kx kr
      clear hs
      have hs := hsq12
      refine lv_if_eq (tgt := 48) hx hb dX12_check_37 (by decide) (fun c9 => ?_) (fun c9 => ?_)
      · rw [if_pos c9] at hs
        refine lv_lconst (v := 0) hx hb dX12_check_48 (by decide) ?_
        obtain rfl := Option.some.inj hs
        exact KJ49 _ _ _ (lv_sub hl [0, 1] rfl) M
      · rw [if_neg c9] at hs
        refine lv_aload_n hx hb dX12_check_40 rfl (lv_at hl 0 rfl) ?_
        refine lv_iload_n hx hb dX12_check_41 rfl (lv_at hl 1 rfl) ?_
        obtain ⟨v10, g_v10, hs⟩ := bd hs
        obtain ⟨a11, e_a11, k_a11, g_v10⟩ := cV_some g_v10
        obtain rfl := Option.some.inj e_a11
        refine ca_Vl (bq := th) (As := [.int x1]) (rest := [.int x1, va_rf v7]) F M (c_X12_offsetOf g_v10) mf_X12_offsetOf t_1360 k_a11 rfl ⟨by decide, by decide⟩ ⟨rfl, rfl⟩ ⟨Nat.zero_le _, Nat.zero_le _⟩ hl.1 rfl (by simp [cat_rf, cat_i, cat_j, cat_r]) dX12_check_42 (fun H locs M => ?_)
        refine lv_goto (tgt := 49) hx hb dX12_check_45 (by decide) ?_
        obtain rfl := Option.some.inj hs
        exact KJ49 _ _ _ (lv_sub hl [0, 1] rfl) M
set_option maxHeartbeats 4000000 in
set_option maxRecDepth 100000 in
theorem w_X12_check_L80 {p : Program} {l : Launch} {e : Env} {s : State} {m : MethodId} {args : Array Value} {below : List Frame} {meth : Method} {c : Code} {D : va_G} {cy : Nat → ClassId} {A : Nat → Prop} {H0 : Heap} {N th : Nat} {x1 : Int32} {x2 : Int32} {qF : IH} (F : Fx p s m args meth c D cy A H0 yX12_check cX12_check 4 none) : ∀ (n : Nat) (x3 : Int32) (h : IH) (ls : Array Slot) (H : Heap) (locs : List Loc) (q : IH), s_X12_check_L80 N n th x1 x2 x3 h = some q → lv_has ls 4 [(0, .ref th), (1, .int x1), (2, .int x2), (3, .int x3)] → Mo D cy A H0 h H locs → (∀ (t : IH) (ls : Array Slot) (H : Heap) (locs : List Loc), q = t → lv_has ls 4 [(0, .ref th), (1, .int x1), (2, .int x2)] → Mo D cy A H0 t H locs → W p l e rm_X12_check s m args below meth c H locs 0 0 (MQ below (QR D cy qF A none) args s 0 0 A) (F0 m 98 ls [])) → (∀ v : IH, False → v = qF) → W p l e rm_X12_check s m args below meth c H locs 0 0 (MQ below (QR D cy qF A none) args s 0 0 A) (F0 m 80 ls []) := by
  intro n
  induction n with
  | zero => intro x3 h ls H locs q hs; rw [s_X12_check_L80.eq_1] at hs; cases hs
  | succ n ih =>
    intro x3 h ls H locs q hs hl M kx kr
    obtain ⟨hx, hb, hr, hml, hown, hlk, hts, hK, hN, hA, hH⟩ := id F
    rw [s_X12_check_L80.eq_2] at hs
    refine lv_iload_n hx hb dX12_check_80 rfl (lv_at hl 3 rfl) ?_
    refine lv_iconst (v := 3) hx hb dX12_check_81 (by decide) ?_
    refine lv_icmp_ge (tgt := 98) hx hb dX12_check_82 (by decide) (fun c20 => ?_) (fun c20 => ?_)
    · rw [if_pos c20] at hs
      exact kx h _ _ _ (Option.some.inj hs).symm (lv_sub hl [0, 1, 2] rfl) M
    · rw [if_neg c20] at hs
      refine lv_aload_n hx hb dX12_check_85 rfl (lv_at hl 0 rfl) ?_
      refine lv_iload_n hx hb dX12_check_86 rfl (lv_at hl 1 rfl) ?_
      refine lv_iload_n hx hb dX12_check_87 rfl (lv_at hl 2 rfl) ?_
      refine lv_iload_n hx hb dX12_check_88 rfl (lv_at hl 3 rfl) ?_
      obtain ⟨v21, g_v21, hs⟩ := bd hs
      obtain ⟨a22, e_a22, k_a22, g_v21⟩ := cV_some g_v21
      obtain rfl := Option.some.inj e_a22
      refine ca_Vv (bq := th) (As := [.int x1, .int x2, .int x3]) (rest := []) F M (c_X12_pairAll g_v21) mf_X12_pairAll t_1387 k_a22 rfl ⟨by decide, by decide⟩ ⟨rfl, rfl⟩ ⟨Nat.zero_le _, Nat.zero_le _⟩ hl.1 rfl (by decide) dX12_check_89 (fun H locs M => ?_)
      refine lv_iinc (v := x3 + 1) (lv' := [(3, .int (x3 + 1)), (0, .ref th), (1, .int x1), (2, .int x2)]) hx hb dX12_check_92 hl (k := 3) rfl rfl (by decide) rfl (fun ls hl => ?_)
      refine lv_goto (tgt := 80) hx hb dX12_check_95 (by decide) ?_
      exact ih (x3 + 1) v21 _ _ _ _ hs (lv_sub hl [1, 2, 3, 0] rfl) M kx kr
set_option maxHeartbeats 4000000 in
set_option maxRecDepth 100000 in
theorem w_X12_check_L70 {p : Program} {l : Launch} {e : Env} {s : State} {m : MethodId} {args : Array Value} {below : List Frame} {meth : Method} {c : Code} {D : va_G} {cy : Nat → ClassId} {A : Nat → Prop} {H0 : Heap} {N th : Nat} {x1 : Int32} {qF : IH} (F : Fx p s m args meth c D cy A H0 yX12_check cX12_check 4 none) : ∀ (n : Nat) (x2 : Int32) (h : IH) (ls : Array Slot) (H : Heap) (locs : List Loc) (q : IH), s_X12_check_L70 N n th x1 x2 h = some q → lv_has ls 4 [(0, .ref th), (1, .int x1), (2, .int x2)] → Mo D cy A H0 h H locs → (∀ (t : IH) (ls : Array Slot) (H : Heap) (locs : List Loc), q = t → lv_has ls 4 [(0, .ref th), (1, .int x1)] → Mo D cy A H0 t H locs → W p l e rm_X12_check s m args below meth c H locs 0 0 (MQ below (QR D cy qF A none) args s 0 0 A) (F0 m 104 ls [])) → (∀ v : IH, False → v = qF) → W p l e rm_X12_check s m args below meth c H locs 0 0 (MQ below (QR D cy qF A none) args s 0 0 A) (F0 m 70 ls []) := by
  intro n
  induction n with
  | zero => intro x2 h ls H locs q hs; rw [s_X12_check_L70.eq_1] at hs; cases hs
  | succ n ih =>
    intro x2 h ls H locs q hs hl M kx kr
    obtain ⟨hx, hb, hr, hml, hown, hlk, hts, hK, hN, hA, hH⟩ := id F
    rw [s_X12_check_L70.eq_2] at hs
    refine lv_iload_n hx hb dX12_check_70 rfl (lv_at hl 2 rfl) ?_
    refine lv_aload_n hx hb dX12_check_71 rfl (lv_at hl 0 rfl) ?_
    obtain ⟨v18, g_v18, hs⟩ := bd hs
    refine ro_gI F M fg_12_1 t_1007 g_v18 dX12_check_72 ?_
    refine lv_icmp_ge (tgt := 104) hx hb dX12_check_75 (by decide) (fun c19 => ?_) (fun c19 => ?_)
    · rw [if_pos c19] at hs
      exact kx h _ _ _ (Option.some.inj hs).symm (lv_sub hl [0, 1] rfl) M
    · rw [if_neg c19] at hs
      refine lv_iconst (v := 0) hx hb dX12_check_78 (by decide) ?_
      refine lv_istore_n (i := 3) (lv' := [(3, .int 0), (0, .ref th), (1, .int x1), (2, .int x2)]) hx hb dX12_check_79 rfl hl (by decide) rfl (fun ls hl => ?_)
      obtain ⟨q23, g_q23, hs⟩ := bd hs
      refine w_X12_check_L80 F N 0 h _ _ _ q23 g_q23 (lv_sub hl [1, 2, 3, 0] rfl) M (fun t_ ls H locs eq_ hl M => ?_) (fun v eq_ => eq_.elim)
      subst eq_
      refine lv_iinc (v := x2 + 1) (lv' := [(2, .int (x2 + 1)), (0, .ref th), (1, .int x1)]) hx hb dX12_check_98 hl (k := 2) rfl rfl (by decide) rfl (fun ls hl => ?_)
      refine lv_goto (tgt := 70) hx hb dX12_check_101 (by decide) ?_
      exact ih (x2 + 1) q23 _ _ _ _ hs (lv_sub hl [1, 2, 0] rfl) M kx kr
set_option maxHeartbeats 4000000 in
set_option maxRecDepth 100000 in
theorem w_X12_check_L58 {p : Program} {l : Launch} {e : Env} {s : State} {m : MethodId} {args : Array Value} {below : List Frame} {meth : Method} {c : Code} {D : va_G} {cy : Nat → ClassId} {A : Nat → Prop} {H0 : Heap} {N th : Nat} {qF : IH} (F : Fx p s m args meth c D cy A H0 yX12_check cX12_check 4 none) : ∀ (n : Nat) (x1 : Int32) (h : IH) (ls : Array Slot) (H : Heap) (locs : List Loc) (q : IH), s_X12_check_L58 N n th x1 h = some q → lv_has ls 4 [(0, .ref th), (1, .int x1)] → Mo D cy A H0 h H locs → (∀ (t : IH) (ls : Array Slot) (H : Heap) (locs : List Loc), q = t → lv_has ls 4 [] → Mo D cy A H0 t H locs → W p l e rm_X12_check s m args below meth c H locs 0 0 (MQ below (QR D cy qF A none) args s 0 0 A) (F0 m 110 ls [])) → (∀ v : IH, False → v = qF) → W p l e rm_X12_check s m args below meth c H locs 0 0 (MQ below (QR D cy qF A none) args s 0 0 A) (F0 m 58 ls []) := by
  intro n
  induction n with
  | zero => intro x1 h ls H locs q hs; rw [s_X12_check_L58.eq_1] at hs; cases hs
  | succ n ih =>
    intro x1 h ls H locs q hs hl M kx kr
    obtain ⟨hx, hb, hr, hml, hown, hlk, hts, hK, hN, hA, hH⟩ := id F
    rw [s_X12_check_L58.eq_2] at hs
    refine lv_iload_n hx hb dX12_check_58 rfl (lv_at hl 1 rfl) ?_
    refine lv_aload_n hx hb dX12_check_59 rfl (lv_at hl 0 rfl) ?_
    obtain ⟨v16, g_v16, hs⟩ := bd hs
    refine ro_gI F M fg_12_1 t_1007 g_v16 dX12_check_60 ?_
    refine lv_icmp_ge (tgt := 110) hx hb dX12_check_63 (by decide) (fun c17 => ?_) (fun c17 => ?_)
    · rw [if_pos c17] at hs
      exact kx h _ _ _ (Option.some.inj hs).symm (lv_sub hl [] rfl) M
    · rw [if_neg c17] at hs
      refine lv_iload_n hx hb dX12_check_66 rfl (lv_at hl 1 rfl) ?_
      refine lv_iconst (v := 1) hx hb dX12_check_67 (by decide) ?_
      refine lv_iadd hx hb dX12_check_68 ?_
      refine lv_istore_n (i := 2) (lv' := [(2, .int (x1 + 1)), (0, .ref th), (1, .int x1)]) hx hb dX12_check_69 rfl hl (by decide) rfl (fun ls hl => ?_)
      obtain ⟨q24, g_q24, hs⟩ := bd hs
      refine w_X12_check_L70 F N (x1 + 1) h _ _ _ q24 g_q24 (lv_sub hl [1, 2, 0] rfl) M (fun t_ ls H locs eq_ hl M => ?_) (fun v eq_ => eq_.elim)
      subst eq_
      refine lv_iinc (v := x1 + 1) (lv' := [(1, .int (x1 + 1)), (0, .ref th)]) hx hb dX12_check_104 hl (k := 1) rfl rfl (by decide) rfl (fun ls hl => ?_)
      refine lv_goto (tgt := 58) hx hb dX12_check_107 (by decide) ?_
      exact ih (x1 + 1) q24 _ _ _ _ hs (lv_sub hl [1, 0] rfl) M kx kr
set_option maxHeartbeats 4000000 in
set_option maxRecDepth 100000 in
theorem c_X12_check {l : Launch} {D : va_G} {cy : Nat → ClassId} {sz N : Nat} {h : IH} {th : Nat} {qF : IH} (hs : s_X12_check N h th = some qF) : Ct l D cy yX12_check cX12_check 4 none rm_X12_check h sz [.ref th] qF none := by
  refine ct_start (by decide +kernel) [(0, .ref th)] (Nat.le_of_ble_eq_true rfl) rfl ?_
  intro p e s m args below meth c A H0 ls F hin hsz M hl
  obtain ⟨hx, hb, hr, hml, hown, hlk, hts, hK, hN, hA, hH⟩ := id F
  generalize s.heap = H at M ⊢
  generalize ([] : List Loc) = locs at M ⊢
  unfold s_X12_check at hs
  refine lv_aload_n hx hb dX12_check_0 rfl (lv_at hl 0 rfl) ?_
  obtain ⟨v1, g_v1, hs⟩ := bd hs
  refine ro_gI F M fg_12_17 t_1023 g_v1 dX12_check_1 ?_
  refine lv_if_eq (tgt := 8) hx hb dX12_check_4 (by decide) (fun c2 => ?_) (fun c2 => ?_)
  · rw [if_pos c2] at hs
    refine lv_aload_n hx hb dX12_check_8 rfl (lv_at hl 0 rfl) ?_
    refine lv_iconst (v := 1) hx hb dX12_check_9 (by decide) ?_
    obtain ⟨h3, g_h3, hs⟩ := bd hs
    refine ro_pZ F M fg_12_17 fp_12_17 rfl t_1023 g_h3 dX12_check_10 (fun H locs M => ?_)
    refine lv_aload_n hx hb dX12_check_13 rfl (lv_at hl 0 rfl) ?_
    obtain ⟨v4, g_v4, hs⟩ := bd hs
    obtain ⟨a26, e_a26, k_a26, g_v4⟩ := cV_some g_v4
    obtain rfl := Option.some.inj e_a26
    refine ca_Vv (bq := th) (As := []) (rest := []) F M (c_X12_setCalled g_v4) mf_X12_setCalled t_1348 k_a26 rfl ⟨by decide, by decide⟩ ⟨rfl, rfl⟩ ⟨Nat.zero_le _, Nat.zero_le _⟩ hl.1 rfl (by decide) dX12_check_14 (fun H locs M => ?_)
    refine lv_iconst (v := 0) hx hb dX12_check_17 (by decide) ?_
    refine lv_istore_n (i := 1) (lv' := [(1, .int 0), (0, .ref th)]) hx hb dX12_check_18 rfl hl (by decide) rfl (fun ls hl => ?_)
    obtain ⟨q15, g_q15, hs⟩ := bd hs
    refine w_X12_check_L19 F N 0 v4 _ _ _ q15 g_q15 (lv_sub hl [1, 0] rfl) M (fun t_ ls H locs eq_ hl M => ?_) (fun v eq_ => eq_.elim)
    subst eq_
    refine lv_iconst (v := 0) hx hb dX12_check_56 (by decide) ?_
    refine lv_istore_n (i := 1) (lv' := [(1, .int 0), (0, .ref th)]) hx hb dX12_check_57 rfl hl (by decide) rfl (fun ls hl => ?_)
    obtain ⟨q25, g_q25, hs⟩ := bd hs
    refine w_X12_check_L58 F N 0 q15 _ _ _ q25 g_q25 (lv_sub hl [1, 0] rfl) M (fun t_ ls H locs eq_ hl M => ?_) (fun v eq_ => eq_.elim)
    subst eq_
    obtain rfl := Option.some.inj hs
    exact re_v F M dX12_check_110
  · rw [if_neg c2] at hs
    obtain rfl := Option.some.inj hs
    exact re_v F M dX12_check_7
abbrev rm_X12_begin : Room := { frames := 6, cells := 0, slots := 0, locals := 156 }
theorem mf_X12_begin : MV 12 yX12_begin cX12_begin 2 none 1 RX12 := ⟨t_1343, t_1342, tS_91, t_12, ⟨by decide +kernel, by decide +kernel, by decide +kernel⟩, rfl, by decide⟩
def s_X12_begin (N : Nat) (h : IH) (th : Nat) (a0 : Int32) : Option (IH) := (gI h 12 37 (some th)).bind fun v1 => (pI h 12 37 (some th) (v1 + 1)).bind fun h2 => (gI h2 12 39 (some th)).bind fun v3 => (cV h2 12 (some th) fun a11 => s_X12_isStation h2 a11 a0).bind fun v4 => ((if v4 = 0 then some 0 else some 1) : Option (Int32)).bind fun q6 => (pI h2 12 39 (some th) (v3 + q6)).bind fun h7 => (pI h7 12 36 (some th) 0).bind fun h8 => (cV h8 12 (some th) fun a10 => s_X12_check N h8 a10 ).bind fun v9 => some v9
set_option maxHeartbeats 4000000 in
set_option maxRecDepth 100000 in
theorem c_X12_begin {l : Launch} {D : va_G} {cy : Nat → ClassId} {sz N : Nat} {h : IH} {th : Nat} {a0 : Int32} {qF : IH} (hs : s_X12_begin N h th a0 = some qF) : Ct l D cy yX12_begin cX12_begin 2 none rm_X12_begin h sz [.ref th, .int a0] qF none := by
  refine ct_start (by decide +kernel) [(0, .ref th), (1, .int a0)] (Nat.le_of_ble_eq_true rfl) rfl ?_
  intro p e s m args below meth c A H0 ls F hin hsz M hl
  obtain ⟨hx, hb, hr, hml, hown, hlk, hts, hK, hN, hA, hH⟩ := id F
  generalize s.heap = H at M ⊢
  generalize ([] : List Loc) = locs at M ⊢
  unfold s_X12_begin at hs
  refine lv_aload_n hx hb dX12_begin_0 rfl (lv_at hl 0 rfl) ?_
  refine lv_dup hx hb dX12_begin_1 rfl ?_
  obtain ⟨v1, g_v1, hs⟩ := bd hs
  refine ro_gI F M fg_12_37 t_1043 g_v1 dX12_begin_2 ?_
  refine lv_iconst (v := 1) hx hb dX12_begin_5 (by decide) ?_
  refine lv_iadd hx hb dX12_begin_6 ?_
  obtain ⟨h2, g_h2, hs⟩ := bd hs
  refine ro_pI F M fg_12_37 fp_12_37 rfl t_1043 g_h2 dX12_begin_7 (fun H locs M => ?_)
  refine lv_aload_n hx hb dX12_begin_10 rfl (lv_at hl 0 rfl) ?_
  refine lv_dup hx hb dX12_begin_11 rfl ?_
  obtain ⟨v3, g_v3, hs⟩ := bd hs
  refine ro_gI F M fg_12_39 t_1045 g_v3 dX12_begin_12 ?_
  refine lv_aload_n hx hb dX12_begin_15 rfl (lv_at hl 0 rfl) ?_
  refine lv_iload_n hx hb dX12_begin_16 rfl (lv_at hl 1 rfl) ?_
  obtain ⟨v4, g_v4, hs⟩ := bd hs
  obtain ⟨a11, e_a11, k_a11, g_v4⟩ := cV_some g_v4
  obtain rfl := Option.some.inj e_a11
  refine ca_Vi (bq := th) (As := [.int a0]) (rest := [.int v3, .ref th]) F M (c_X12_isStation g_v4) mf_X12_isStation t_1259 k_a11 rfl ⟨by decide, by decide⟩ ⟨rfl, rfl⟩ ⟨Nat.zero_le _, Nat.zero_le _⟩ hl.1 rfl (by simp [cat_rf, cat_i, cat_j, cat_r]) dX12_begin_17 (fun H locs M => ?_)
  obtain ⟨q6, hsq6, hs⟩ := bd hs
  have KJ28 : ∀ (ls : Array Slot) (H : Heap) (locs : List Loc), lv_has ls 2 [(0, .ref th)] → Mo D cy A H0 h2 H locs → W p l e rm_X12_begin s m args below meth c H locs 0 0 (MQ below (QR D cy qF A none) args s 0 0 A) (F0 m 28 ls [.int q6, .int v3, .ref th]) := by
    intro ls H locs hl M
    refine lv_iadd hx hb dX12_begin_28 ?_
    obtain ⟨h7, g_h7, hs⟩ := bd hs
    refine ro_pI F M fg_12_39 fp_12_39 rfl t_1045 g_h7 dX12_begin_29 (fun H locs M => ?_)
    refine lv_aload_n hx hb dX12_begin_32 rfl (lv_at hl 0 rfl) ?_
    refine lv_iconst (v := 0) hx hb dX12_begin_33 (by decide) ?_
    obtain ⟨h8, g_h8, hs⟩ := bd hs
    refine ro_pI F M fg_12_36 fp_12_36 rfl t_1042 g_h8 dX12_begin_34 (fun H locs M => ?_)
    refine lv_aload_n hx hb dX12_begin_37 rfl (lv_at hl 0 rfl) ?_
    obtain ⟨v9, g_v9, hs⟩ := bd hs
    obtain ⟨a10, e_a10, k_a10, g_v9⟩ := cV_some g_v9
    obtain rfl := Option.some.inj e_a10
    refine ca_Vv (bq := th) (As := []) (rest := []) F M (c_X12_check g_v9) mf_X12_check t_1344 k_a10 rfl ⟨by decide, by decide⟩ ⟨rfl, rfl⟩ ⟨Nat.zero_le _, Nat.zero_le _⟩ hl.1 rfl (by decide) dX12_begin_38 (fun H locs M => ?_)
    obtain rfl := Option.some.inj hs
    exact re_v F M dX12_begin_41
  clear hs
  have hs := hsq6
  refine lv_if_eq (tgt := 27) hx hb dX12_begin_20 (by decide) (fun c5 => ?_) (fun c5 => ?_)
  · rw [if_pos c5] at hs
    refine lv_iconst (v := 0) hx hb dX12_begin_27 (by decide) ?_
    obtain rfl := Option.some.inj hs
    exact KJ28 _ _ _ (lv_sub hl [0] rfl) M
  · rw [if_neg c5] at hs
    refine lv_iconst (v := 1) hx hb dX12_begin_23 (by decide) ?_
    refine lv_goto (tgt := 28) hx hb dX12_begin_24 (by decide) ?_
    obtain rfl := Option.some.inj hs
    exact KJ28 _ _ _ (lv_sub hl [0] rfl) M
abbrev rm_X12_reasonOfLog : Room := { frames := 2, cells := 0, slots := 0, locals := 46 }
theorem mf_X12_reasonOfLog : MV 12 yX12_reasonOfLog cX12_reasonOfLog 3 (some .int) 2 RX12 := ⟨t_1407, t_1406, tS_105, t_12, ⟨by decide +kernel, by decide +kernel, by decide +kernel⟩, rfl, by decide⟩
def s_X12_reasonOfLog (h : IH) (th : Nat) (a0 : Int32) (a1 : Int32) : Option (Int32) := (cV h 12 (some th) fun a9 => s_X12_isStation h a9 a0).bind fun v1 => ((if v1 = 0 then some 4 else (s_X12_isIn h a1.toInt64 0 2).bind fun v3 => if v3 = 0 then some 6 else (gR h 12 9 (some th)).bind fun v5 => (aI h v5 ((3 * a0) + a1)).bind fun v6 => if 0 ≤ v6 then some 0 else some 1) : Option (Int32)).bind fun q8 => some q8
set_option maxHeartbeats 4000000 in
set_option maxRecDepth 100000 in
theorem c_X12_reasonOfLog {l : Launch} {D : va_G} {cy : Nat → ClassId} {sz : Nat} {h : IH} {th : Nat} {a0 : Int32} {a1 : Int32} {qF : Int32} (hs : s_X12_reasonOfLog h th a0 a1 = some qF) : Ct l D cy yX12_reasonOfLog cX12_reasonOfLog 3 (some .int) rm_X12_reasonOfLog h sz [.ref th, .int a0, .int a1] h (some (.int qF)) := by
  refine ct_start (by decide +kernel) [(0, .ref th), (1, .int a0), (2, .int a1)] (Nat.le_of_ble_eq_true rfl) rfl ?_
  intro p e s m args below meth c A H0 ls F hin hsz M hl
  obtain ⟨hx, hb, hr, hml, hown, hlk, hts, hK, hN, hA, hH⟩ := id F
  generalize s.heap = H at M ⊢
  generalize ([] : List Loc) = locs at M ⊢
  unfold s_X12_reasonOfLog at hs
  refine lv_aload_n hx hb dX12_reasonOfLog_0 rfl (lv_at hl 0 rfl) ?_
  refine lv_iload_n hx hb dX12_reasonOfLog_1 rfl (lv_at hl 1 rfl) ?_
  obtain ⟨v1, g_v1, hs⟩ := bd hs
  obtain ⟨a9, e_a9, k_a9, g_v1⟩ := cV_some g_v1
  obtain rfl := Option.some.inj e_a9
  refine ca_Vi (bq := th) (As := [.int a0]) (rest := []) F M (c_X12_isStation g_v1) mf_X12_isStation t_1259 k_a9 rfl ⟨by decide, by decide⟩ ⟨rfl, rfl⟩ ⟨Nat.zero_le _, Nat.zero_le _⟩ hl.1 rfl (by decide) dX12_reasonOfLog_2 (fun H locs M => ?_)
  obtain ⟨q8, hsq8, hs⟩ := bd hs
  have KJ47 : ∀ (ls : Array Slot) (H : Heap) (locs : List Loc), lv_has ls 3 [] → Mo D cy A H0 h H locs → W p l e rm_X12_reasonOfLog s m args below meth c H locs 0 0 (MQ below (QR D cy h A (some (.int qF))) args s 0 0 A) (F0 m 47 ls [.int q8]) := by
    intro ls H locs hl M
    obtain rfl := Option.some.inj hs
    exact re_i F M dX12_reasonOfLog_47
  clear hs
  have hs := hsq8
  refine lv_if_ne (tgt := 12) hx hb dX12_reasonOfLog_5 (by decide) (fun c2 => ?_) (fun c2 => ?_)
  · rw [if_neg c2] at hs
    refine lv_iload_n hx hb dX12_reasonOfLog_12 rfl (lv_at hl 2 rfl) ?_
    refine lv_i2l hx hb dX12_reasonOfLog_13 rfl ?_
    refine lv_lconst (v := 0) hx hb dX12_reasonOfLog_14 (by decide) ?_
    refine lv_ldc2 (v := 2) hx hb hown (hts _ (List.mem_cons_of_mem _ t_1267)) dX12_reasonOfLog_15 ?_
    obtain ⟨v3, g_v3, hs⟩ := bd hs
    refine ca_Si (As := [.long a1.toInt64, .long 0, .long 2]) (rest := []) F M (c_X12_isIn g_v3) mf_X12_isIn t_1225 rfl ⟨by decide, by decide⟩ ⟨rfl, rfl⟩ ⟨Nat.zero_le _, Nat.zero_le _⟩ hl.1 rfl (by decide) dX12_reasonOfLog_18 (fun H locs M => ?_)
    refine lv_if_ne (tgt := 29) hx hb dX12_reasonOfLog_21 (by decide) (fun c4 => ?_) (fun c4 => ?_)
    · rw [if_neg c4] at hs
      refine lv_aload_n hx hb dX12_reasonOfLog_29 rfl (lv_at hl 0 rfl) ?_
      obtain ⟨v5, g_v5, hs⟩ := bd hs
      refine ro_gR F M fg_12_9 t_1015 g_v5 dX12_reasonOfLog_30 ?_
      refine lv_iconst (v := 3) hx hb dX12_reasonOfLog_33 (by decide) ?_
      refine lv_iload_n hx hb dX12_reasonOfLog_34 rfl (lv_at hl 1 rfl) ?_
      refine lv_imul hx hb dX12_reasonOfLog_35 ?_
      refine lv_iload_n hx hb dX12_reasonOfLog_36 rfl (lv_at hl 2 rfl) ?_
      refine lv_iadd hx hb dX12_reasonOfLog_37 ?_
      obtain ⟨v6, g_v6, hs⟩ := bd hs
      refine ro_aI F M g_v6 dX12_reasonOfLog_38 ?_
      refine lv_if_ge (tgt := 46) hx hb dX12_reasonOfLog_39 (by decide) (fun c7 => ?_) (fun c7 => ?_)
      · rw [if_pos c7] at hs
        refine lv_iconst (v := 0) hx hb dX12_reasonOfLog_46 (by decide) ?_
        obtain rfl := Option.some.inj hs
        exact KJ47 _ _ _ (lv_sub hl [] rfl) M
      · rw [if_neg c7] at hs
        refine lv_iconst (v := 1) hx hb dX12_reasonOfLog_42 (by decide) ?_
        refine lv_goto (tgt := 47) hx hb dX12_reasonOfLog_43 (by decide) ?_
        obtain rfl := Option.some.inj hs
        exact KJ47 _ _ _ (lv_sub hl [] rfl) M
    · rw [if_pos c4] at hs
      refine lv_bipush (v := 6) hx hb dX12_reasonOfLog_24 (by decide) ?_
      refine lv_goto (tgt := 47) hx hb dX12_reasonOfLog_26 (by decide) ?_
      obtain rfl := Option.some.inj hs
      exact KJ47 _ _ _ (lv_sub hl [] rfl) M
  · rw [if_pos c2] at hs
    refine lv_iconst (v := 4) hx hb dX12_reasonOfLog_8 (by decide) ?_
    refine lv_goto (tgt := 47) hx hb dX12_reasonOfLog_9 (by decide) ?_
    obtain rfl := Option.some.inj hs
    exact KJ47 _ _ _ (lv_sub hl [] rfl) M
abbrev rm_X12_found : Room := { frames := 0, cells := 0, slots := 0, locals := 0 }
theorem mf_X12_found : MV 12 yX12_found cX12_found 2 (some .int) 1 RX12 := ⟨t_1411, t_1410, tS_106, t_12, ⟨by decide +kernel, by decide +kernel, by decide +kernel⟩, rfl, by decide⟩
def s_X12_found (h : IH) (th : Nat) (a0 : Int32) : Option (Int32 × IH) := (pI h 12 36 (some th) a0).bind fun h1 => (gI h1 12 38 (some th)).bind fun v2 => (pI h1 12 38 (some th) (v2 + 1)).bind fun h3 => some (0, h3)
set_option maxHeartbeats 4000000 in
set_option maxRecDepth 100000 in
theorem c_X12_found {l : Launch} {D : va_G} {cy : Nat → ClassId} {sz : Nat} {h : IH} {th : Nat} {a0 : Int32} {qF : Int32 × IH} (hs : s_X12_found h th a0 = some qF) : Ct l D cy yX12_found cX12_found 2 (some .int) rm_X12_found h sz [.ref th, .int a0] qF.2 (some (.int qF.1)) := by
  refine ct_start (by decide +kernel) [(0, .ref th), (1, .int a0)] (Nat.le_of_ble_eq_true rfl) rfl ?_
  intro p e s m args below meth c A H0 ls F hin hsz M hl
  obtain ⟨hx, hb, hr, hml, hown, hlk, hts, hK, hN, hA, hH⟩ := id F
  generalize s.heap = H at M ⊢
  generalize ([] : List Loc) = locs at M ⊢
  unfold s_X12_found at hs
  refine lv_aload_n hx hb dX12_found_0 rfl (lv_at hl 0 rfl) ?_
  refine lv_iload_n hx hb dX12_found_1 rfl (lv_at hl 1 rfl) ?_
  obtain ⟨h1, g_h1, hs⟩ := bd hs
  refine ro_pI F M fg_12_36 fp_12_36 rfl t_1042 g_h1 dX12_found_2 (fun H locs M => ?_)
  refine lv_aload_n hx hb dX12_found_5 rfl (lv_at hl 0 rfl) ?_
  refine lv_dup hx hb dX12_found_6 rfl ?_
  obtain ⟨v2, g_v2, hs⟩ := bd hs
  refine ro_gI F M fg_12_38 t_1044 g_v2 dX12_found_7 ?_
  refine lv_iconst (v := 1) hx hb dX12_found_10 (by decide) ?_
  refine lv_iadd hx hb dX12_found_11 ?_
  obtain ⟨h3, g_h3, hs⟩ := bd hs
  refine ro_pI F M fg_12_38 fp_12_38 rfl t_1044 g_h3 dX12_found_12 (fun H locs M => ?_)
  refine lv_iconst (v := 0) hx hb dX12_found_15 (by decide) ?_
  obtain rfl := Option.some.inj hs
  exact re_i F M dX12_found_16
abbrev rm_X12_lines : Room := { frames := 7, cells := 0, slots := 0, locals := 177 }
theorem mf_X12_lines : MV 12 yX12_lines cX12_lines 4 (some .int) 2 RX12 := ⟨t_1339, t_1337, t_1338, t_12, ⟨by decide +kernel, by decide +kernel, by decide +kernel⟩, rfl, by decide⟩
def s_X12_lines (N : Nat) (h : IH) (th : Nat) (a0 : Int32) (a1 : Int32) : Option (Int32 × IH) := (cV h 12 (some th) fun a10 => s_X12_begin N h a10 a0).bind fun v1 => (cV v1 12 (some th) fun a9 => s_X12_reasonOfLog v1 a9 a0 a1).bind fun v2 => ((if v2 ≤ 0 then (gR v1 12 9 (some th)).bind fun v4 => (aI v1 v4 ((3 * a0) + a1)).bind fun v5 => some (v5, v1) else (cV v1 12 (some th) fun a7 => s_X12_found v1 a7 v2).bind fun v6 => some (v6.1, v6.2)) : Option (Int32 × IH)).bind fun q8 => some (q8.1, q8.2)
set_option maxHeartbeats 4000000 in
set_option maxRecDepth 100000 in
theorem c_X12_lines {l : Launch} {D : va_G} {cy : Nat → ClassId} {sz N : Nat} {h : IH} {th : Nat} {a0 : Int32} {a1 : Int32} {qF : Int32 × IH} (hs : s_X12_lines N h th a0 a1 = some qF) : Ct l D cy yX12_lines cX12_lines 4 (some .int) rm_X12_lines h sz [.ref th, .int a0, .int a1] qF.2 (some (.int qF.1)) := by
  refine ct_start (by decide +kernel) [(0, .ref th), (1, .int a0), (2, .int a1)] (Nat.le_of_ble_eq_true rfl) rfl ?_
  intro p e s m args below meth c A H0 ls F hin hsz M hl
  obtain ⟨hx, hb, hr, hml, hown, hlk, hts, hK, hN, hA, hH⟩ := id F
  generalize s.heap = H at M ⊢
  generalize ([] : List Loc) = locs at M ⊢
  unfold s_X12_lines at hs
  refine lv_aload_n hx hb dX12_lines_0 rfl (lv_at hl 0 rfl) ?_
  refine lv_iload_n hx hb dX12_lines_1 rfl (lv_at hl 1 rfl) ?_
  obtain ⟨v1, g_v1, hs⟩ := bd hs
  obtain ⟨a10, e_a10, k_a10, g_v1⟩ := cV_some g_v1
  obtain rfl := Option.some.inj e_a10
  refine ca_Vv (bq := th) (As := [.int a0]) (rest := []) F M (c_X12_begin g_v1) mf_X12_begin t_1340 k_a10 rfl ⟨by decide, by decide⟩ ⟨rfl, rfl⟩ ⟨Nat.zero_le _, Nat.zero_le _⟩ hl.1 rfl (by decide) dX12_lines_2 (fun H locs M => ?_)
  refine lv_aload_n hx hb dX12_lines_5 rfl (lv_at hl 0 rfl) ?_
  refine lv_iload_n hx hb dX12_lines_6 rfl (lv_at hl 1 rfl) ?_
  refine lv_iload_n hx hb dX12_lines_7 rfl (lv_at hl 2 rfl) ?_
  obtain ⟨v2, g_v2, hs⟩ := bd hs
  obtain ⟨a9, e_a9, k_a9, g_v2⟩ := cV_some g_v2
  obtain rfl := Option.some.inj e_a9
  refine ca_Vi (bq := th) (As := [.int a0, .int a1]) (rest := []) F M (c_X12_reasonOfLog g_v2) mf_X12_reasonOfLog t_1404 k_a9 rfl ⟨by decide, by decide⟩ ⟨rfl, rfl⟩ ⟨Nat.zero_le _, Nat.zero_le _⟩ hl.1 rfl (by decide) dX12_lines_8 (fun H locs M => ?_)
  refine lv_istore_n (i := 3) (lv' := [(3, .int v2), (0, .ref th), (1, .int a0), (2, .int a1)]) hx hb dX12_lines_11 rfl hl (by decide) rfl (fun ls hl => ?_)
  refine lv_iload_n hx hb dX12_lines_12 rfl (lv_at hl 0 rfl) ?_
  obtain ⟨q8, hsq8, hs⟩ := bd hs
  have KJ34 : ∀ (ls : Array Slot) (H : Heap) (locs : List Loc), lv_has ls 4 [] → Mo D cy A H0 q8.2 H locs → W p l e rm_X12_lines s m args below meth c H locs 0 0 (MQ below (QR D cy qF.2 A (some (.int qF.1))) args s 0 0 A) (F0 m 34 ls [.int q8.1]) := by
    intro ls H locs hl M
    obtain rfl := Option.some.inj hs
    exact re_i F M dX12_lines_34
  clear hs
  have hs := hsq8
  refine lv_if_le (tgt := 24) hx hb dX12_lines_13 (by decide) (fun c3 => ?_) (fun c3 => ?_)
  · rw [if_pos c3] at hs
    refine lv_aload_n hx hb dX12_lines_24 rfl (lv_at hl 1 rfl) ?_
    obtain ⟨v4, g_v4, hs⟩ := bd hs
    refine ro_gR F M fg_12_9 t_1015 g_v4 dX12_lines_25 ?_
    refine lv_iconst (v := 3) hx hb dX12_lines_28 (by decide) ?_
    refine lv_iload_n hx hb dX12_lines_29 rfl (lv_at hl 2 rfl) ?_
    refine lv_imul hx hb dX12_lines_30 ?_
    refine lv_iload_n hx hb dX12_lines_31 rfl (lv_at hl 3 rfl) ?_
    refine lv_iadd hx hb dX12_lines_32 ?_
    obtain ⟨v5, g_v5, hs⟩ := bd hs
    refine ro_aI F M g_v5 dX12_lines_33 ?_
    obtain rfl := Option.some.inj hs
    exact KJ34 _ _ _ (lv_sub hl [] rfl) M
  · rw [if_neg c3] at hs
    refine lv_aload_n hx hb dX12_lines_16 rfl (lv_at hl 1 rfl) ?_
    refine lv_iload_n hx hb dX12_lines_17 rfl (lv_at hl 0 rfl) ?_
    obtain ⟨v6, g_v6, hs⟩ := bd hs
    obtain ⟨a7, e_a7, k_a7, g_v6⟩ := cV_some g_v6
    obtain rfl := Option.some.inj e_a7
    refine ca_Vi (bq := th) (As := [.int v2]) (rest := []) F M (c_X12_found g_v6) mf_X12_found t_1408 k_a7 rfl ⟨by decide, by decide⟩ ⟨rfl, rfl⟩ ⟨Nat.zero_le _, Nat.zero_le _⟩ hl.1 rfl (by decide) dX12_lines_18 (fun H locs M => ?_)
    refine lv_goto (tgt := 34) hx hb dX12_lines_21 (by decide) ?_
    obtain rfl := Option.some.inj hs
    exact KJ34 _ _ _ (lv_sub hl [] rfl) M
abbrev rm_X12_reasonOfLine : Room := { frames := 3, cells := 0, slots := 0, locals := 68 }
theorem mf_X12_reasonOfLine : MV 12 yX12_reasonOfLine cX12_reasonOfLine 5 (some .int) 3 RX12 := ⟨t_1419, t_1418, tS_107, t_12, ⟨by decide +kernel, by decide +kernel, by decide +kernel⟩, rfl, by decide⟩
def s_X12_reasonOfLine (h : IH) (th : Nat) (a0 : Int32) (a1 : Int32) (a2 : Int32) : Option (Int32) := (cV h 12 (some th) fun a8 => s_X12_reasonOfLog h a8 a0 a1).bind fun v1 => ((if v1 ≤ 0 then (gR h 12 9 (some th)).bind fun v3 => (aI h v3 ((3 * a0) + a1)).bind fun v4 => (s_X12_isIn h a2.toInt64 0 ((v4 - 1).toInt64)).bind fun v5 => if v5 = 0 then some 2 else some 0 else some v1) : Option (Int32)).bind fun q7 => some q7
set_option maxHeartbeats 4000000 in
set_option maxRecDepth 100000 in
theorem c_X12_reasonOfLine {l : Launch} {D : va_G} {cy : Nat → ClassId} {sz : Nat} {h : IH} {th : Nat} {a0 : Int32} {a1 : Int32} {a2 : Int32} {qF : Int32} (hs : s_X12_reasonOfLine h th a0 a1 a2 = some qF) : Ct l D cy yX12_reasonOfLine cX12_reasonOfLine 5 (some .int) rm_X12_reasonOfLine h sz [.ref th, .int a0, .int a1, .int a2] h (some (.int qF)) := by
  refine ct_start (by decide +kernel) [(0, .ref th), (1, .int a0), (2, .int a1), (3, .int a2)] (Nat.le_of_ble_eq_true rfl) rfl ?_
  intro p e s m args below meth c A H0 ls F hin hsz M hl
  obtain ⟨hx, hb, hr, hml, hown, hlk, hts, hK, hN, hA, hH⟩ := id F
  generalize s.heap = H at M ⊢
  generalize ([] : List Loc) = locs at M ⊢
  unfold s_X12_reasonOfLine at hs
  refine lv_aload_n hx hb dX12_reasonOfLine_0 rfl (lv_at hl 0 rfl) ?_
  refine lv_iload_n hx hb dX12_reasonOfLine_1 rfl (lv_at hl 1 rfl) ?_
  refine lv_iload_n hx hb dX12_reasonOfLine_2 rfl (lv_at hl 2 rfl) ?_
  obtain ⟨v1, g_v1, hs⟩ := bd hs
  obtain ⟨a8, e_a8, k_a8, g_v1⟩ := cV_some g_v1
  obtain rfl := Option.some.inj e_a8
  refine ca_Vi (bq := th) (As := [.int a0, .int a1]) (rest := []) F M (c_X12_reasonOfLog g_v1) mf_X12_reasonOfLog t_1404 k_a8 rfl ⟨by decide, by decide⟩ ⟨rfl, rfl⟩ ⟨Nat.zero_le _, Nat.zero_le _⟩ hl.1 rfl (by decide) dX12_reasonOfLine_3 (fun H locs M => ?_)
  refine lv_istore (i := 4) (lv' := [(4, .int v1), (0, .ref th), (1, .int a0), (2, .int a1), (3, .int a2)]) hx hb dX12_reasonOfLine_6 hl (by decide) rfl (fun ls hl => ?_)
  refine lv_iload hx hb dX12_reasonOfLine_8 (lv_at hl 0 rfl) ?_
  obtain ⟨q7, hsq7, hs⟩ := bd hs
  have KJ45 : ∀ (ls : Array Slot) (H : Heap) (locs : List Loc), lv_has ls 5 [] → Mo D cy A H0 h H locs → W p l e rm_X12_reasonOfLine s m args below meth c H locs 0 0 (MQ below (QR D cy h A (some (.int qF))) args s 0 0 A) (F0 m 45 ls [.int q7]) := by
    intro ls H locs hl M
    obtain rfl := Option.some.inj hs
    exact re_i F M dX12_reasonOfLine_45
  clear hs
  have hs := hsq7
  refine lv_if_le (tgt := 18) hx hb dX12_reasonOfLine_10 (by decide) (fun c2 => ?_) (fun c2 => ?_)
  · rw [if_pos c2] at hs
    refine lv_iload_n hx hb dX12_reasonOfLine_18 rfl (lv_at hl 4 rfl) ?_
    refine lv_i2l hx hb dX12_reasonOfLine_19 rfl ?_
    refine lv_lconst (v := 0) hx hb dX12_reasonOfLine_20 (by decide) ?_
    refine lv_aload_n hx hb dX12_reasonOfLine_21 rfl (lv_at hl 1 rfl) ?_
    obtain ⟨v3, g_v3, hs⟩ := bd hs
    refine ro_gR F M fg_12_9 t_1015 g_v3 dX12_reasonOfLine_22 ?_
    refine lv_iconst (v := 3) hx hb dX12_reasonOfLine_25 (by decide) ?_
    refine lv_iload_n hx hb dX12_reasonOfLine_26 rfl (lv_at hl 2 rfl) ?_
    refine lv_imul hx hb dX12_reasonOfLine_27 ?_
    refine lv_iload_n hx hb dX12_reasonOfLine_28 rfl (lv_at hl 3 rfl) ?_
    refine lv_iadd hx hb dX12_reasonOfLine_29 ?_
    obtain ⟨v4, g_v4, hs⟩ := bd hs
    refine ro_aI F M g_v4 dX12_reasonOfLine_30 ?_
    refine lv_iconst (v := 1) hx hb dX12_reasonOfLine_31 (by decide) ?_
    refine lv_isub hx hb dX12_reasonOfLine_32 ?_
    refine lv_i2l hx hb dX12_reasonOfLine_33 rfl ?_
    obtain ⟨v5, g_v5, hs⟩ := bd hs
    refine ca_Si (As := [.long a2.toInt64, .long 0, .long ((v4 - 1).toInt64)]) (rest := []) F M (c_X12_isIn g_v5) mf_X12_isIn t_1225 rfl ⟨by decide, by decide⟩ ⟨rfl, rfl⟩ ⟨Nat.zero_le _, Nat.zero_le _⟩ hl.1 rfl (by decide) dX12_reasonOfLine_34 (fun H locs M => ?_)
    refine lv_if_eq (tgt := 44) hx hb dX12_reasonOfLine_37 (by decide) (fun c6 => ?_) (fun c6 => ?_)
    · rw [if_pos c6] at hs
      refine lv_iconst (v := 2) hx hb dX12_reasonOfLine_44 (by decide) ?_
      obtain rfl := Option.some.inj hs
      exact KJ45 _ _ _ (lv_sub hl [] rfl) M
    · rw [if_neg c6] at hs
      refine lv_iconst (v := 0) hx hb dX12_reasonOfLine_40 (by decide) ?_
      refine lv_goto (tgt := 45) hx hb dX12_reasonOfLine_41 (by decide) ?_
      obtain rfl := Option.some.inj hs
      exact KJ45 _ _ _ (lv_sub hl [] rfl) M
  · rw [if_neg c2] at hs
    refine lv_iload hx hb dX12_reasonOfLine_13 (lv_at hl 0 rfl) ?_
    refine lv_goto (tgt := 45) hx hb dX12_reasonOfLine_15 (by decide) ?_
    obtain rfl := Option.some.inj hs
    exact KJ45 _ _ _ (lv_sub hl [] rfl) M
abbrev rm_X12_entryAt : Room := { frames := 0, cells := 0, slots := 0, locals := 0 }
theorem mf_X12_entryAt : MS yX12_entryAt cX12_entryAt 3 (some .int) 3 := ⟨t_1422, t_1421, t_12, ⟨by decide +kernel, by decide +kernel, by decide +kernel⟩⟩
def s_X12_entryAt (h : IH) (a0 : Int32) (a1 : Int32) (a2 : Int32) : Option (Int32) := some (((48 * a0) + (16 * a1)) + a2)
set_option maxHeartbeats 4000000 in
set_option maxRecDepth 100000 in
theorem c_X12_entryAt {l : Launch} {D : va_G} {cy : Nat → ClassId} {sz : Nat} {h : IH} {a0 : Int32} {a1 : Int32} {a2 : Int32} {qF : Int32} (hs : s_X12_entryAt h a0 a1 a2 = some qF) : Ct l D cy yX12_entryAt cX12_entryAt 3 (some .int) rm_X12_entryAt h sz [.int a0, .int a1, .int a2] h (some (.int qF)) := by
  refine ct_start (by decide +kernel) [(0, .int a0), (1, .int a1), (2, .int a2)] (Nat.le_of_ble_eq_true rfl) rfl ?_
  intro p e s m args below meth c A H0 ls F hin hsz M hl
  obtain ⟨hx, hb, hr, hml, hown, hlk, hts, hK, hN, hA, hH⟩ := id F
  generalize s.heap = H at M ⊢
  generalize ([] : List Loc) = locs at M ⊢
  unfold s_X12_entryAt at hs
  refine lv_bipush (v := 48) hx hb dX12_entryAt_0 (by decide) ?_
  refine lv_iload_n hx hb dX12_entryAt_2 rfl (lv_at hl 0 rfl) ?_
  refine lv_imul hx hb dX12_entryAt_3 ?_
  refine lv_bipush (v := 16) hx hb dX12_entryAt_4 (by decide) ?_
  refine lv_iload_n hx hb dX12_entryAt_6 rfl (lv_at hl 1 rfl) ?_
  refine lv_imul hx hb dX12_entryAt_7 ?_
  refine lv_iadd hx hb dX12_entryAt_8 ?_
  refine lv_iload_n hx hb dX12_entryAt_9 rfl (lv_at hl 2 rfl) ?_
  refine lv_iadd hx hb dX12_entryAt_10 ?_
  obtain rfl := Option.some.inj hs
  exact re_i F M dX12_entryAt_11
abbrev rm_X12_entry : Room := { frames := 7, cells := 0, slots := 0, locals := 177 }
theorem mf_X12_entry : MV 12 yX12_entry cX12_entry 5 (some .int) 3 RX12 := ⟨t_1415, t_1413, t_1414, t_12, ⟨by decide +kernel, by decide +kernel, by decide +kernel⟩, rfl, by decide⟩
def s_X12_entry (N : Nat) (h : IH) (th : Nat) (a0 : Int32) (a1 : Int32) (a2 : Int32) : Option (Int32 × IH) := (cV h 12 (some th) fun a11 => s_X12_begin N h a11 a0).bind fun v1 => (cV v1 12 (some th) fun a10 => s_X12_reasonOfLine v1 a10 a0 a1 a2).bind fun v2 => ((if v2 ≤ 0 then (gR v1 12 10 (some th)).bind fun v4 => (s_X12_entryAt v1 a0 a1 a2).bind fun v5 => (aI v1 v4 v5).bind fun v6 => some (v6, v1) else (cV v1 12 (some th) fun a8 => s_X12_found v1 a8 v2).bind fun v7 => some (v7.1, v7.2)) : Option (Int32 × IH)).bind fun q9 => some (q9.1, q9.2)
set_option maxHeartbeats 4000000 in
set_option maxRecDepth 100000 in
theorem c_X12_entry {l : Launch} {D : va_G} {cy : Nat → ClassId} {sz N : Nat} {h : IH} {th : Nat} {a0 : Int32} {a1 : Int32} {a2 : Int32} {qF : Int32 × IH} (hs : s_X12_entry N h th a0 a1 a2 = some qF) : Ct l D cy yX12_entry cX12_entry 5 (some .int) rm_X12_entry h sz [.ref th, .int a0, .int a1, .int a2] qF.2 (some (.int qF.1)) := by
  refine ct_start (by decide +kernel) [(0, .ref th), (1, .int a0), (2, .int a1), (3, .int a2)] (Nat.le_of_ble_eq_true rfl) rfl ?_
  intro p e s m args below meth c A H0 ls F hin hsz M hl
  obtain ⟨hx, hb, hr, hml, hown, hlk, hts, hK, hN, hA, hH⟩ := id F
  generalize s.heap = H at M ⊢
  generalize ([] : List Loc) = locs at M ⊢
  unfold s_X12_entry at hs
  refine lv_aload_n hx hb dX12_entry_0 rfl (lv_at hl 0 rfl) ?_
  refine lv_iload_n hx hb dX12_entry_1 rfl (lv_at hl 1 rfl) ?_
  obtain ⟨v1, g_v1, hs⟩ := bd hs
  obtain ⟨a11, e_a11, k_a11, g_v1⟩ := cV_some g_v1
  obtain rfl := Option.some.inj e_a11
  refine ca_Vv (bq := th) (As := [.int a0]) (rest := []) F M (c_X12_begin g_v1) mf_X12_begin t_1340 k_a11 rfl ⟨by decide, by decide⟩ ⟨rfl, rfl⟩ ⟨Nat.zero_le _, Nat.zero_le _⟩ hl.1 rfl (by decide) dX12_entry_2 (fun H locs M => ?_)
  refine lv_aload_n hx hb dX12_entry_5 rfl (lv_at hl 0 rfl) ?_
  refine lv_iload_n hx hb dX12_entry_6 rfl (lv_at hl 1 rfl) ?_
  refine lv_iload_n hx hb dX12_entry_7 rfl (lv_at hl 2 rfl) ?_
  refine lv_iload_n hx hb dX12_entry_8 rfl (lv_at hl 3 rfl) ?_
  obtain ⟨v2, g_v2, hs⟩ := bd hs
  obtain ⟨a10, e_a10, k_a10, g_v2⟩ := cV_some g_v2
  obtain rfl := Option.some.inj e_a10
  refine ca_Vi (bq := th) (As := [.int a0, .int a1, .int a2]) (rest := []) F M (c_X12_reasonOfLine g_v2) mf_X12_reasonOfLine t_1416 k_a10 rfl ⟨by decide, by decide⟩ ⟨rfl, rfl⟩ ⟨Nat.zero_le _, Nat.zero_le _⟩ hl.1 rfl (by decide) dX12_entry_9 (fun H locs M => ?_)
  refine lv_istore (i := 4) (lv' := [(4, .int v2), (0, .ref th), (1, .int a0), (2, .int a1), (3, .int a2)]) hx hb dX12_entry_12 hl (by decide) rfl (fun ls hl => ?_)
  refine lv_iload hx hb dX12_entry_14 (lv_at hl 0 rfl) ?_
  obtain ⟨q9, hsq9, hs⟩ := bd hs
  have KJ39 : ∀ (ls : Array Slot) (H : Heap) (locs : List Loc), lv_has ls 5 [] → Mo D cy A H0 q9.2 H locs → W p l e rm_X12_entry s m args below meth c H locs 0 0 (MQ below (QR D cy qF.2 A (some (.int qF.1))) args s 0 0 A) (F0 m 39 ls [.int q9.1]) := by
    intro ls H locs hl M
    obtain rfl := Option.some.inj hs
    exact re_i F M dX12_entry_39
  clear hs
  have hs := hsq9
  refine lv_if_le (tgt := 28) hx hb dX12_entry_16 (by decide) (fun c3 => ?_) (fun c3 => ?_)
  · rw [if_pos c3] at hs
    refine lv_aload_n hx hb dX12_entry_28 rfl (lv_at hl 1 rfl) ?_
    obtain ⟨v4, g_v4, hs⟩ := bd hs
    refine ro_gR F M fg_12_10 t_1016 g_v4 dX12_entry_29 ?_
    refine lv_iload_n hx hb dX12_entry_32 rfl (lv_at hl 2 rfl) ?_
    refine lv_iload_n hx hb dX12_entry_33 rfl (lv_at hl 3 rfl) ?_
    refine lv_iload_n hx hb dX12_entry_34 rfl (lv_at hl 4 rfl) ?_
    obtain ⟨v5, g_v5, hs⟩ := bd hs
    refine ca_Si (As := [.int a0, .int a1, .int a2]) (rest := [va_rf v4]) F M (c_X12_entryAt g_v5) mf_X12_entryAt t_1420 rfl ⟨by decide, by decide⟩ ⟨rfl, rfl⟩ ⟨Nat.zero_le _, Nat.zero_le _⟩ hl.1 rfl (by simp [cat_rf, cat_i, cat_j, cat_r]) dX12_entry_35 (fun H locs M => ?_)
    obtain ⟨v6, g_v6, hs⟩ := bd hs
    refine ro_aI F M g_v6 dX12_entry_38 ?_
    obtain rfl := Option.some.inj hs
    exact KJ39 _ _ _ (lv_sub hl [] rfl) M
  · rw [if_neg c3] at hs
    refine lv_aload_n hx hb dX12_entry_19 rfl (lv_at hl 1 rfl) ?_
    refine lv_iload hx hb dX12_entry_20 (lv_at hl 0 rfl) ?_
    obtain ⟨v7, g_v7, hs⟩ := bd hs
    obtain ⟨a8, e_a8, k_a8, g_v7⟩ := cV_some g_v7
    obtain rfl := Option.some.inj e_a8
    refine ca_Vi (bq := th) (As := [.int v2]) (rest := []) F M (c_X12_found g_v7) mf_X12_found t_1408 k_a8 rfl ⟨by decide, by decide⟩ ⟨rfl, rfl⟩ ⟨Nat.zero_le _, Nat.zero_le _⟩ hl.1 rfl (by decide) dX12_entry_22 (fun H locs M => ?_)
    refine lv_goto (tgt := 39) hx hb dX12_entry_25 (by decide) ?_
    obtain rfl := Option.some.inj hs
    exact KJ39 _ _ _ (lv_sub hl [] rfl) M
abbrev rm_X12_moment : Room := { frames := 7, cells := 0, slots := 0, locals := 177 }
theorem mf_X12_moment : MV 12 yX12_moment cX12_moment 7 (some .long) 4 RX12 := ⟨t_1426, t_1424, t_1425, t_12, ⟨by decide +kernel, by decide +kernel, by decide +kernel⟩, rfl, by decide⟩
def s_X12_moment (N : Nat) (h : IH) (th : Nat) (a0 : Int32) (a1 : Int32) (a2 : Int32) (a3 : Int32) : Option (Int64 × IH) := (cV h 12 (some th) fun a27 => s_X12_begin N h a27 a0).bind fun v1 => (cV v1 12 (some th) fun a26 => s_X12_reasonOfLine v1 a26 a0 a1 a2).bind fun v2 => if v2 ≤ 0 then (s_X12_entryAt v1 a0 a1 a2).bind fun v4 => (gR v1 12 10 (some th)).bind fun v5 => (aI v1 v5 v4).bind fun v6 => if v6 = 2 then (cV v1 12 (some th) fun a9 => s_X12_found v1 a9 3).bind fun v8 => some (v8.1.toInt64, v8.2) else (gR v1 12 10 (some th)).bind fun v10 => (aI v1 v10 v4).bind fun v11 => ((if v11 = 1 then some 1 else some 0) : Option (Int64)).bind fun q13 => (s_X12_isIn v1 a3.toInt64 0 q13).bind fun v14 => if v14 = 0 then (cV v1 12 (some th) fun a17 => s_X12_found v1 a17 2).bind fun v16 => some (v16.1.toInt64, v16.2) else ((if a3 = 0 then (gR v1 12 11 (some th)).bind fun v19 => (aJ v1 v19 v4).bind fun v20 => some v20 else (gR v1 12 12 (some th)).bind fun v21 => (aJ v1 v21 v4).bind fun v22 => some v22) : Option (Int64)).bind fun q23 => some (q23, v1) else (cV v1 12 (some th) fun a25 => s_X12_found v1 a25 v2).bind fun v24 => some (v24.1.toInt64, v24.2)
set_option maxHeartbeats 4000000 in
set_option maxRecDepth 100000 in
theorem c_X12_moment {l : Launch} {D : va_G} {cy : Nat → ClassId} {sz N : Nat} {h : IH} {th : Nat} {a0 : Int32} {a1 : Int32} {a2 : Int32} {a3 : Int32} {qF : Int64 × IH} (hs : s_X12_moment N h th a0 a1 a2 a3 = some qF) : Ct l D cy yX12_moment cX12_moment 7 (some .long) rm_X12_moment h sz [.ref th, .int a0, .int a1, .int a2, .int a3] qF.2 (some (.long qF.1)) := by
  refine ct_start (by decide +kernel) [(0, .ref th), (1, .int a0), (2, .int a1), (3, .int a2), (4, .int a3)] (Nat.le_of_ble_eq_true rfl) rfl ?_
  intro p e s m args below meth c A H0 ls F hin hsz M hl
  obtain ⟨hx, hb, hr, hml, hown, hlk, hts, hK, hN, hA, hH⟩ := id F
  generalize s.heap = H at M ⊢
  generalize ([] : List Loc) = locs at M ⊢
  unfold s_X12_moment at hs
  refine lv_aload_n hx hb dX12_moment_0 rfl (lv_at hl 0 rfl) ?_
  refine lv_iload_n hx hb dX12_moment_1 rfl (lv_at hl 1 rfl) ?_
  obtain ⟨v1, g_v1, hs⟩ := bd hs
  obtain ⟨a27, e_a27, k_a27, g_v1⟩ := cV_some g_v1
  obtain rfl := Option.some.inj e_a27
  refine ca_Vv (bq := th) (As := [.int a0]) (rest := []) F M (c_X12_begin g_v1) mf_X12_begin t_1340 k_a27 rfl ⟨by decide, by decide⟩ ⟨rfl, rfl⟩ ⟨Nat.zero_le _, Nat.zero_le _⟩ hl.1 rfl (by decide) dX12_moment_2 (fun H locs M => ?_)
  refine lv_aload_n hx hb dX12_moment_5 rfl (lv_at hl 0 rfl) ?_
  refine lv_iload_n hx hb dX12_moment_6 rfl (lv_at hl 1 rfl) ?_
  refine lv_iload_n hx hb dX12_moment_7 rfl (lv_at hl 2 rfl) ?_
  refine lv_iload_n hx hb dX12_moment_8 rfl (lv_at hl 3 rfl) ?_
  obtain ⟨v2, g_v2, hs⟩ := bd hs
  obtain ⟨a26, e_a26, k_a26, g_v2⟩ := cV_some g_v2
  obtain rfl := Option.some.inj e_a26
  refine ca_Vi (bq := th) (As := [.int a0, .int a1, .int a2]) (rest := []) F M (c_X12_reasonOfLine g_v2) mf_X12_reasonOfLine t_1416 k_a26 rfl ⟨by decide, by decide⟩ ⟨rfl, rfl⟩ ⟨Nat.zero_le _, Nat.zero_le _⟩ hl.1 rfl (by decide) dX12_moment_9 (fun H locs M => ?_)
  refine lv_istore (i := 5) (lv' := [(5, .int v2), (0, .ref th), (1, .int a0), (2, .int a1), (3, .int a2), (4, .int a3)]) hx hb dX12_moment_12 hl (by decide) rfl (fun ls hl => ?_)
  refine lv_iload hx hb dX12_moment_14 (lv_at hl 0 rfl) ?_
  refine lv_if_le (tgt := 27) hx hb dX12_moment_16 (by decide) (fun c3 => ?_) (fun c3 => ?_)
  · rw [if_pos c3] at hs
    refine lv_iload_n hx hb dX12_moment_27 rfl (lv_at hl 2 rfl) ?_
    refine lv_iload_n hx hb dX12_moment_28 rfl (lv_at hl 3 rfl) ?_
    refine lv_iload_n hx hb dX12_moment_29 rfl (lv_at hl 4 rfl) ?_
    obtain ⟨v4, g_v4, hs⟩ := bd hs
    refine ca_Si (As := [.int a0, .int a1, .int a2]) (rest := []) F M (c_X12_entryAt g_v4) mf_X12_entryAt t_1420 rfl ⟨by decide, by decide⟩ ⟨rfl, rfl⟩ ⟨Nat.zero_le _, Nat.zero_le _⟩ hl.1 rfl (by decide) dX12_moment_30 (fun H locs M => ?_)
    refine lv_istore (i := 6) (lv' := [(6, .int v4), (5, .int v2), (0, .ref th), (1, .int a0), (2, .int a1), (3, .int a2), (4, .int a3)]) hx hb dX12_moment_33 hl (by decide) rfl (fun ls hl => ?_)
    refine lv_aload_n hx hb dX12_moment_35 rfl (lv_at hl 2 rfl) ?_
    obtain ⟨v5, g_v5, hs⟩ := bd hs
    refine ro_gR F M fg_12_10 t_1016 g_v5 dX12_moment_36 ?_
    refine lv_iload hx hb dX12_moment_39 (lv_at hl 0 rfl) ?_
    obtain ⟨v6, g_v6, hs⟩ := bd hs
    refine ro_aI F M g_v6 dX12_moment_41 ?_
    refine lv_iconst (v := 2) hx hb dX12_moment_42 (by decide) ?_
    refine lv_icmp_ne (tgt := 53) hx hb dX12_moment_43 (by decide) (fun c7 => ?_) (fun c7 => ?_)
    · rw [if_neg c7] at hs
      refine lv_iload hx hb dX12_moment_53 (lv_at hl 6 rfl) ?_
      refine lv_i2l hx hb dX12_moment_55 rfl ?_
      refine lv_lconst (v := 0) hx hb dX12_moment_56 (by decide) ?_
      refine lv_aload_n hx hb dX12_moment_57 rfl (lv_at hl 2 rfl) ?_
      obtain ⟨v10, g_v10, hs⟩ := bd hs
      refine ro_gR F M fg_12_10 t_1016 g_v10 dX12_moment_58 ?_
      refine lv_iload hx hb dX12_moment_61 (lv_at hl 0 rfl) ?_
      obtain ⟨v11, g_v11, hs⟩ := bd hs
      refine ro_aI F M g_v11 dX12_moment_63 ?_
      refine lv_iconst (v := 1) hx hb dX12_moment_64 (by decide) ?_
      obtain ⟨q13, hsq13, hs⟩ := bd hs
      have KJ73 : ∀ (ls : Array Slot) (H : Heap) (locs : List Loc), lv_has ls 7 [(0, .ref th), (4, .int a3), (6, .int v4)] → Mo D cy A H0 v1 H locs → W p l e rm_X12_moment s m args below meth c H locs 0 0 (MQ below (QR D cy qF.2 A (some (.long qF.1))) args s 0 0 A) (F0 m 73 ls [.long q13, .long 0, .long a3.toInt64]) := by
        intro ls H locs hl M
        obtain ⟨v14, g_v14, hs⟩ := bd hs
        refine ca_Si (As := [.long a3.toInt64, .long 0, .long q13]) (rest := []) F M (c_X12_isIn g_v14) mf_X12_isIn t_1225 rfl ⟨by decide, by decide⟩ ⟨rfl, rfl⟩ ⟨Nat.zero_le _, Nat.zero_le _⟩ hl.1 rfl (by decide) dX12_moment_73 (fun H locs M => ?_)
        refine lv_if_ne (tgt := 86) hx hb dX12_moment_76 (by decide) (fun c15 => ?_) (fun c15 => ?_)
        · rw [if_neg c15] at hs
          refine lv_iload hx hb dX12_moment_86 (lv_at hl 1 rfl) ?_
          obtain ⟨q23, hsq23, hs⟩ := bd hs
          have KJ108 : ∀ (ls : Array Slot) (H : Heap) (locs : List Loc), lv_has ls 7 [] → Mo D cy A H0 v1 H locs → W p l e rm_X12_moment s m args below meth c H locs 0 0 (MQ below (QR D cy qF.2 A (some (.long qF.1))) args s 0 0 A) (F0 m 108 ls [.long q23]) := by
            intro ls H locs hl M
            obtain rfl := Option.some.inj hs
            exact re_l F M dX12_moment_108
          clear hs
          have hs := hsq23
          refine lv_if_ne (tgt := 101) hx hb dX12_moment_88 (by decide) (fun c18 => ?_) (fun c18 => ?_)
          · rw [if_neg c18] at hs
            refine lv_aload_n hx hb dX12_moment_101 rfl (lv_at hl 0 rfl) ?_
            obtain ⟨v21, g_v21, hs⟩ := bd hs
            refine ro_gR F M fg_12_12 t_1018 g_v21 dX12_moment_102 ?_
            refine lv_iload hx hb dX12_moment_105 (lv_at hl 2 rfl) ?_
            obtain ⟨v22, g_v22, hs⟩ := bd hs
            refine ro_aJ F M g_v22 dX12_moment_107 ?_
            obtain rfl := Option.some.inj hs
            exact KJ108 _ _ _ (lv_sub hl [] rfl) M
          · rw [if_pos c18] at hs
            refine lv_aload_n hx hb dX12_moment_91 rfl (lv_at hl 0 rfl) ?_
            obtain ⟨v19, g_v19, hs⟩ := bd hs
            refine ro_gR F M fg_12_11 t_1017 g_v19 dX12_moment_92 ?_
            refine lv_iload hx hb dX12_moment_95 (lv_at hl 2 rfl) ?_
            obtain ⟨v20, g_v20, hs⟩ := bd hs
            refine ro_aJ F M g_v20 dX12_moment_97 ?_
            refine lv_goto (tgt := 108) hx hb dX12_moment_98 (by decide) ?_
            obtain rfl := Option.some.inj hs
            exact KJ108 _ _ _ (lv_sub hl [] rfl) M
        · rw [if_pos c15] at hs
          refine lv_aload_n hx hb dX12_moment_79 rfl (lv_at hl 0 rfl) ?_
          refine lv_iconst (v := 2) hx hb dX12_moment_80 (by decide) ?_
          obtain ⟨v16, g_v16, hs⟩ := bd hs
          obtain ⟨a17, e_a17, k_a17, g_v16⟩ := cV_some g_v16
          obtain rfl := Option.some.inj e_a17
          refine ca_Vi (bq := th) (As := [.int 2]) (rest := []) F M (c_X12_found g_v16) mf_X12_found t_1408 k_a17 rfl ⟨by decide, by decide⟩ ⟨rfl, rfl⟩ ⟨Nat.zero_le _, Nat.zero_le _⟩ hl.1 rfl (by decide) dX12_moment_81 (fun H locs M => ?_)
          refine lv_i2l hx hb dX12_moment_84 rfl ?_
          obtain rfl := Option.some.inj hs
          exact re_l F M dX12_moment_85
      clear hs
      have hs := hsq13
      refine lv_icmp_ne (tgt := 72) hx hb dX12_moment_65 (by decide) (fun c12 => ?_) (fun c12 => ?_)
      · rw [if_neg c12] at hs
        refine lv_lconst (v := 0) hx hb dX12_moment_72 (by decide) ?_
        obtain rfl := Option.some.inj hs
        exact KJ73 _ _ _ (lv_sub hl [2, 6, 0] rfl) M
      · rw [if_pos c12] at hs
        refine lv_lconst (v := 1) hx hb dX12_moment_68 (by decide) ?_
        refine lv_goto (tgt := 73) hx hb dX12_moment_69 (by decide) ?_
        obtain rfl := Option.some.inj hs
        exact KJ73 _ _ _ (lv_sub hl [2, 6, 0] rfl) M
    · rw [if_pos c7] at hs
      refine lv_aload_n hx hb dX12_moment_46 rfl (lv_at hl 2 rfl) ?_
      refine lv_iconst (v := 3) hx hb dX12_moment_47 (by decide) ?_
      obtain ⟨v8, g_v8, hs⟩ := bd hs
      obtain ⟨a9, e_a9, k_a9, g_v8⟩ := cV_some g_v8
      obtain rfl := Option.some.inj e_a9
      refine ca_Vi (bq := th) (As := [.int 3]) (rest := []) F M (c_X12_found g_v8) mf_X12_found t_1408 k_a9 rfl ⟨by decide, by decide⟩ ⟨rfl, rfl⟩ ⟨Nat.zero_le _, Nat.zero_le _⟩ hl.1 rfl (by decide) dX12_moment_48 (fun H locs M => ?_)
      refine lv_i2l hx hb dX12_moment_51 rfl ?_
      obtain rfl := Option.some.inj hs
      exact re_l F M dX12_moment_52
  · rw [if_neg c3] at hs
    refine lv_aload_n hx hb dX12_moment_19 rfl (lv_at hl 1 rfl) ?_
    refine lv_iload hx hb dX12_moment_20 (lv_at hl 0 rfl) ?_
    obtain ⟨v24, g_v24, hs⟩ := bd hs
    obtain ⟨a25, e_a25, k_a25, g_v24⟩ := cV_some g_v24
    obtain rfl := Option.some.inj e_a25
    refine ca_Vi (bq := th) (As := [.int v2]) (rest := []) F M (c_X12_found g_v24) mf_X12_found t_1408 k_a25 rfl ⟨by decide, by decide⟩ ⟨rfl, rfl⟩ ⟨Nat.zero_le _, Nat.zero_le _⟩ hl.1 rfl (by decide) dX12_moment_22 (fun H locs M => ?_)
    refine lv_i2l hx hb dX12_moment_25 rfl ?_
    obtain rfl := Option.some.inj hs
    exact re_l F M dX12_moment_26
abbrev rm_X12_reasonOfContact : Room := { frames := 4, cells := 0, slots := 0, locals := 92 }
theorem mf_X12_reasonOfContact : MV 12 yX12_reasonOfContact cX12_reasonOfContact 5 (some .int) 3 RX12 := ⟨t_1434, t_1433, tS_108, t_12, ⟨by decide +kernel, by decide +kernel, by decide +kernel⟩, rfl, by decide⟩
def s_X12_reasonOfContact (h : IH) (th : Nat) (a0 : Int32) (a1 : Int32) (a2 : Int32) : Option (Int32) := (cV h 12 (some th) fun a7 => s_X12_reasonOfLine h a7 a0 a1 a2).bind fun v1 => ((if v1 ≤ 0 then (gR h 12 10 (some th)).bind fun v3 => (aI h v3 (((48 * a0) + (16 * a1)) + a2)).bind fun v4 => if v4 = 0 then some 0 else some 3 else some v1) : Option (Int32)).bind fun q6 => some q6
set_option maxHeartbeats 4000000 in
set_option maxRecDepth 100000 in
theorem c_X12_reasonOfContact {l : Launch} {D : va_G} {cy : Nat → ClassId} {sz : Nat} {h : IH} {th : Nat} {a0 : Int32} {a1 : Int32} {a2 : Int32} {qF : Int32} (hs : s_X12_reasonOfContact h th a0 a1 a2 = some qF) : Ct l D cy yX12_reasonOfContact cX12_reasonOfContact 5 (some .int) rm_X12_reasonOfContact h sz [.ref th, .int a0, .int a1, .int a2] h (some (.int qF)) := by
  refine ct_start (by decide +kernel) [(0, .ref th), (1, .int a0), (2, .int a1), (3, .int a2)] (Nat.le_of_ble_eq_true rfl) rfl ?_
  intro p e s m args below meth c A H0 ls F hin hsz M hl
  obtain ⟨hx, hb, hr, hml, hown, hlk, hts, hK, hN, hA, hH⟩ := id F
  generalize s.heap = H at M ⊢
  generalize ([] : List Loc) = locs at M ⊢
  unfold s_X12_reasonOfContact at hs
  refine lv_aload_n hx hb dX12_reasonOfContact_0 rfl (lv_at hl 0 rfl) ?_
  refine lv_iload_n hx hb dX12_reasonOfContact_1 rfl (lv_at hl 1 rfl) ?_
  refine lv_iload_n hx hb dX12_reasonOfContact_2 rfl (lv_at hl 2 rfl) ?_
  refine lv_iload_n hx hb dX12_reasonOfContact_3 rfl (lv_at hl 3 rfl) ?_
  obtain ⟨v1, g_v1, hs⟩ := bd hs
  obtain ⟨a7, e_a7, k_a7, g_v1⟩ := cV_some g_v1
  obtain rfl := Option.some.inj e_a7
  refine ca_Vi (bq := th) (As := [.int a0, .int a1, .int a2]) (rest := []) F M (c_X12_reasonOfLine g_v1) mf_X12_reasonOfLine t_1416 k_a7 rfl ⟨by decide, by decide⟩ ⟨rfl, rfl⟩ ⟨Nat.zero_le _, Nat.zero_le _⟩ hl.1 rfl (by decide) dX12_reasonOfContact_4 (fun H locs M => ?_)
  refine lv_istore (i := 4) (lv' := [(4, .int v1), (0, .ref th), (1, .int a0), (2, .int a1), (3, .int a2)]) hx hb dX12_reasonOfContact_7 hl (by decide) rfl (fun ls hl => ?_)
  refine lv_iload hx hb dX12_reasonOfContact_9 (lv_at hl 0 rfl) ?_
  obtain ⟨q6, hsq6, hs⟩ := bd hs
  have KJ43 : ∀ (ls : Array Slot) (H : Heap) (locs : List Loc), lv_has ls 5 [] → Mo D cy A H0 h H locs → W p l e rm_X12_reasonOfContact s m args below meth c H locs 0 0 (MQ below (QR D cy h A (some (.int qF))) args s 0 0 A) (F0 m 43 ls [.int q6]) := by
    intro ls H locs hl M
    obtain rfl := Option.some.inj hs
    exact re_i F M dX12_reasonOfContact_43
  clear hs
  have hs := hsq6
  refine lv_if_le (tgt := 19) hx hb dX12_reasonOfContact_11 (by decide) (fun c2 => ?_) (fun c2 => ?_)
  · rw [if_pos c2] at hs
    refine lv_aload_n hx hb dX12_reasonOfContact_19 rfl (lv_at hl 1 rfl) ?_
    obtain ⟨v3, g_v3, hs⟩ := bd hs
    refine ro_gR F M fg_12_10 t_1016 g_v3 dX12_reasonOfContact_20 ?_
    refine lv_bipush (v := 48) hx hb dX12_reasonOfContact_23 (by decide) ?_
    refine lv_iload_n hx hb dX12_reasonOfContact_25 rfl (lv_at hl 2 rfl) ?_
    refine lv_imul hx hb dX12_reasonOfContact_26 ?_
    refine lv_bipush (v := 16) hx hb dX12_reasonOfContact_27 (by decide) ?_
    refine lv_iload_n hx hb dX12_reasonOfContact_29 rfl (lv_at hl 3 rfl) ?_
    refine lv_imul hx hb dX12_reasonOfContact_30 ?_
    refine lv_iadd hx hb dX12_reasonOfContact_31 ?_
    refine lv_iload_n hx hb dX12_reasonOfContact_32 rfl (lv_at hl 4 rfl) ?_
    refine lv_iadd hx hb dX12_reasonOfContact_33 ?_
    obtain ⟨v4, g_v4, hs⟩ := bd hs
    refine ro_aI F M g_v4 dX12_reasonOfContact_34 ?_
    refine lv_if_ne (tgt := 42) hx hb dX12_reasonOfContact_35 (by decide) (fun c5 => ?_) (fun c5 => ?_)
    · rw [if_neg c5] at hs
      refine lv_iconst (v := 3) hx hb dX12_reasonOfContact_42 (by decide) ?_
      obtain rfl := Option.some.inj hs
      exact KJ43 _ _ _ (lv_sub hl [] rfl) M
    · rw [if_pos c5] at hs
      refine lv_iconst (v := 0) hx hb dX12_reasonOfContact_38 (by decide) ?_
      refine lv_goto (tgt := 43) hx hb dX12_reasonOfContact_39 (by decide) ?_
      obtain rfl := Option.some.inj hs
      exact KJ43 _ _ _ (lv_sub hl [] rfl) M
  · rw [if_neg c2] at hs
    refine lv_iload hx hb dX12_reasonOfContact_14 (lv_at hl 0 rfl) ?_
    refine lv_goto (tgt := 43) hx hb dX12_reasonOfContact_16 (by decide) ?_
    obtain rfl := Option.some.inj hs
    exact KJ43 _ _ _ (lv_sub hl [] rfl) M
abbrev rm_X12_character : Room := { frames := 7, cells := 0, slots := 0, locals := 177 }
theorem mf_X12_character : MV 12 yX12_character cX12_character 7 (some .int) 4 RX12 := ⟨t_1430, t_1428, t_1429, t_12, ⟨by decide +kernel, by decide +kernel, by decide +kernel⟩, rfl, by decide⟩
def s_X12_character (N : Nat) (h : IH) (th : Nat) (a0 : Int32) (a1 : Int32) (a2 : Int32) (a3 : Int32) : Option (Int32 × IH) := (cV h 12 (some th) fun a17 => s_X12_begin N h a17 a0).bind fun v1 => (cV v1 12 (some th) fun a16 => s_X12_reasonOfContact v1 a16 a0 a1 a2).bind fun v2 => if v2 ≤ 0 then (s_X12_entryAt v1 a0 a1 a2).bind fun v4 => (gR v1 12 13 (some th)).bind fun v5 => (aI v1 v5 v4).bind fun v6 => (s_X12_isIn v1 a3.toInt64 0 ((v6 - 1).toInt64)).bind fun v7 => ((if v7 = 0 then (cV v1 12 (some th) fun a10 => s_X12_found v1 a10 2).bind fun v9 => some (v9.1, v9.2) else (gR v1 12 14 (some th)).bind fun v11 => (aI v1 v11 ((6 * v4) + a3)).bind fun v12 => some (v12, v1)) : Option (Int32 × IH)).bind fun q13 => some (q13.1, q13.2) else (cV v1 12 (some th) fun a15 => s_X12_found v1 a15 v2).bind fun v14 => some (v14.1, v14.2)
set_option maxHeartbeats 4000000 in
set_option maxRecDepth 100000 in
theorem c_X12_character {l : Launch} {D : va_G} {cy : Nat → ClassId} {sz N : Nat} {h : IH} {th : Nat} {a0 : Int32} {a1 : Int32} {a2 : Int32} {a3 : Int32} {qF : Int32 × IH} (hs : s_X12_character N h th a0 a1 a2 a3 = some qF) : Ct l D cy yX12_character cX12_character 7 (some .int) rm_X12_character h sz [.ref th, .int a0, .int a1, .int a2, .int a3] qF.2 (some (.int qF.1)) := by
  refine ct_start (by decide +kernel) [(0, .ref th), (1, .int a0), (2, .int a1), (3, .int a2), (4, .int a3)] (Nat.le_of_ble_eq_true rfl) rfl ?_
  intro p e s m args below meth c A H0 ls F hin hsz M hl
  obtain ⟨hx, hb, hr, hml, hown, hlk, hts, hK, hN, hA, hH⟩ := id F
  generalize s.heap = H at M ⊢
  generalize ([] : List Loc) = locs at M ⊢
  unfold s_X12_character at hs
  refine lv_aload_n hx hb dX12_character_0 rfl (lv_at hl 0 rfl) ?_
  refine lv_iload_n hx hb dX12_character_1 rfl (lv_at hl 1 rfl) ?_
  obtain ⟨v1, g_v1, hs⟩ := bd hs
  obtain ⟨a17, e_a17, k_a17, g_v1⟩ := cV_some g_v1
  obtain rfl := Option.some.inj e_a17
  refine ca_Vv (bq := th) (As := [.int a0]) (rest := []) F M (c_X12_begin g_v1) mf_X12_begin t_1340 k_a17 rfl ⟨by decide, by decide⟩ ⟨rfl, rfl⟩ ⟨Nat.zero_le _, Nat.zero_le _⟩ hl.1 rfl (by decide) dX12_character_2 (fun H locs M => ?_)
  refine lv_aload_n hx hb dX12_character_5 rfl (lv_at hl 0 rfl) ?_
  refine lv_iload_n hx hb dX12_character_6 rfl (lv_at hl 1 rfl) ?_
  refine lv_iload_n hx hb dX12_character_7 rfl (lv_at hl 2 rfl) ?_
  refine lv_iload_n hx hb dX12_character_8 rfl (lv_at hl 3 rfl) ?_
  obtain ⟨v2, g_v2, hs⟩ := bd hs
  obtain ⟨a16, e_a16, k_a16, g_v2⟩ := cV_some g_v2
  obtain rfl := Option.some.inj e_a16
  refine ca_Vi (bq := th) (As := [.int a0, .int a1, .int a2]) (rest := []) F M (c_X12_reasonOfContact g_v2) mf_X12_reasonOfContact t_1431 k_a16 rfl ⟨by decide, by decide⟩ ⟨rfl, rfl⟩ ⟨Nat.zero_le _, Nat.zero_le _⟩ hl.1 rfl (by decide) dX12_character_9 (fun H locs M => ?_)
  refine lv_istore (i := 5) (lv' := [(5, .int v2), (0, .ref th), (1, .int a0), (2, .int a1), (3, .int a2), (4, .int a3)]) hx hb dX12_character_12 hl (by decide) rfl (fun ls hl => ?_)
  refine lv_iload hx hb dX12_character_14 (lv_at hl 0 rfl) ?_
  refine lv_if_le (tgt := 26) hx hb dX12_character_16 (by decide) (fun c3 => ?_) (fun c3 => ?_)
  · rw [if_pos c3] at hs
    refine lv_iload_n hx hb dX12_character_26 rfl (lv_at hl 2 rfl) ?_
    refine lv_iload_n hx hb dX12_character_27 rfl (lv_at hl 3 rfl) ?_
    refine lv_iload_n hx hb dX12_character_28 rfl (lv_at hl 4 rfl) ?_
    obtain ⟨v4, g_v4, hs⟩ := bd hs
    refine ca_Si (As := [.int a0, .int a1, .int a2]) (rest := []) F M (c_X12_entryAt g_v4) mf_X12_entryAt t_1420 rfl ⟨by decide, by decide⟩ ⟨rfl, rfl⟩ ⟨Nat.zero_le _, Nat.zero_le _⟩ hl.1 rfl (by decide) dX12_character_29 (fun H locs M => ?_)
    refine lv_istore (i := 6) (lv' := [(6, .int v4), (5, .int v2), (0, .ref th), (1, .int a0), (2, .int a1), (3, .int a2), (4, .int a3)]) hx hb dX12_character_32 hl (by decide) rfl (fun ls hl => ?_)
    refine lv_iload hx hb dX12_character_34 (lv_at hl 6 rfl) ?_
    refine lv_i2l hx hb dX12_character_36 rfl ?_
    refine lv_lconst (v := 0) hx hb dX12_character_37 (by decide) ?_
    refine lv_aload_n hx hb dX12_character_38 rfl (lv_at hl 2 rfl) ?_
    obtain ⟨v5, g_v5, hs⟩ := bd hs
    refine ro_gR F M fg_12_13 t_1019 g_v5 dX12_character_39 ?_
    refine lv_iload hx hb dX12_character_42 (lv_at hl 0 rfl) ?_
    obtain ⟨v6, g_v6, hs⟩ := bd hs
    refine ro_aI F M g_v6 dX12_character_44 ?_
    refine lv_iconst (v := 1) hx hb dX12_character_45 (by decide) ?_
    refine lv_isub hx hb dX12_character_46 ?_
    refine lv_i2l hx hb dX12_character_47 rfl ?_
    obtain ⟨v7, g_v7, hs⟩ := bd hs
    refine ca_Si (As := [.long a3.toInt64, .long 0, .long ((v6 - 1).toInt64)]) (rest := []) F M (c_X12_isIn g_v7) mf_X12_isIn t_1225 rfl ⟨by decide, by decide⟩ ⟨rfl, rfl⟩ ⟨Nat.zero_le _, Nat.zero_le _⟩ hl.1 rfl (by decide) dX12_character_48 (fun H locs M => ?_)
    obtain ⟨q13, hsq13, hs⟩ := bd hs
    have KJ75 : ∀ (ls : Array Slot) (H : Heap) (locs : List Loc), lv_has ls 7 [] → Mo D cy A H0 q13.2 H locs → W p l e rm_X12_character s m args below meth c H locs 0 0 (MQ below (QR D cy qF.2 A (some (.int qF.1))) args s 0 0 A) (F0 m 75 ls [.int q13.1]) := by
      intro ls H locs hl M
      obtain rfl := Option.some.inj hs
      exact re_i F M dX12_character_75
    clear hs
    have hs := hsq13
    refine lv_if_eq (tgt := 70) hx hb dX12_character_51 (by decide) (fun c8 => ?_) (fun c8 => ?_)
    · rw [if_pos c8] at hs
      refine lv_aload_n hx hb dX12_character_70 rfl (lv_at hl 2 rfl) ?_
      refine lv_iconst (v := 2) hx hb dX12_character_71 (by decide) ?_
      obtain ⟨v9, g_v9, hs⟩ := bd hs
      obtain ⟨a10, e_a10, k_a10, g_v9⟩ := cV_some g_v9
      obtain rfl := Option.some.inj e_a10
      refine ca_Vi (bq := th) (As := [.int 2]) (rest := []) F M (c_X12_found g_v9) mf_X12_found t_1408 k_a10 rfl ⟨by decide, by decide⟩ ⟨rfl, rfl⟩ ⟨Nat.zero_le _, Nat.zero_le _⟩ hl.1 rfl (by decide) dX12_character_72 (fun H locs M => ?_)
      obtain rfl := Option.some.inj hs
      exact KJ75 _ _ _ (lv_sub hl [] rfl) M
    · rw [if_neg c8] at hs
      refine lv_aload_n hx hb dX12_character_54 rfl (lv_at hl 2 rfl) ?_
      obtain ⟨v11, g_v11, hs⟩ := bd hs
      refine ro_gR F M fg_12_14 t_1020 g_v11 dX12_character_55 ?_
      refine lv_bipush (v := 6) hx hb dX12_character_58 (by decide) ?_
      refine lv_iload hx hb dX12_character_60 (lv_at hl 0 rfl) ?_
      refine lv_imul hx hb dX12_character_62 ?_
      refine lv_iload hx hb dX12_character_63 (lv_at hl 6 rfl) ?_
      refine lv_iadd hx hb dX12_character_65 ?_
      obtain ⟨v12, g_v12, hs⟩ := bd hs
      refine ro_aI F M g_v12 dX12_character_66 ?_
      refine lv_goto (tgt := 75) hx hb dX12_character_67 (by decide) ?_
      obtain rfl := Option.some.inj hs
      exact KJ75 _ _ _ (lv_sub hl [] rfl) M
  · rw [if_neg c3] at hs
    refine lv_aload_n hx hb dX12_character_19 rfl (lv_at hl 1 rfl) ?_
    refine lv_iload hx hb dX12_character_20 (lv_at hl 0 rfl) ?_
    obtain ⟨v14, g_v14, hs⟩ := bd hs
    obtain ⟨a15, e_a15, k_a15, g_v14⟩ := cV_some g_v14
    obtain rfl := Option.some.inj e_a15
    refine ca_Vi (bq := th) (As := [.int v2]) (rest := []) F M (c_X12_found g_v14) mf_X12_found t_1408 k_a15 rfl ⟨by decide, by decide⟩ ⟨rfl, rfl⟩ ⟨Nat.zero_le _, Nat.zero_le _⟩ hl.1 rfl (by decide) dX12_character_22 (fun H locs M => ?_)
    obtain rfl := Option.some.inj hs
    exact re_i F M dX12_character_25
abbrev rm_X12_number : Room := { frames := 7, cells := 0, slots := 0, locals := 177 }
theorem mf_X12_number : MV 12 yX12_number cX12_number 8 (some .int) 4 RX12 := ⟨t_1438, t_1436, t_1437, t_12, ⟨by decide +kernel, by decide +kernel, by decide +kernel⟩, rfl, by decide⟩
def s_X12_number (N : Nat) (h : IH) (th : Nat) (a0 : Int32) (a1 : Int32) (a2 : Int32) (a3 : Int32) : Option (Int32 × IH) := (cV h 12 (some th) fun a19 => s_X12_begin N h a19 a0).bind fun v1 => (cV v1 12 (some th) fun a18 => s_X12_reasonOfContact v1 a18 a0 a1 a2).bind fun v2 => if v2 ≤ 0 then (s_X12_entryAt v1 a0 a1 a2).bind fun v4 => ((if a3 = 0 then (gR v1 12 15 (some th)).bind fun v6 => (aI v1 v6 v4).bind fun v7 => some v7 else if a3 = 1 then (gR v1 12 16 (some th)).bind fun v9 => (aI v1 v9 v4).bind fun v10 => some v10 else some (-1)) : Option (Int32)).bind fun q11 => ((if 0 ≤ q11 then some (q11, v1) else (cV v1 12 (some th) fun a14 => s_X12_found v1 a14 2).bind fun v13 => some (v13.1, v13.2)) : Option (Int32 × IH)).bind fun q15 => some (q15.1, q15.2) else (cV v1 12 (some th) fun a17 => s_X12_found v1 a17 v2).bind fun v16 => some (v16.1, v16.2)
set_option maxHeartbeats 4000000 in
set_option maxRecDepth 100000 in
theorem c_X12_number {l : Launch} {D : va_G} {cy : Nat → ClassId} {sz N : Nat} {h : IH} {th : Nat} {a0 : Int32} {a1 : Int32} {a2 : Int32} {a3 : Int32} {qF : Int32 × IH} (hs : s_X12_number N h th a0 a1 a2 a3 = some qF) : Ct l D cy yX12_number cX12_number 8 (some .int) rm_X12_number h sz [.ref th, .int a0, .int a1, .int a2, .int a3] qF.2 (some (.int qF.1)) := by
  refine ct_start (by decide +kernel) [(0, .ref th), (1, .int a0), (2, .int a1), (3, .int a2), (4, .int a3)] (Nat.le_of_ble_eq_true rfl) rfl ?_
  intro p e s m args below meth c A H0 ls F hin hsz M hl
  obtain ⟨hx, hb, hr, hml, hown, hlk, hts, hK, hN, hA, hH⟩ := id F
  generalize s.heap = H at M ⊢
  generalize ([] : List Loc) = locs at M ⊢
  unfold s_X12_number at hs
  refine lv_aload_n hx hb dX12_number_0 rfl (lv_at hl 0 rfl) ?_
  refine lv_iload_n hx hb dX12_number_1 rfl (lv_at hl 1 rfl) ?_
  obtain ⟨v1, g_v1, hs⟩ := bd hs
  obtain ⟨a19, e_a19, k_a19, g_v1⟩ := cV_some g_v1
  obtain rfl := Option.some.inj e_a19
  refine ca_Vv (bq := th) (As := [.int a0]) (rest := []) F M (c_X12_begin g_v1) mf_X12_begin t_1340 k_a19 rfl ⟨by decide, by decide⟩ ⟨rfl, rfl⟩ ⟨Nat.zero_le _, Nat.zero_le _⟩ hl.1 rfl (by decide) dX12_number_2 (fun H locs M => ?_)
  refine lv_aload_n hx hb dX12_number_5 rfl (lv_at hl 0 rfl) ?_
  refine lv_iload_n hx hb dX12_number_6 rfl (lv_at hl 1 rfl) ?_
  refine lv_iload_n hx hb dX12_number_7 rfl (lv_at hl 2 rfl) ?_
  refine lv_iload_n hx hb dX12_number_8 rfl (lv_at hl 3 rfl) ?_
  obtain ⟨v2, g_v2, hs⟩ := bd hs
  obtain ⟨a18, e_a18, k_a18, g_v2⟩ := cV_some g_v2
  obtain rfl := Option.some.inj e_a18
  refine ca_Vi (bq := th) (As := [.int a0, .int a1, .int a2]) (rest := []) F M (c_X12_reasonOfContact g_v2) mf_X12_reasonOfContact t_1431 k_a18 rfl ⟨by decide, by decide⟩ ⟨rfl, rfl⟩ ⟨Nat.zero_le _, Nat.zero_le _⟩ hl.1 rfl (by decide) dX12_number_9 (fun H locs M => ?_)
  refine lv_istore (i := 5) (lv' := [(5, .int v2), (0, .ref th), (1, .int a0), (2, .int a1), (3, .int a2), (4, .int a3)]) hx hb dX12_number_12 hl (by decide) rfl (fun ls hl => ?_)
  refine lv_iload hx hb dX12_number_14 (lv_at hl 0 rfl) ?_
  refine lv_if_le (tgt := 26) hx hb dX12_number_16 (by decide) (fun c3 => ?_) (fun c3 => ?_)
  · rw [if_pos c3] at hs
    refine lv_iload_n hx hb dX12_number_26 rfl (lv_at hl 2 rfl) ?_
    refine lv_iload_n hx hb dX12_number_27 rfl (lv_at hl 3 rfl) ?_
    refine lv_iload_n hx hb dX12_number_28 rfl (lv_at hl 4 rfl) ?_
    obtain ⟨v4, g_v4, hs⟩ := bd hs
    refine ca_Si (As := [.int a0, .int a1, .int a2]) (rest := []) F M (c_X12_entryAt g_v4) mf_X12_entryAt t_1420 rfl ⟨by decide, by decide⟩ ⟨rfl, rfl⟩ ⟨Nat.zero_le _, Nat.zero_le _⟩ hl.1 rfl (by decide) dX12_number_29 (fun H locs M => ?_)
    refine lv_istore (i := 6) (lv' := [(6, .int v4), (5, .int v2), (0, .ref th), (1, .int a0), (2, .int a1), (3, .int a2), (4, .int a3)]) hx hb dX12_number_32 hl (by decide) rfl (fun ls hl => ?_)
    refine lv_iload hx hb dX12_number_34 (lv_at hl 6 rfl) ?_
    obtain ⟨q11, hsq11, hs⟩ := bd hs
    have KJ66 : ∀ (ls : Array Slot) (H : Heap) (locs : List Loc), lv_has ls 8 [(0, .ref th)] → Mo D cy A H0 v1 H locs → W p l e rm_X12_number s m args below meth c H locs 0 0 (MQ below (QR D cy qF.2 A (some (.int qF.1))) args s 0 0 A) (F0 m 66 ls [.int q11]) := by
      intro ls H locs hl M
      refine lv_istore (i := 7) (lv' := [(7, .int q11), (0, .ref th)]) hx hb dX12_number_66 hl (by decide) rfl (fun ls hl => ?_)
      refine lv_iload hx hb dX12_number_68 (lv_at hl 0 rfl) ?_
      obtain ⟨q15, hsq15, hs⟩ := bd hs
      have KJ83 : ∀ (ls : Array Slot) (H : Heap) (locs : List Loc), lv_has ls 8 [] → Mo D cy A H0 q15.2 H locs → W p l e rm_X12_number s m args below meth c H locs 0 0 (MQ below (QR D cy qF.2 A (some (.int qF.1))) args s 0 0 A) (F0 m 83 ls [.int q15.1]) := by
        intro ls H locs hl M
        obtain rfl := Option.some.inj hs
        exact re_i F M dX12_number_83
      clear hs
      have hs := hsq15
      refine lv_if_ge (tgt := 81) hx hb dX12_number_70 (by decide) (fun c12 => ?_) (fun c12 => ?_)
      · rw [if_pos c12] at hs
        refine lv_iload hx hb dX12_number_81 (lv_at hl 0 rfl) ?_
        obtain rfl := Option.some.inj hs
        exact KJ83 _ _ _ (lv_sub hl [] rfl) M
      · rw [if_neg c12] at hs
        refine lv_aload_n hx hb dX12_number_73 rfl (lv_at hl 1 rfl) ?_
        refine lv_iconst (v := 2) hx hb dX12_number_74 (by decide) ?_
        obtain ⟨v13, g_v13, hs⟩ := bd hs
        obtain ⟨a14, e_a14, k_a14, g_v13⟩ := cV_some g_v13
        obtain rfl := Option.some.inj e_a14
        refine ca_Vi (bq := th) (As := [.int 2]) (rest := []) F M (c_X12_found g_v13) mf_X12_found t_1408 k_a14 rfl ⟨by decide, by decide⟩ ⟨rfl, rfl⟩ ⟨Nat.zero_le _, Nat.zero_le _⟩ hl.1 rfl (by decide) dX12_number_75 (fun H locs M => ?_)
        refine lv_goto (tgt := 83) hx hb dX12_number_78 (by decide) ?_
        obtain rfl := Option.some.inj hs
        exact KJ83 _ _ _ (lv_sub hl [] rfl) M
    clear hs
    have hs := hsq11
    refine lv_if_ne (tgt := 49) hx hb dX12_number_36 (by decide) (fun c5 => ?_) (fun c5 => ?_)
    · rw [if_neg c5] at hs
      refine lv_iload hx hb dX12_number_49 (lv_at hl 6 rfl) ?_
      refine lv_iconst (v := 1) hx hb dX12_number_51 (by decide) ?_
      refine lv_icmp_ne (tgt := 65) hx hb dX12_number_52 (by decide) (fun c8 => ?_) (fun c8 => ?_)
      · rw [if_neg c8] at hs
        refine lv_iconst (v := (-1)) hx hb dX12_number_65 (by decide) ?_
        obtain rfl := Option.some.inj hs
        exact KJ66 _ _ _ (lv_sub hl [2] rfl) M
      · rw [if_pos c8] at hs
        refine lv_aload_n hx hb dX12_number_55 rfl (lv_at hl 2 rfl) ?_
        obtain ⟨v9, g_v9, hs⟩ := bd hs
        refine ro_gR F M fg_12_16 t_1022 g_v9 dX12_number_56 ?_
        refine lv_iload hx hb dX12_number_59 (lv_at hl 0 rfl) ?_
        obtain ⟨v10, g_v10, hs⟩ := bd hs
        refine ro_aI F M g_v10 dX12_number_61 ?_
        refine lv_goto (tgt := 66) hx hb dX12_number_62 (by decide) ?_
        obtain rfl := Option.some.inj hs
        exact KJ66 _ _ _ (lv_sub hl [2] rfl) M
    · rw [if_pos c5] at hs
      refine lv_aload_n hx hb dX12_number_39 rfl (lv_at hl 2 rfl) ?_
      obtain ⟨v6, g_v6, hs⟩ := bd hs
      refine ro_gR F M fg_12_15 t_1021 g_v6 dX12_number_40 ?_
      refine lv_iload hx hb dX12_number_43 (lv_at hl 0 rfl) ?_
      obtain ⟨v7, g_v7, hs⟩ := bd hs
      refine ro_aI F M g_v7 dX12_number_45 ?_
      refine lv_goto (tgt := 66) hx hb dX12_number_46 (by decide) ?_
      obtain rfl := Option.some.inj hs
      exact KJ66 _ _ _ (lv_sub hl [2] rfl) M
  · rw [if_neg c3] at hs
    refine lv_aload_n hx hb dX12_number_19 rfl (lv_at hl 1 rfl) ?_
    refine lv_iload hx hb dX12_number_20 (lv_at hl 0 rfl) ?_
    obtain ⟨v16, g_v16, hs⟩ := bd hs
    obtain ⟨a17, e_a17, k_a17, g_v16⟩ := cV_some g_v16
    obtain rfl := Option.some.inj e_a17
    refine ca_Vi (bq := th) (As := [.int v2]) (rest := []) F M (c_X12_found g_v16) mf_X12_found t_1408 k_a17 rfl ⟨by decide, by decide⟩ ⟨rfl, rfl⟩ ⟨Nat.zero_le _, Nat.zero_le _⟩ hl.1 rfl (by decide) dX12_number_22 (fun H locs M => ?_)
    obtain rfl := Option.some.inj hs
    exact re_i F M dX12_number_25
abbrev rm_X12_offset : Room := { frames := 7, cells := 0, slots := 0, locals := 177 }
theorem mf_X12_offset : MV 12 yX12_offset cX12_offset 2 (some .long) 1 RX12 := ⟨t_1442, t_1440, t_1441, t_12, ⟨by decide +kernel, by decide +kernel, by decide +kernel⟩, rfl, by decide⟩
def s_X12_offset (N : Nat) (h : IH) (th : Nat) (a0 : Int32) : Option (Int64 × IH) := (cV h 12 (some th) fun a15 => s_X12_begin N h a15 a0).bind fun v1 => (cV v1 12 (some th) fun a14 => s_X12_isStation v1 a14 a0).bind fun v2 => if v2 = 0 then (cV v1 12 (some th) fun a5 => s_X12_found v1 a5 4).bind fun v4 => some (v4.1.toInt64, v4.2) else (cV v1 12 (some th) fun a13 => s_X12_hasLog v1 a13 a0).bind fun v6 => ((if v6 = 0 then (cV v1 12 (some th) fun a9 => s_X12_found v1 a9 7).bind fun v8 => some (v8.1.toInt64, v8.2) else (gR v1 12 20 (some th)).bind fun v10 => (aJ v1 v10 a0).bind fun v11 => some (v11, v1)) : Option (Int64 × IH)).bind fun q12 => some (q12.1, q12.2)
set_option maxHeartbeats 4000000 in
set_option maxRecDepth 100000 in
theorem c_X12_offset {l : Launch} {D : va_G} {cy : Nat → ClassId} {sz N : Nat} {h : IH} {th : Nat} {a0 : Int32} {qF : Int64 × IH} (hs : s_X12_offset N h th a0 = some qF) : Ct l D cy yX12_offset cX12_offset 2 (some .long) rm_X12_offset h sz [.ref th, .int a0] qF.2 (some (.long qF.1)) := by
  refine ct_start (by decide +kernel) [(0, .ref th), (1, .int a0)] (Nat.le_of_ble_eq_true rfl) rfl ?_
  intro p e s m args below meth c A H0 ls F hin hsz M hl
  obtain ⟨hx, hb, hr, hml, hown, hlk, hts, hK, hN, hA, hH⟩ := id F
  generalize s.heap = H at M ⊢
  generalize ([] : List Loc) = locs at M ⊢
  unfold s_X12_offset at hs
  refine lv_aload_n hx hb dX12_offset_0 rfl (lv_at hl 0 rfl) ?_
  refine lv_iload_n hx hb dX12_offset_1 rfl (lv_at hl 1 rfl) ?_
  obtain ⟨v1, g_v1, hs⟩ := bd hs
  obtain ⟨a15, e_a15, k_a15, g_v1⟩ := cV_some g_v1
  obtain rfl := Option.some.inj e_a15
  refine ca_Vv (bq := th) (As := [.int a0]) (rest := []) F M (c_X12_begin g_v1) mf_X12_begin t_1340 k_a15 rfl ⟨by decide, by decide⟩ ⟨rfl, rfl⟩ ⟨Nat.zero_le _, Nat.zero_le _⟩ hl.1 rfl (by decide) dX12_offset_2 (fun H locs M => ?_)
  refine lv_aload_n hx hb dX12_offset_5 rfl (lv_at hl 0 rfl) ?_
  refine lv_iload_n hx hb dX12_offset_6 rfl (lv_at hl 1 rfl) ?_
  obtain ⟨v2, g_v2, hs⟩ := bd hs
  obtain ⟨a14, e_a14, k_a14, g_v2⟩ := cV_some g_v2
  obtain rfl := Option.some.inj e_a14
  refine ca_Vi (bq := th) (As := [.int a0]) (rest := []) F M (c_X12_isStation g_v2) mf_X12_isStation t_1259 k_a14 rfl ⟨by decide, by decide⟩ ⟨rfl, rfl⟩ ⟨Nat.zero_le _, Nat.zero_le _⟩ hl.1 rfl (by decide) dX12_offset_7 (fun H locs M => ?_)
  refine lv_if_ne (tgt := 20) hx hb dX12_offset_10 (by decide) (fun c3 => ?_) (fun c3 => ?_)
  · rw [if_neg c3] at hs
    refine lv_aload_n hx hb dX12_offset_20 rfl (lv_at hl 0 rfl) ?_
    refine lv_iload_n hx hb dX12_offset_21 rfl (lv_at hl 1 rfl) ?_
    obtain ⟨v6, g_v6, hs⟩ := bd hs
    obtain ⟨a13, e_a13, k_a13, g_v6⟩ := cV_some g_v6
    obtain rfl := Option.some.inj e_a13
    refine ca_Vi (bq := th) (As := [.int a0]) (rest := []) F M (c_X12_hasLog g_v6) mf_X12_hasLog t_1356 k_a13 rfl ⟨by decide, by decide⟩ ⟨rfl, rfl⟩ ⟨Nat.zero_le _, Nat.zero_le _⟩ hl.1 rfl (by decide) dX12_offset_22 (fun H locs M => ?_)
    obtain ⟨q12, hsq12, hs⟩ := bd hs
    have KJ44 : ∀ (ls : Array Slot) (H : Heap) (locs : List Loc), lv_has ls 2 [] → Mo D cy A H0 q12.2 H locs → W p l e rm_X12_offset s m args below meth c H locs 0 0 (MQ below (QR D cy qF.2 A (some (.long qF.1))) args s 0 0 A) (F0 m 44 ls [.long q12.1]) := by
      intro ls H locs hl M
      obtain rfl := Option.some.inj hs
      exact re_l F M dX12_offset_44
    clear hs
    have hs := hsq12
    refine lv_if_eq (tgt := 37) hx hb dX12_offset_25 (by decide) (fun c7 => ?_) (fun c7 => ?_)
    · rw [if_pos c7] at hs
      refine lv_aload_n hx hb dX12_offset_37 rfl (lv_at hl 0 rfl) ?_
      refine lv_bipush (v := 7) hx hb dX12_offset_38 (by decide) ?_
      obtain ⟨v8, g_v8, hs⟩ := bd hs
      obtain ⟨a9, e_a9, k_a9, g_v8⟩ := cV_some g_v8
      obtain rfl := Option.some.inj e_a9
      refine ca_Vi (bq := th) (As := [.int 7]) (rest := []) F M (c_X12_found g_v8) mf_X12_found t_1408 k_a9 rfl ⟨by decide, by decide⟩ ⟨rfl, rfl⟩ ⟨Nat.zero_le _, Nat.zero_le _⟩ hl.1 rfl (by decide) dX12_offset_40 (fun H locs M => ?_)
      refine lv_i2l hx hb dX12_offset_43 rfl ?_
      obtain rfl := Option.some.inj hs
      exact KJ44 _ _ _ (lv_sub hl [] rfl) M
    · rw [if_neg c7] at hs
      refine lv_aload_n hx hb dX12_offset_28 rfl (lv_at hl 0 rfl) ?_
      obtain ⟨v10, g_v10, hs⟩ := bd hs
      refine ro_gR F M fg_12_20 t_1026 g_v10 dX12_offset_29 ?_
      refine lv_iload_n hx hb dX12_offset_32 rfl (lv_at hl 1 rfl) ?_
      obtain ⟨v11, g_v11, hs⟩ := bd hs
      refine ro_aJ F M g_v11 dX12_offset_33 ?_
      refine lv_goto (tgt := 44) hx hb dX12_offset_34 (by decide) ?_
      obtain rfl := Option.some.inj hs
      exact KJ44 _ _ _ (lv_sub hl [] rfl) M
  · rw [if_pos c3] at hs
    refine lv_aload_n hx hb dX12_offset_13 rfl (lv_at hl 0 rfl) ?_
    refine lv_iconst (v := 4) hx hb dX12_offset_14 (by decide) ?_
    obtain ⟨v4, g_v4, hs⟩ := bd hs
    obtain ⟨a5, e_a5, k_a5, g_v4⟩ := cV_some g_v4
    obtain rfl := Option.some.inj e_a5
    refine ca_Vi (bq := th) (As := [.int 4]) (rest := []) F M (c_X12_found g_v4) mf_X12_found t_1408 k_a5 rfl ⟨by decide, by decide⟩ ⟨rfl, rfl⟩ ⟨Nat.zero_le _, Nat.zero_le _⟩ hl.1 rfl (by decide) dX12_offset_15 (fun H locs M => ?_)
    refine lv_i2l hx hb dX12_offset_18 rfl ?_
    obtain rfl := Option.some.inj hs
    exact re_l F M dX12_offset_19
abbrev rm_X12_pair : Room := { frames := 7, cells := 0, slots := 0, locals := 177 }
theorem mf_X12_pair : MV 12 yX12_pair cX12_pair 6 (some .int) 3 RX12 := ⟨t_1446, t_1444, t_1445, t_12, ⟨by decide +kernel, by decide +kernel, by decide +kernel⟩, rfl, by decide⟩
def s_X12_pair (N : Nat) (h : IH) (th : Nat) (a0 : Int32) (a1 : Int32) (a2 : Int32) : Option (Int32 × IH) := (cV h 12 (some th) fun a12 => s_X12_begin N h a12 a0).bind fun v1 => (cV v1 12 (some th) fun a11 => s_X12_reasonOfContact v1 a11 a0 a1 a2).bind fun v2 => if v2 ≤ 0 then (gR v1 12 19 (some th)).bind fun v4 => (s_X12_entryAt v1 a0 a1 a2).bind fun v5 => (aI v1 v4 v5).bind fun v6 => ((if 0 ≤ v6 then some ((100 * (v6 / 48)) + (v6 - v6 / 16 * 16)) else some (-1)) : Option (Int32)).bind fun q8 => some (q8, v1) else (cV v1 12 (some th) fun a10 => s_X12_found v1 a10 v2).bind fun v9 => some (v9.1, v9.2)
set_option maxHeartbeats 4000000 in
set_option maxRecDepth 100000 in
theorem c_X12_pair {l : Launch} {D : va_G} {cy : Nat → ClassId} {sz N : Nat} {h : IH} {th : Nat} {a0 : Int32} {a1 : Int32} {a2 : Int32} {qF : Int32 × IH} (hs : s_X12_pair N h th a0 a1 a2 = some qF) : Ct l D cy yX12_pair cX12_pair 6 (some .int) rm_X12_pair h sz [.ref th, .int a0, .int a1, .int a2] qF.2 (some (.int qF.1)) := by
  refine ct_start (by decide +kernel) [(0, .ref th), (1, .int a0), (2, .int a1), (3, .int a2)] (Nat.le_of_ble_eq_true rfl) rfl ?_
  intro p e s m args below meth c A H0 ls F hin hsz M hl
  obtain ⟨hx, hb, hr, hml, hown, hlk, hts, hK, hN, hA, hH⟩ := id F
  generalize s.heap = H at M ⊢
  generalize ([] : List Loc) = locs at M ⊢
  unfold s_X12_pair at hs
  refine lv_aload_n hx hb dX12_pair_0 rfl (lv_at hl 0 rfl) ?_
  refine lv_iload_n hx hb dX12_pair_1 rfl (lv_at hl 1 rfl) ?_
  obtain ⟨v1, g_v1, hs⟩ := bd hs
  obtain ⟨a12, e_a12, k_a12, g_v1⟩ := cV_some g_v1
  obtain rfl := Option.some.inj e_a12
  refine ca_Vv (bq := th) (As := [.int a0]) (rest := []) F M (c_X12_begin g_v1) mf_X12_begin t_1340 k_a12 rfl ⟨by decide, by decide⟩ ⟨rfl, rfl⟩ ⟨Nat.zero_le _, Nat.zero_le _⟩ hl.1 rfl (by decide) dX12_pair_2 (fun H locs M => ?_)
  refine lv_aload_n hx hb dX12_pair_5 rfl (lv_at hl 0 rfl) ?_
  refine lv_iload_n hx hb dX12_pair_6 rfl (lv_at hl 1 rfl) ?_
  refine lv_iload_n hx hb dX12_pair_7 rfl (lv_at hl 2 rfl) ?_
  refine lv_iload_n hx hb dX12_pair_8 rfl (lv_at hl 3 rfl) ?_
  obtain ⟨v2, g_v2, hs⟩ := bd hs
  obtain ⟨a11, e_a11, k_a11, g_v2⟩ := cV_some g_v2
  obtain rfl := Option.some.inj e_a11
  refine ca_Vi (bq := th) (As := [.int a0, .int a1, .int a2]) (rest := []) F M (c_X12_reasonOfContact g_v2) mf_X12_reasonOfContact t_1431 k_a11 rfl ⟨by decide, by decide⟩ ⟨rfl, rfl⟩ ⟨Nat.zero_le _, Nat.zero_le _⟩ hl.1 rfl (by decide) dX12_pair_9 (fun H locs M => ?_)
  refine lv_istore (i := 4) (lv' := [(4, .int v2), (0, .ref th), (1, .int a0), (2, .int a1), (3, .int a2)]) hx hb dX12_pair_12 hl (by decide) rfl (fun ls hl => ?_)
  refine lv_iload hx hb dX12_pair_14 (lv_at hl 0 rfl) ?_
  refine lv_if_le (tgt := 26) hx hb dX12_pair_16 (by decide) (fun c3 => ?_) (fun c3 => ?_)
  · rw [if_pos c3] at hs
    refine lv_aload_n hx hb dX12_pair_26 rfl (lv_at hl 1 rfl) ?_
    obtain ⟨v4, g_v4, hs⟩ := bd hs
    refine ro_gR F M fg_12_19 t_1025 g_v4 dX12_pair_27 ?_
    refine lv_iload_n hx hb dX12_pair_30 rfl (lv_at hl 2 rfl) ?_
    refine lv_iload_n hx hb dX12_pair_31 rfl (lv_at hl 3 rfl) ?_
    refine lv_iload_n hx hb dX12_pair_32 rfl (lv_at hl 4 rfl) ?_
    obtain ⟨v5, g_v5, hs⟩ := bd hs
    refine ca_Si (As := [.int a0, .int a1, .int a2]) (rest := [va_rf v4]) F M (c_X12_entryAt g_v5) mf_X12_entryAt t_1420 rfl ⟨by decide, by decide⟩ ⟨rfl, rfl⟩ ⟨Nat.zero_le _, Nat.zero_le _⟩ hl.1 rfl (by simp [cat_rf, cat_i, cat_j, cat_r]) dX12_pair_33 (fun H locs M => ?_)
    obtain ⟨v6, g_v6, hs⟩ := bd hs
    refine ro_aI F M g_v6 dX12_pair_36 ?_
    refine lv_istore (i := 5) (lv' := [(5, .int v6), (4, .int v2), (0, .ref th), (1, .int a0), (2, .int a1), (3, .int a2)]) hx hb dX12_pair_37 hl (by decide) rfl (fun ls hl => ?_)
    refine lv_iload hx hb dX12_pair_39 (lv_at hl 0 rfl) ?_
    obtain ⟨q8, hsq8, hs⟩ := bd hs
    have KJ62 : ∀ (ls : Array Slot) (H : Heap) (locs : List Loc), lv_has ls 6 [] → Mo D cy A H0 v1 H locs → W p l e rm_X12_pair s m args below meth c H locs 0 0 (MQ below (QR D cy qF.2 A (some (.int qF.1))) args s 0 0 A) (F0 m 62 ls [.int q8]) := by
      intro ls H locs hl M
      obtain rfl := Option.some.inj hs
      exact re_i F M dX12_pair_62
    clear hs
    have hs := hsq8
    refine lv_if_ge (tgt := 48) hx hb dX12_pair_41 (by decide) (fun c7 => ?_) (fun c7 => ?_)
    · rw [if_pos c7] at hs
      refine lv_bipush (v := 100) hx hb dX12_pair_48 (by decide) ?_
      refine lv_iload hx hb dX12_pair_50 (lv_at hl 0 rfl) ?_
      refine lv_bipush (v := 48) hx hb dX12_pair_52 (by decide) ?_
      refine lv_idiv hx hb dX12_pair_54 (by decide) ?_
      refine lv_imul hx hb dX12_pair_55 ?_
      refine lv_iload hx hb dX12_pair_56 (lv_at hl 0 rfl) ?_
      refine lv_bipush (v := 16) hx hb dX12_pair_58 (by decide) ?_
      refine lv_irem hx hb dX12_pair_60 (by decide) ?_
      refine lv_iadd hx hb dX12_pair_61 ?_
      obtain rfl := Option.some.inj hs
      exact KJ62 _ _ _ (lv_sub hl [] rfl) M
    · rw [if_neg c7] at hs
      refine lv_iconst (v := (-1)) hx hb dX12_pair_44 (by decide) ?_
      refine lv_goto (tgt := 62) hx hb dX12_pair_45 (by decide) ?_
      obtain rfl := Option.some.inj hs
      exact KJ62 _ _ _ (lv_sub hl [] rfl) M
  · rw [if_neg c3] at hs
    refine lv_aload_n hx hb dX12_pair_19 rfl (lv_at hl 1 rfl) ?_
    refine lv_iload hx hb dX12_pair_20 (lv_at hl 0 rfl) ?_
    obtain ⟨v9, g_v9, hs⟩ := bd hs
    obtain ⟨a10, e_a10, k_a10, g_v9⟩ := cV_some g_v9
    obtain rfl := Option.some.inj e_a10
    refine ca_Vi (bq := th) (As := [.int v2]) (rest := []) F M (c_X12_found g_v9) mf_X12_found t_1408 k_a10 rfl ⟨by decide, by decide⟩ ⟨rfl, rfl⟩ ⟨Nat.zero_le _, Nat.zero_le _⟩ hl.1 rfl (by decide) dX12_pair_22 (fun H locs M => ?_)
    obtain rfl := Option.some.inj hs
    exact re_i F M dX12_pair_25
abbrev rm_X12_isDupe : Room := { frames := 1, cells := 0, slots := 0, locals := 21 }
theorem mf_X12_isDupe : MV 12 yX12_isDupe cX12_isDupe 6 (some .boolean) 1 RX12 := ⟨t_1458, t_1457, tS_110, t_12, ⟨by decide +kernel, by decide +kernel, by decide +kernel⟩, rfl, by decide⟩
def s_X12_isDupe_L13 (N : Nat) : Nat → Nat → Int32 → Int32 → Int32 → Int32 → IH → Option (Int32)
  | 0, _, _, _, _, _, _ => none
  | n + 1, th, x1, x2, x3, x4, h => if (x2 + 16) ≤ x4 then some x3 else ((if x4 = x1 then some 0 else (cV h 12 (some th) fun a13 => s_X12_isContactAt h a13 x4).bind fun v3 => if v3 = 0 then some 0 else (gR h 12 19 (some th)).bind fun v5 => (aI h v5 x4).bind fun v6 => if v6 < 0 then some 0 else (gR h 12 18 (some th)).bind fun v8 => (aI h v8 x4).bind fun v9 => (gR h 12 18 (some th)).bind fun v10 => (aI h v10 x1).bind fun v11 => if v9 = v11 then some 1 else some 0) : Option (Int32)).bind fun q14 => ((if x3 = 0 then if q14 = 0 then some 0 else (gR h 12 11 (some th)).bind fun v17 => (aJ h v17 x4).bind fun v18 => (gR h 12 11 (some th)).bind fun v19 => (aJ h v19 x1).bind fun v20 => if (lg_cmp v18 v20) < 0 then some 1 else (gR h 12 11 (some th)).bind fun v22 => (aJ h v22 x4).bind fun v23 => (gR h 12 11 (some th)).bind fun v24 => (aJ h v24 x1).bind fun v25 => if (lg_cmp v23 v25) = 0 then if x1 ≤ x4 then some 0 else some 1 else some 0 else some 1) : Option (Int32)).bind fun q28 => s_X12_isDupe_L13 N n th x1 x2 q28 (x4 + 1) h
def s_X12_isDupe (N : Nat) (h : IH) (th : Nat) (a0 : Int32) : Option (Int32) := (s_X12_isDupe_L13 N N th a0 ((a0 / 16) * 16) 0 ((a0 / 16) * 16) h).bind fun q29 => if q29 = 0 ∨ q29 = 1 then some q29 else none
set_option maxHeartbeats 4000000 in
set_option maxRecDepth 100000 in
theorem w_X12_isDupe_L13 {p : Program} {l : Launch} {e : Env} {s : State} {m : MethodId} {args : Array Value} {below : List Frame} {meth : Method} {c : Code} {D : va_G} {cy : Nat → ClassId} {A : Nat → Prop} {H0 : Heap} {N th : Nat} {x1 : Int32} {x2 : Int32} {h : IH} {qF : Int32} (F : Fx p s m args meth c D cy A H0 yX12_isDupe cX12_isDupe 6 (some .boolean)) : ∀ (n : Nat) (x3 : Int32) (x4 : Int32) (ls : Array Slot) (H : Heap) (locs : List Loc) (q : Int32), s_X12_isDupe_L13 N n th x1 x2 x3 x4 h = some q → lv_has ls 6 [(0, .ref th), (1, .int x1), (2, .int x2), (3, .int x3), (4, .int x4)] → Mo D cy A H0 h H locs → (∀ (t : Int32) (ls : Array Slot) (H : Heap) (locs : List Loc), q = t → lv_has ls 6 [(3, .int t)] → Mo D cy A H0 h H locs → W p l e rm_X12_isDupe s m args below meth c H locs 0 0 (MQ below (QR D cy h A (some (.int qF))) args s 0 0 A) (F0 m 131 ls [])) → (∀ v : Int32, False → v = qF) → W p l e rm_X12_isDupe s m args below meth c H locs 0 0 (MQ below (QR D cy h A (some (.int qF))) args s 0 0 A) (F0 m 13 ls []) := by
  intro n
  induction n with
  | zero => intro x3 x4 ls H locs q hs; rw [s_X12_isDupe_L13.eq_1] at hs; cases hs
  | succ n ih =>
    intro x3 x4 ls H locs q hs hl M kx kr
    obtain ⟨hx, hb, hr, hml, hown, hlk, hts, hK, hN, hA, hH⟩ := id F
    rw [s_X12_isDupe_L13.eq_2] at hs
    refine lv_iload hx hb dX12_isDupe_13 (lv_at hl 4 rfl) ?_
    refine lv_iload_n hx hb dX12_isDupe_15 rfl (lv_at hl 2 rfl) ?_
    refine lv_bipush (v := 16) hx hb dX12_isDupe_16 (by decide) ?_
    refine lv_iadd hx hb dX12_isDupe_18 ?_
    refine lv_icmp_ge (tgt := 131) hx hb dX12_isDupe_19 (by decide) (fun c1 => ?_) (fun c1 => ?_)
    · rw [if_pos c1] at hs
      exact kx x3 _ _ _ (Option.some.inj hs).symm (lv_sub hl [3] rfl) M
    · rw [if_neg c1] at hs
      refine lv_iload hx hb dX12_isDupe_22 (lv_at hl 4 rfl) ?_
      refine lv_iload_n hx hb dX12_isDupe_24 rfl (lv_at hl 1 rfl) ?_
      obtain ⟨q14, hsq14, hs⟩ := bd hs
      have KJ68 : ∀ (ls : Array Slot) (H : Heap) (locs : List Loc), lv_has ls 6 [(0, .ref th), (1, .int x1), (2, .int x2), (3, .int x3), (4, .int x4)] → Mo D cy A H0 h H locs → W p l e rm_X12_isDupe s m args below meth c H locs 0 0 (MQ below (QR D cy h A (some (.int qF))) args s 0 0 A) (F0 m 68 ls [.int q14]) := by
        intro ls H locs hl M
        refine lv_istore (i := 5) (lv' := [(5, .int q14), (0, .ref th), (1, .int x1), (2, .int x2), (3, .int x3), (4, .int x4)]) hx hb dX12_isDupe_68 hl (by decide) rfl (fun ls hl => ?_)
        refine lv_iload_n hx hb dX12_isDupe_70 rfl (lv_at hl 4 rfl) ?_
        obtain ⟨q28, hsq28, hs⟩ := bd hs
        have KJ124 : ∀ (ls : Array Slot) (H : Heap) (locs : List Loc), lv_has ls 6 [(0, .ref th), (1, .int x1), (2, .int x2), (4, .int x4)] → Mo D cy A H0 h H locs → W p l e rm_X12_isDupe s m args below meth c H locs 0 0 (MQ below (QR D cy h A (some (.int qF))) args s 0 0 A) (F0 m 124 ls [.int q28]) := by
          intro ls H locs hl M
          refine lv_istore_n (i := 3) (lv' := [(3, .int q28), (0, .ref th), (1, .int x1), (2, .int x2), (4, .int x4)]) hx hb dX12_isDupe_124 rfl hl (by decide) rfl (fun ls hl => ?_)
          refine lv_iinc (v := x4 + 1) (lv' := [(4, .int (x4 + 1)), (3, .int q28), (0, .ref th), (1, .int x1), (2, .int x2)]) hx hb dX12_isDupe_125 hl (k := 4) rfl rfl (by decide) rfl (fun ls hl => ?_)
          refine lv_goto (tgt := 13) hx hb dX12_isDupe_128 (by decide) ?_
          exact ih q28 (x4 + 1) _ _ _ _ hs (lv_sub hl [2, 3, 4, 1, 0] rfl) M kx kr
        clear hs
        have hs := hsq28
        refine lv_if_ne (tgt := 119) hx hb dX12_isDupe_71 (by decide) (fun c15 => ?_) (fun c15 => ?_)
        · rw [if_neg c15] at hs
          refine lv_iconst (v := 1) hx hb dX12_isDupe_119 (by decide) ?_
          refine lv_goto (tgt := 124) hx hb dX12_isDupe_120 (by decide) ?_
          obtain rfl := Option.some.inj hs
          exact KJ124 _ _ _ (lv_sub hl [1, 2, 3, 5] rfl) M
        · rw [if_pos c15] at hs
          refine lv_iload hx hb dX12_isDupe_74 (lv_at hl 0 rfl) ?_
          refine lv_if_eq (tgt := 123) hx hb dX12_isDupe_76 (by decide) (fun c16 => ?_) (fun c16 => ?_)
          · rw [if_pos c16] at hs
            refine lv_iconst (v := 0) hx hb dX12_isDupe_123 (by decide) ?_
            obtain rfl := Option.some.inj hs
            exact KJ124 _ _ _ (lv_sub hl [1, 2, 3, 5] rfl) M
          · rw [if_neg c16] at hs
            refine lv_aload_n hx hb dX12_isDupe_79 rfl (lv_at hl 1 rfl) ?_
            obtain ⟨v17, g_v17, hs⟩ := bd hs
            refine ro_gR F M fg_12_11 t_1017 g_v17 dX12_isDupe_80 ?_
            refine lv_iload hx hb dX12_isDupe_83 (lv_at hl 5 rfl) ?_
            obtain ⟨v18, g_v18, hs⟩ := bd hs
            refine ro_aJ F M g_v18 dX12_isDupe_85 ?_
            refine lv_aload_n hx hb dX12_isDupe_86 rfl (lv_at hl 1 rfl) ?_
            obtain ⟨v19, g_v19, hs⟩ := bd hs
            refine ro_gR F M fg_12_11 t_1017 g_v19 dX12_isDupe_87 ?_
            refine lv_iload_n hx hb dX12_isDupe_90 rfl (lv_at hl 2 rfl) ?_
            obtain ⟨v20, g_v20, hs⟩ := bd hs
            refine ro_aJ F M g_v20 dX12_isDupe_91 ?_
            refine W.lcmp hx hb dX12_isDupe_92 ?_
            refine lv_if_lt (tgt := 119) hx hb dX12_isDupe_93 (by decide) (fun c21 => ?_) (fun c21 => ?_)
            · rw [if_pos c21] at hs
              refine lv_iconst (v := 1) hx hb dX12_isDupe_119 (by decide) ?_
              refine lv_goto (tgt := 124) hx hb dX12_isDupe_120 (by decide) ?_
              obtain rfl := Option.some.inj hs
              exact KJ124 _ _ _ (lv_sub hl [1, 2, 3, 5] rfl) M
            · rw [if_neg c21] at hs
              refine lv_aload_n hx hb dX12_isDupe_96 rfl (lv_at hl 1 rfl) ?_
              obtain ⟨v22, g_v22, hs⟩ := bd hs
              refine ro_gR F M fg_12_11 t_1017 g_v22 dX12_isDupe_97 ?_
              refine lv_iload hx hb dX12_isDupe_100 (lv_at hl 5 rfl) ?_
              obtain ⟨v23, g_v23, hs⟩ := bd hs
              refine ro_aJ F M g_v23 dX12_isDupe_102 ?_
              refine lv_aload_n hx hb dX12_isDupe_103 rfl (lv_at hl 1 rfl) ?_
              obtain ⟨v24, g_v24, hs⟩ := bd hs
              refine ro_gR F M fg_12_11 t_1017 g_v24 dX12_isDupe_104 ?_
              refine lv_iload_n hx hb dX12_isDupe_107 rfl (lv_at hl 2 rfl) ?_
              obtain ⟨v25, g_v25, hs⟩ := bd hs
              refine ro_aJ F M g_v25 dX12_isDupe_108 ?_
              refine W.lcmp hx hb dX12_isDupe_109 ?_
              refine lv_if_ne (tgt := 123) hx hb dX12_isDupe_110 (by decide) (fun c26 => ?_) (fun c26 => ?_)
              · rw [if_neg c26] at hs
                refine lv_iconst (v := 0) hx hb dX12_isDupe_123 (by decide) ?_
                obtain rfl := Option.some.inj hs
                exact KJ124 _ _ _ (lv_sub hl [1, 2, 3, 5] rfl) M
              · rw [if_pos c26] at hs
                refine lv_iload hx hb dX12_isDupe_113 (lv_at hl 5 rfl) ?_
                refine lv_iload_n hx hb dX12_isDupe_115 rfl (lv_at hl 2 rfl) ?_
                refine lv_icmp_ge (tgt := 123) hx hb dX12_isDupe_116 (by decide) (fun c27 => ?_) (fun c27 => ?_)
                · rw [if_pos c27] at hs
                  refine lv_iconst (v := 0) hx hb dX12_isDupe_123 (by decide) ?_
                  obtain rfl := Option.some.inj hs
                  exact KJ124 _ _ _ (lv_sub hl [1, 2, 3, 5] rfl) M
                · rw [if_neg c27] at hs
                  refine lv_iconst (v := 1) hx hb dX12_isDupe_119 (by decide) ?_
                  refine lv_goto (tgt := 124) hx hb dX12_isDupe_120 (by decide) ?_
                  obtain rfl := Option.some.inj hs
                  exact KJ124 _ _ _ (lv_sub hl [1, 2, 3, 5] rfl) M
      clear hs
      have hs := hsq14
      refine lv_icmp_eq (tgt := 67) hx hb dX12_isDupe_25 (by decide) (fun c2 => ?_) (fun c2 => ?_)
      · rw [if_pos c2] at hs
        refine lv_iconst (v := 0) hx hb dX12_isDupe_67 (by decide) ?_
        obtain rfl := Option.some.inj hs
        exact KJ68 _ _ _ (lv_sub hl [0, 1, 2, 3, 4] rfl) M
      · rw [if_neg c2] at hs
        refine lv_aload_n hx hb dX12_isDupe_28 rfl (lv_at hl 0 rfl) ?_
        refine lv_iload hx hb dX12_isDupe_29 (lv_at hl 4 rfl) ?_
        obtain ⟨v3, g_v3, hs⟩ := bd hs
        obtain ⟨a13, e_a13, k_a13, g_v3⟩ := cV_some g_v3
        obtain rfl := Option.some.inj e_a13
        refine ca_Vi (bq := th) (As := [.int x4]) (rest := []) F M (c_X12_isContactAt g_v3) mf_X12_isContactAt t_1352 k_a13 rfl ⟨by decide, by decide⟩ ⟨rfl, rfl⟩ ⟨Nat.zero_le _, Nat.zero_le _⟩ hl.1 rfl (by decide) dX12_isDupe_31 (fun H locs M => ?_)
        refine lv_if_eq (tgt := 67) hx hb dX12_isDupe_34 (by decide) (fun c4 => ?_) (fun c4 => ?_)
        · rw [if_pos c4] at hs
          refine lv_iconst (v := 0) hx hb dX12_isDupe_67 (by decide) ?_
          obtain rfl := Option.some.inj hs
          exact KJ68 _ _ _ (lv_sub hl [0, 1, 2, 3, 4] rfl) M
        · rw [if_neg c4] at hs
          refine lv_aload_n hx hb dX12_isDupe_37 rfl (lv_at hl 0 rfl) ?_
          obtain ⟨v5, g_v5, hs⟩ := bd hs
          refine ro_gR F M fg_12_19 t_1025 g_v5 dX12_isDupe_38 ?_
          refine lv_iload hx hb dX12_isDupe_41 (lv_at hl 4 rfl) ?_
          obtain ⟨v6, g_v6, hs⟩ := bd hs
          refine ro_aI F M g_v6 dX12_isDupe_43 ?_
          refine lv_if_lt (tgt := 67) hx hb dX12_isDupe_44 (by decide) (fun c7 => ?_) (fun c7 => ?_)
          · rw [if_pos c7] at hs
            refine lv_iconst (v := 0) hx hb dX12_isDupe_67 (by decide) ?_
            obtain rfl := Option.some.inj hs
            exact KJ68 _ _ _ (lv_sub hl [0, 1, 2, 3, 4] rfl) M
          · rw [if_neg c7] at hs
            refine lv_aload_n hx hb dX12_isDupe_47 rfl (lv_at hl 0 rfl) ?_
            obtain ⟨v8, g_v8, hs⟩ := bd hs
            refine ro_gR F M fg_12_18 t_1024 g_v8 dX12_isDupe_48 ?_
            refine lv_iload hx hb dX12_isDupe_51 (lv_at hl 4 rfl) ?_
            obtain ⟨v9, g_v9, hs⟩ := bd hs
            refine ro_aI F M g_v9 dX12_isDupe_53 ?_
            refine lv_aload_n hx hb dX12_isDupe_54 rfl (lv_at hl 0 rfl) ?_
            obtain ⟨v10, g_v10, hs⟩ := bd hs
            refine ro_gR F M fg_12_18 t_1024 g_v10 dX12_isDupe_55 ?_
            refine lv_iload_n hx hb dX12_isDupe_58 rfl (lv_at hl 1 rfl) ?_
            obtain ⟨v11, g_v11, hs⟩ := bd hs
            refine ro_aI F M g_v11 dX12_isDupe_59 ?_
            refine lv_icmp_ne (tgt := 67) hx hb dX12_isDupe_60 (by decide) (fun c12 => ?_) (fun c12 => ?_)
            · rw [if_neg c12] at hs
              refine lv_iconst (v := 0) hx hb dX12_isDupe_67 (by decide) ?_
              obtain rfl := Option.some.inj hs
              exact KJ68 _ _ _ (lv_sub hl [0, 1, 2, 3, 4] rfl) M
            · rw [if_pos c12] at hs
              refine lv_iconst (v := 1) hx hb dX12_isDupe_63 (by decide) ?_
              refine lv_goto (tgt := 68) hx hb dX12_isDupe_64 (by decide) ?_
              obtain rfl := Option.some.inj hs
              exact KJ68 _ _ _ (lv_sub hl [0, 1, 2, 3, 4] rfl) M
set_option maxHeartbeats 4000000 in
set_option maxRecDepth 100000 in
theorem c_X12_isDupe {l : Launch} {D : va_G} {cy : Nat → ClassId} {sz N : Nat} {h : IH} {th : Nat} {a0 : Int32} {qF : Int32} (hs : s_X12_isDupe N h th a0 = some qF) : Ct l D cy yX12_isDupe cX12_isDupe 6 (some .boolean) rm_X12_isDupe h sz [.ref th, .int a0] h (some (.int qF)) := by
  refine ct_start (by decide +kernel) [(0, .ref th), (1, .int a0)] (Nat.le_of_ble_eq_true rfl) rfl ?_
  intro p e s m args below meth c A H0 ls F hin hsz M hl
  obtain ⟨hx, hb, hr, hml, hown, hlk, hts, hK, hN, hA, hH⟩ := id F
  generalize s.heap = H at M ⊢
  generalize ([] : List Loc) = locs at M ⊢
  unfold s_X12_isDupe at hs
  refine lv_iload_n hx hb dX12_isDupe_0 rfl (lv_at hl 1 rfl) ?_
  refine lv_bipush (v := 16) hx hb dX12_isDupe_1 (by decide) ?_
  refine lv_idiv hx hb dX12_isDupe_3 (by decide) ?_
  refine lv_bipush (v := 16) hx hb dX12_isDupe_4 (by decide) ?_
  refine lv_imul hx hb dX12_isDupe_6 ?_
  refine lv_istore_n (i := 2) (lv' := [(2, .int ((a0 / 16) * 16)), (0, .ref th), (1, .int a0)]) hx hb dX12_isDupe_7 rfl hl (by decide) rfl (fun ls hl => ?_)
  refine lv_iconst (v := 0) hx hb dX12_isDupe_8 (by decide) ?_
  refine lv_istore_n (i := 3) (lv' := [(3, .int 0), (2, .int ((a0 / 16) * 16)), (0, .ref th), (1, .int a0)]) hx hb dX12_isDupe_9 rfl hl (by decide) rfl (fun ls hl => ?_)
  refine lv_iload_n hx hb dX12_isDupe_10 rfl (lv_at hl 1 rfl) ?_
  refine lv_istore (i := 4) (lv' := [(4, .int ((a0 / 16) * 16)), (3, .int 0), (2, .int ((a0 / 16) * 16)), (0, .ref th), (1, .int a0)]) hx hb dX12_isDupe_11 hl (by decide) rfl (fun ls hl => ?_)
  obtain ⟨q29, g_q29, hs⟩ := bd hs
  refine w_X12_isDupe_L13 F N 0 ((a0 / 16) * 16) _ _ _ q29 g_q29 (lv_sub hl [3, 4, 2, 1, 0] rfl) M (fun t_ ls H locs eq_ hl M => ?_) (fun v eq_ => eq_.elim)
  subst eq_
  refine lv_iload_n hx hb dX12_isDupe_131 rfl (lv_at hl 0 rfl) ?_
  by_cases zg : q29 = 0 ∨ q29 = 1
  · rw [if_pos zg] at hs
    obtain rfl := Option.some.inj hs
    exact re_z F M zg dX12_isDupe_132
  · rw [if_neg zg] at hs; cases hs
