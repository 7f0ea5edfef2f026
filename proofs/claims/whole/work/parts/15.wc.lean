abbrev rm_X1_gatherGapsOf : Room := { frames := 2, cells := 0, slots := 0, locals := 46 }
theorem mf_X1_gatherGapsOf : MV 1 yX1_gatherGapsOf cX1_gatherGapsOf 8 none 3 RX1 := ⟨t_743, t_742, tS_42, t_10, ⟨by decide +kernel, by decide +kernel, by decide +kernel⟩, rfl, by decide⟩
def s_X1_gatherGapsOf_L30 (N : Nat) : Nat → Nat → Option Nat → Int32 → Option Nat → Int32 → IH → Option (IH)
  | 0, _, _, _, _, _, _ => none
  | n + 1, th, x1, x2, x5, x6, h => if x5 = none then some h else (gI h 4 1 x5).bind fun v7 => if v7 ≤ x6 then some h else (cV h 4 x5 fun a30 => s_X4_contactAt h a30 x6).bind fun v9 => ((if v9 = none then some h else (gI h 2 6 v9).bind fun v11 => if v11 = x2 then (cV h 2 x1 fun a28 => s_X2_answersTo h a28 v9).bind fun v13 => if v13 = 0 then some h else (gI h 1 3 (some th)).bind fun v15 => if 768 ≤ v15 then some h else (gR h 1 1 (some th)).bind fun v17 => (gI h 1 3 (some th)).bind fun v18 => (gL h 2 1 v9).bind fun v19 => (gL h 2 1 x1).bind fun v20 => (sJ h v17 v18 (v19 - v20)).bind fun h21 => (gR h21 1 2 (some th)).bind fun v22 => (gI h21 1 3 (some th)).bind fun v23 => (gI h21 1 4 (some th)).bind fun v24 => (sI h21 v22 v23 v24).bind fun h25 => (gI h25 1 3 (some th)).bind fun v26 => (pI h25 1 3 (some th) (v26 + 1)).bind fun h27 => some h27 else some h) : Option (IH)).bind fun q29 => s_X1_gatherGapsOf_L30 N n th x1 x2 x5 (x6 + 1) q29
def s_X1_gatherGapsOf (N : Nat) (h : IH) (th : Nat) (a0 : Option Nat) (a1 : Int32) (a2 : Int32) : Option (IH) := (gR h 1 0 (some th)).bind fun v1 => (gI h 2 6 a0).bind fun v2 => (cV h 7 v1 fun a35 => s_X7_withLogAt N h a35 v2).bind fun v3 => if v3 = none then some h else (cV h 9 v3 fun a34 => s_X9_logOf h a34 a2).bind fun v5 => (s_X1_gatherGapsOf_L30 N N th a0 a1 v5 0 h).bind fun q31 => (gI q31 1 4 (some th)).bind fun v32 => (pI q31 1 4 (some th) (v32 + 1)).bind fun h33 => some h33
set_option maxHeartbeats 4000000 in
set_option maxRecDepth 100000 in
theorem w_X1_gatherGapsOf_L30 {p : Program} {l : Launch} {e : Env} {s : State} {m : MethodId} {args : Array Value} {below : List Frame} {meth : Method} {c : Code} {D : va_G} {cy : Nat → ClassId} {A : Nat → Prop} {H0 : Heap} {N th : Nat} {x1 : Option Nat} {x2 : Int32} {x5 : Option Nat} {qF : IH} (F : Fx p s m args meth c D cy A H0 yX1_gatherGapsOf cX1_gatherGapsOf 8 none) : ∀ (n : Nat) (x6 : Int32) (h : IH) (ls : Array Slot) (H : Heap) (locs : List Loc) (q : IH), s_X1_gatherGapsOf_L30 N n th x1 x2 x5 x6 h = some q → lv_has ls 8 [(0, .ref th), (1, va_rf x1), (2, .int x2), (5, va_rf x5), (6, .int x6)] → Mo D cy A H0 h H locs → (∀ (t : IH) (ls : Array Slot) (H : Heap) (locs : List Loc), q = t → lv_has ls 8 [(0, .ref th)] → Mo D cy A H0 t H locs → W p l e rm_X1_gatherGapsOf s m args below meth c H locs 0 0 (MQ below (QR D cy qF A none) args s 0 0 A) (F0 m 135 ls [])) → (∀ v : IH, False → v = qF) → W p l e rm_X1_gatherGapsOf s m args below meth c H locs 0 0 (MQ below (QR D cy qF A none) args s 0 0 A) (F0 m 30 ls []) := by
  intro n
  induction n with
  | zero => intro x6 h ls H locs q hs; rw [s_X1_gatherGapsOf_L30.eq_1] at hs; cases hs
  | succ n ih =>
    intro x6 h ls H locs q hs hl M kx kr
    obtain ⟨hx, hb, hr, hml, hown, hlk, hts, hK, hN, hA, hH⟩ := id F
    rw [s_X1_gatherGapsOf_L30.eq_2] at hs
    refine lo_aload hx hb dX1_gatherGapsOf_30 (lv_at hl 3 rfl) ?_
    refine lo_ifnull (tgt := 135) hx hb dX1_gatherGapsOf_32 (by decide) (fun c6 => ?_) (fun c6 => ?_)
    · rw [if_pos c6] at hs
      exact kx h _ _ _ (Option.some.inj hs).symm (lv_sub hl [0] rfl) M
    · rw [if_neg c6] at hs
      refine lv_iload hx hb dX1_gatherGapsOf_35 (lv_at hl 4 rfl) ?_
      refine lo_aload hx hb dX1_gatherGapsOf_37 (lv_at hl 3 rfl) ?_
      obtain ⟨v7, g_v7, hs⟩ := bd hs
      refine ro_gIN F M fg_4_1 tN_171 g_v7 dX1_gatherGapsOf_39 ?_
      refine lv_icmp_ge (tgt := 135) hx hb dX1_gatherGapsOf_42 (by decide) (fun c8 => ?_) (fun c8 => ?_)
      · rw [if_pos c8] at hs
        exact kx h _ _ _ (Option.some.inj hs).symm (lv_sub hl [0] rfl) M
      · rw [if_neg c8] at hs
        refine lo_aload hx hb dX1_gatherGapsOf_45 (lv_at hl 3 rfl) ?_
        refine lv_iload hx hb dX1_gatherGapsOf_47 (lv_at hl 4 rfl) ?_
        obtain ⟨v9, g_v9, hs⟩ := bd hs
        obtain ⟨a30, e_a30, k_a30, g_v9⟩ := cV_some g_v9
        refine ca_VNa (bq := a30) (As := [.int x6]) (rest := []) F M (c_X4_contactAt g_v9) mf_X4_contactAt tN_739 k_a30 rfl ⟨by decide, by decide⟩ ⟨rfl, rfl⟩ ⟨Nat.zero_le _, Nat.zero_le _⟩ hl.1 (by rw [e_a30]; rfl) (by decide) dX1_gatherGapsOf_49 (fun H locs M => ?_)
        refine lo_astore (i := 7) (lv' := [(7, va_rf v9), (0, .ref th), (1, va_rf x1), (2, .int x2), (5, va_rf x5), (6, .int x6)]) hx hb dX1_gatherGapsOf_52 hl (by decide) rfl (fun ls hl => ?_)
        refine lo_aload hx hb dX1_gatherGapsOf_54 (lv_at hl 0 rfl) ?_
        obtain ⟨q29, hsq29, hs⟩ := bd hs
        have KJ129 : ∀ (ls : Array Slot) (H : Heap) (locs : List Loc), lv_has ls 8 [(0, .ref th), (1, va_rf x1), (2, .int x2), (5, va_rf x5), (6, .int x6)] → Mo D cy A H0 q29 H locs → W p l e rm_X1_gatherGapsOf s m args below meth c H locs 0 0 (MQ below (QR D cy qF A none) args s 0 0 A) (F0 m 129 ls []) := by
          intro ls H locs hl M
          refine lv_iinc (v := x6 + 1) (lv' := [(6, .int (x6 + 1)), (0, .ref th), (1, va_rf x1), (2, .int x2), (5, va_rf x5)]) hx hb dX1_gatherGapsOf_129 hl (k := 4) rfl rfl (by decide) (by simp [cat_rf, cat_i, cat_j, cat_r]) (fun ls hl => ?_)
          refine lv_goto (tgt := 30) hx hb dX1_gatherGapsOf_132 (by decide) ?_
          exact ih (x6 + 1) q29 _ _ _ _ hs (lv_sub hl [1, 2, 3, 4, 0] rfl) M kx kr
        clear hs
        have hs := hsq29
        refine lo_ifnull (tgt := 129) hx hb dX1_gatherGapsOf_56 (by decide) (fun c10 => ?_) (fun c10 => ?_)
        · rw [if_pos c10] at hs
          obtain rfl := Option.some.inj hs
          exact KJ129 _ _ _ (lv_sub hl [1, 2, 3, 4, 5] rfl) M
        · rw [if_neg c10] at hs
          refine lo_aload hx hb dX1_gatherGapsOf_59 (lv_at hl 0 rfl) ?_
          obtain ⟨v11, g_v11, hs⟩ := bd hs
          refine ro_gIN F M fg_2_6 tN_119 g_v11 dX1_gatherGapsOf_61 ?_
          refine lv_iload_n hx hb dX1_gatherGapsOf_64 rfl (lv_at hl 3 rfl) ?_
          refine lv_icmp_ne (tgt := 129) hx hb dX1_gatherGapsOf_65 (by decide) (fun c12 => ?_) (fun c12 => ?_)
          · rw [if_neg c12] at hs
            obtain rfl := Option.some.inj hs
            exact KJ129 _ _ _ (lv_sub hl [1, 2, 3, 4, 5] rfl) M
          · rw [if_pos c12] at hs
            refine lo_aload_n hx hb dX1_gatherGapsOf_68 rfl (lv_at hl 2 rfl) ?_
            refine lo_aload hx hb dX1_gatherGapsOf_69 (lv_at hl 0 rfl) ?_
            obtain ⟨v13, g_v13, hs⟩ := bd hs
            obtain ⟨a28, e_a28, k_a28, g_v13⟩ := cV_some g_v13
            refine ca_VNi (bq := a28) (As := [va_rf v9]) (rest := []) F M (c_X2_answersTo g_v13) mf_X2_answersTo tN_753 k_a28 rfl ⟨by decide, by decide⟩ ⟨rfl, rfl⟩ ⟨Nat.zero_le _, Nat.zero_le _⟩ hl.1 (by rw [e_a28]; rfl) (by decide) dX1_gatherGapsOf_71 (fun H locs M => ?_)
            refine lv_if_eq (tgt := 129) hx hb dX1_gatherGapsOf_74 (by decide) (fun c14 => ?_) (fun c14 => ?_)
            · rw [if_pos c14] at hs
              obtain rfl := Option.some.inj hs
              exact KJ129 _ _ _ (lv_sub hl [1, 2, 3, 4, 5] rfl) M
            · rw [if_neg c14] at hs
              refine lv_aload_n hx hb dX1_gatherGapsOf_77 rfl (lv_at hl 1 rfl) ?_
              obtain ⟨v15, g_v15, hs⟩ := bd hs
              refine ro_gI F M fg_1_3 t_282 g_v15 dX1_gatherGapsOf_78 ?_
              refine lv_sipush (v := 768) hx hb dX1_gatherGapsOf_81 (by decide) ?_
              refine lv_icmp_ge (tgt := 129) hx hb dX1_gatherGapsOf_84 (by decide) (fun c16 => ?_) (fun c16 => ?_)
              · rw [if_pos c16] at hs
                obtain rfl := Option.some.inj hs
                exact KJ129 _ _ _ (lv_sub hl [1, 2, 3, 4, 5] rfl) M
              · rw [if_neg c16] at hs
                refine lv_aload_n hx hb dX1_gatherGapsOf_87 rfl (lv_at hl 1 rfl) ?_
                obtain ⟨v17, g_v17, hs⟩ := bd hs
                refine ro_gR F M fg_1_1 t_280 g_v17 dX1_gatherGapsOf_88 ?_
                refine lv_aload_n hx hb dX1_gatherGapsOf_91 rfl (lv_at hl 1 rfl) ?_
                obtain ⟨v18, g_v18, hs⟩ := bd hs
                refine ro_gI F M fg_1_3 t_282 g_v18 dX1_gatherGapsOf_92 ?_
                refine lo_aload hx hb dX1_gatherGapsOf_95 (lv_at hl 0 rfl) ?_
                obtain ⟨v19, g_v19, hs⟩ := bd hs
                refine ro_gLN F M fg_2_1 tN_98 g_v19 dX1_gatherGapsOf_97 ?_
                refine lo_aload_n hx hb dX1_gatherGapsOf_100 rfl (lv_at hl 2 rfl) ?_
                obtain ⟨v20, g_v20, hs⟩ := bd hs
                refine ro_gLN F M fg_2_1 tN_98 g_v20 dX1_gatherGapsOf_101 ?_
                refine lv_lsub hx hb dX1_gatherGapsOf_104 ?_
                obtain ⟨h21, g_h21, hs⟩ := bd hs
                refine ro_sJ F M g_h21 dX1_gatherGapsOf_105 (fun H locs M => ?_)
                refine lv_aload_n hx hb dX1_gatherGapsOf_106 rfl (lv_at hl 1 rfl) ?_
                obtain ⟨v22, g_v22, hs⟩ := bd hs
                refine ro_gR F M fg_1_2 t_281 g_v22 dX1_gatherGapsOf_107 ?_
                refine lv_aload_n hx hb dX1_gatherGapsOf_110 rfl (lv_at hl 1 rfl) ?_
                obtain ⟨v23, g_v23, hs⟩ := bd hs
                refine ro_gI F M fg_1_3 t_282 g_v23 dX1_gatherGapsOf_111 ?_
                refine lv_aload_n hx hb dX1_gatherGapsOf_114 rfl (lv_at hl 1 rfl) ?_
                obtain ⟨v24, g_v24, hs⟩ := bd hs
                refine ro_gI F M fg_1_4 t_283 g_v24 dX1_gatherGapsOf_115 ?_
                obtain ⟨h25, g_h25, hs⟩ := bd hs
                refine ro_sI F M g_h25 dX1_gatherGapsOf_118 (fun H locs M => ?_)
                refine lv_aload_n hx hb dX1_gatherGapsOf_119 rfl (lv_at hl 1 rfl) ?_
                refine lv_dup hx hb dX1_gatherGapsOf_120 rfl ?_
                obtain ⟨v26, g_v26, hs⟩ := bd hs
                refine ro_gI F M fg_1_3 t_282 g_v26 dX1_gatherGapsOf_121 ?_
                refine lv_iconst (v := 1) hx hb dX1_gatherGapsOf_124 (by decide) ?_
                refine lv_iadd hx hb dX1_gatherGapsOf_125 ?_
                obtain ⟨h27, g_h27, hs⟩ := bd hs
                refine ro_pI F M fg_1_3 fp_1_3 rfl t_282 g_h27 dX1_gatherGapsOf_126 (fun H locs M => ?_)
                obtain rfl := Option.some.inj hs
                exact KJ129 _ _ _ (lv_sub hl [1, 2, 3, 4, 5] rfl) M
set_option maxHeartbeats 4000000 in
set_option maxRecDepth 100000 in
theorem c_X1_gatherGapsOf {l : Launch} {D : va_G} {cy : Nat → ClassId} {sz N : Nat} {h : IH} {th : Nat} {a0 : Option Nat} {a1 : Int32} {a2 : Int32} {qF : IH} (hs : s_X1_gatherGapsOf N h th a0 a1 a2 = some qF) : Ct l D cy yX1_gatherGapsOf cX1_gatherGapsOf 8 none rm_X1_gatherGapsOf h sz [.ref th, va_rf a0, .int a1, .int a2] qF none := by
  refine ct_start (by decide +kernel) [(0, .ref th), (1, va_rf a0), (2, .int a1), (3, .int a2)] (by simp [lg_sl, cat_rf, cat_i, cat_j, cat_r]) (by simp [lv_args, cat_rf, cat_i, cat_j, cat_r]) ?_
  intro p e s m args below meth c A H0 ls F hin hsz M hl
  obtain ⟨hx, hb, hr, hml, hown, hlk, hts, hK, hN, hA, hH⟩ := id F
  generalize s.heap = H at M ⊢
  generalize ([] : List Loc) = locs at M ⊢
  unfold s_X1_gatherGapsOf at hs
  refine lv_aload_n hx hb dX1_gatherGapsOf_0 rfl (lv_at hl 0 rfl) ?_
  obtain ⟨v1, g_v1, hs⟩ := bd hs
  refine ro_gR F M fg_1_0 t_279 g_v1 dX1_gatherGapsOf_1 ?_
  refine lo_aload_n hx hb dX1_gatherGapsOf_4 rfl (lv_at hl 1 rfl) ?_
  obtain ⟨v2, g_v2, hs⟩ := bd hs
  refine ro_gIN F M fg_2_6 tN_119 g_v2 dX1_gatherGapsOf_5 ?_
  obtain ⟨v3, g_v3, hs⟩ := bd hs
  obtain ⟨a35, e_a35, k_a35, g_v3⟩ := cV_some g_v3
  refine ca_VNa (bq := a35) (As := [.int v2]) (rest := []) F M (c_X7_withLogAt g_v3) mf_X7_withLogAt tN_744 k_a35 rfl ⟨by decide, by decide⟩ ⟨rfl, rfl⟩ ⟨Nat.zero_le _, Nat.zero_le _⟩ hl.1 (by rw [e_a35]; rfl) (by decide) dX1_gatherGapsOf_8 (fun H locs M => ?_)
  refine lo_astore (i := 4) (lv' := [(4, va_rf v3), (0, .ref th), (1, va_rf a0), (2, .int a1), (3, .int a2)]) hx hb dX1_gatherGapsOf_11 hl (by decide) rfl (fun ls hl => ?_)
  refine lo_aload hx hb dX1_gatherGapsOf_13 (lv_at hl 0 rfl) ?_
  refine lo_ifnonnull (tgt := 19) hx hb dX1_gatherGapsOf_15 (by decide) (fun c4 => ?_) (fun c4 => ?_)
  · rw [if_neg c4] at hs
    refine lo_aload hx hb dX1_gatherGapsOf_19 (lv_at hl 0 rfl) ?_
    refine lv_iload_n hx hb dX1_gatherGapsOf_21 rfl (lv_at hl 4 rfl) ?_
    obtain ⟨v5, g_v5, hs⟩ := bd hs
    obtain ⟨a34, e_a34, k_a34, g_v5⟩ := cV_some g_v5
    refine ca_VNa (bq := a34) (As := [.int a2]) (rest := []) F M (c_X9_logOf g_v5) mf_X9_logOf tN_738 k_a34 rfl ⟨by decide, by decide⟩ ⟨rfl, rfl⟩ ⟨Nat.zero_le _, Nat.zero_le _⟩ hl.1 (by rw [e_a34]; rfl) (by decide) dX1_gatherGapsOf_22 (fun H locs M => ?_)
    refine lo_astore (i := 5) (lv' := [(5, va_rf v5), (4, va_rf v3), (0, .ref th), (1, va_rf a0), (2, .int a1), (3, .int a2)]) hx hb dX1_gatherGapsOf_25 hl (by decide) (by simp [cat_rf, cat_i, cat_j, cat_r]) (fun ls hl => ?_)
    refine lv_iconst (v := 0) hx hb dX1_gatherGapsOf_27 (by decide) ?_
    refine lv_istore (i := 6) (lv' := [(6, .int 0), (5, va_rf v5), (4, va_rf v3), (0, .ref th), (1, va_rf a0), (2, .int a1), (3, .int a2)]) hx hb dX1_gatherGapsOf_28 hl (by decide) (by simp [cat_rf, cat_i, cat_j, cat_r]) (fun ls hl => ?_)
    obtain ⟨q31, g_q31, hs⟩ := bd hs
    refine w_X1_gatherGapsOf_L30 F N 0 h _ _ _ q31 g_q31 (lv_sub hl [3, 4, 5, 1, 0] rfl) M (fun t_ ls H locs eq_ hl M => ?_) (fun v eq_ => eq_.elim)
    subst eq_
    refine lv_aload_n hx hb dX1_gatherGapsOf_135 rfl (lv_at hl 0 rfl) ?_
    refine lv_dup hx hb dX1_gatherGapsOf_136 rfl ?_
    obtain ⟨v32, g_v32, hs⟩ := bd hs
    refine ro_gI F M fg_1_4 t_283 g_v32 dX1_gatherGapsOf_137 ?_
    refine lv_iconst (v := 1) hx hb dX1_gatherGapsOf_140 (by decide) ?_
    refine lv_iadd hx hb dX1_gatherGapsOf_141 ?_
    obtain ⟨h33, g_h33, hs⟩ := bd hs
    refine ro_pI F M fg_1_4 fp_1_4 rfl t_283 g_h33 dX1_gatherGapsOf_142 (fun H locs M => ?_)
    obtain rfl := Option.some.inj hs
    exact re_v F M dX1_gatherGapsOf_145
  · rw [if_pos c4] at hs
    obtain rfl := Option.some.inj hs
    exact re_v F M dX1_gatherGapsOf_18
abbrev rm_X1_gatherGaps : Room := { frames := 3, cells := 0, slots := 0, locals := 73 }
theorem mf_X1_gatherGaps : MV 1 yX1_gatherGaps cX1_gatherGaps 7 none 1 RX1 := ⟨t_736, t_735, tS_41, t_10, ⟨by decide +kernel, by decide +kernel, by decide +kernel⟩, rfl, by decide⟩
def s_X1_gatherGaps_L40 (N : Nat) : Nat → Nat → Int32 → Option Nat → Int32 → Option Nat → Int32 → IH → Option (IH)
  | 0, _, _, _, _, _, _, _ => none
  | n + 1, th, x1, x2, x3, x4, x5, h => if x4 = none then some h else (gI h 4 1 x4).bind fun v9 => if v9 ≤ x5 then some h else (cV h 4 x4 fun a18 => s_X4_contactAt h a18 x5).bind fun v11 => ((if v11 = none then some h else (gI h 2 6 v11).bind fun v13 => if v13 = x1 then some h else (cV h 1 (some th) fun a16 => s_X1_gatherGapsOf N h a16 v11 x1 x3).bind fun v15 => some v15) : Option (IH)).bind fun q17 => s_X1_gatherGaps_L40 N n th x1 x2 x3 x4 (x5 + 1) q17
def s_X1_gatherGaps_L21 (N : Nat) : Nat → Nat → Int32 → Option Nat → Int32 → IH → Option (IH)
  | 0, _, _, _, _, _ => none
  | n + 1, th, x1, x2, x3, h => if 3 ≤ x3 then some h else if x2 = none then some h else (cV h 9 x2 fun a20 => s_X9_logOf h a20 x3).bind fun v7 => (s_X1_gatherGaps_L40 N N th x1 x2 x3 v7 0 h).bind fun q19 => s_X1_gatherGaps_L21 N n th x1 x2 (x3 + 1) q19
def s_X1_gatherGaps (N : Nat) (h : IH) (th : Nat) (a0 : Int32) : Option (IH) := (pI h 1 3 (some th) 0).bind fun h1 => (pI h1 1 4 (some th) 0).bind fun h2 => (gR h2 1 0 (some th)).bind fun v3 => (cV h2 7 v3 fun a22 => s_X7_at h2 a22 a0).bind fun v4 => (s_X1_gatherGaps_L21 N N th a0 v4 0 h2).bind fun q21 => some q21
set_option maxHeartbeats 4000000 in
set_option maxRecDepth 100000 in
theorem w_X1_gatherGaps_L40 {p : Program} {l : Launch} {e : Env} {s : State} {m : MethodId} {args : Array Value} {below : List Frame} {meth : Method} {c : Code} {D : va_G} {cy : Nat → ClassId} {A : Nat → Prop} {H0 : Heap} {N th : Nat} {x1 : Int32} {x2 : Option Nat} {x3 : Int32} {x4 : Option Nat} {qF : IH} (F : Fx p s m args meth c D cy A H0 yX1_gatherGaps cX1_gatherGaps 7 none) : ∀ (n : Nat) (x5 : Int32) (h : IH) (ls : Array Slot) (H : Heap) (locs : List Loc) (q : IH), s_X1_gatherGaps_L40 N n th x1 x2 x3 x4 x5 h = some q → lv_has ls 7 [(0, .ref th), (1, .int x1), (2, va_rf x2), (3, .int x3), (4, va_rf x4), (5, .int x5)] → Mo D cy A H0 h H locs → (∀ (t : IH) (ls : Array Slot) (H : Heap) (locs : List Loc), q = t → lv_has ls 7 [(0, .ref th), (1, .int x1), (2, va_rf x2), (3, .int x3)] → Mo D cy A H0 t H locs → W p l e rm_X1_gatherGaps s m args below meth c H locs 0 0 (MQ below (QR D cy qF A none) args s 0 0 A) (F0 m 92 ls [])) → (∀ v : IH, False → v = qF) → W p l e rm_X1_gatherGaps s m args below meth c H locs 0 0 (MQ below (QR D cy qF A none) args s 0 0 A) (F0 m 40 ls []) := by
  intro n
  induction n with
  | zero => intro x5 h ls H locs q hs; rw [s_X1_gatherGaps_L40.eq_1] at hs; cases hs
  | succ n ih =>
    intro x5 h ls H locs q hs hl M kx kr
    obtain ⟨hx, hb, hr, hml, hown, hlk, hts, hK, hN, hA, hH⟩ := id F
    rw [s_X1_gatherGaps_L40.eq_2] at hs
    refine lo_aload hx hb dX1_gatherGaps_40 (lv_at hl 4 rfl) ?_
    refine lo_ifnull (tgt := 92) hx hb dX1_gatherGaps_42 (by decide) (fun c8 => ?_) (fun c8 => ?_)
    · rw [if_pos c8] at hs
      exact kx h _ _ _ (Option.some.inj hs).symm (lv_sub hl [0, 1, 2, 3] rfl) M
    · rw [if_neg c8] at hs
      refine lv_iload hx hb dX1_gatherGaps_45 (lv_at hl 5 rfl) ?_
      refine lo_aload hx hb dX1_gatherGaps_47 (lv_at hl 4 rfl) ?_
      obtain ⟨v9, g_v9, hs⟩ := bd hs
      refine ro_gIN F M fg_4_1 tN_171 g_v9 dX1_gatherGaps_49 ?_
      refine lv_icmp_ge (tgt := 92) hx hb dX1_gatherGaps_52 (by decide) (fun c10 => ?_) (fun c10 => ?_)
      · rw [if_pos c10] at hs
        exact kx h _ _ _ (Option.some.inj hs).symm (lv_sub hl [0, 1, 2, 3] rfl) M
      · rw [if_neg c10] at hs
        refine lo_aload hx hb dX1_gatherGaps_55 (lv_at hl 4 rfl) ?_
        refine lv_iload hx hb dX1_gatherGaps_57 (lv_at hl 5 rfl) ?_
        obtain ⟨v11, g_v11, hs⟩ := bd hs
        obtain ⟨a18, e_a18, k_a18, g_v11⟩ := cV_some g_v11
        refine ca_VNa (bq := a18) (As := [.int x5]) (rest := []) F M (c_X4_contactAt g_v11) mf_X4_contactAt tN_739 k_a18 rfl ⟨by decide, by decide⟩ ⟨rfl, rfl⟩ ⟨Nat.zero_le _, Nat.zero_le _⟩ hl.1 (by rw [e_a18]; rfl) (by decide) dX1_gatherGaps_59 (fun H locs M => ?_)
        refine lo_astore (i := 6) (lv' := [(6, va_rf v11), (0, .ref th), (1, .int x1), (2, va_rf x2), (3, .int x3), (4, va_rf x4), (5, .int x5)]) hx hb dX1_gatherGaps_62 hl (by decide) rfl (fun ls hl => ?_)
        refine lo_aload hx hb dX1_gatherGaps_64 (lv_at hl 0 rfl) ?_
        obtain ⟨q17, hsq17, hs⟩ := bd hs
        have KJ86 : ∀ (ls : Array Slot) (H : Heap) (locs : List Loc), lv_has ls 7 [(0, .ref th), (1, .int x1), (2, va_rf x2), (3, .int x3), (4, va_rf x4), (5, .int x5)] → Mo D cy A H0 q17 H locs → W p l e rm_X1_gatherGaps s m args below meth c H locs 0 0 (MQ below (QR D cy qF A none) args s 0 0 A) (F0 m 86 ls []) := by
          intro ls H locs hl M
          refine lv_iinc (v := x5 + 1) (lv' := [(5, .int (x5 + 1)), (0, .ref th), (1, .int x1), (2, va_rf x2), (3, .int x3), (4, va_rf x4)]) hx hb dX1_gatherGaps_86 hl (k := 5) rfl rfl (by decide) (by simp [cat_rf, cat_i, cat_j, cat_r]) (fun ls hl => ?_)
          refine lv_goto (tgt := 40) hx hb dX1_gatherGaps_89 (by decide) ?_
          exact ih (x5 + 1) q17 _ _ _ _ hs (lv_sub hl [1, 2, 3, 4, 5, 0] rfl) M kx kr
        clear hs
        have hs := hsq17
        refine lo_ifnull (tgt := 86) hx hb dX1_gatherGaps_66 (by decide) (fun c12 => ?_) (fun c12 => ?_)
        · rw [if_pos c12] at hs
          obtain rfl := Option.some.inj hs
          exact KJ86 _ _ _ (lv_sub hl [1, 2, 3, 4, 5, 6] rfl) M
        · rw [if_neg c12] at hs
          refine lo_aload hx hb dX1_gatherGaps_69 (lv_at hl 0 rfl) ?_
          obtain ⟨v13, g_v13, hs⟩ := bd hs
          refine ro_gIN F M fg_2_6 tN_119 g_v13 dX1_gatherGaps_71 ?_
          refine lv_iload_n hx hb dX1_gatherGaps_74 rfl (lv_at hl 2 rfl) ?_
          refine lv_icmp_eq (tgt := 86) hx hb dX1_gatherGaps_75 (by decide) (fun c14 => ?_) (fun c14 => ?_)
          · rw [if_pos c14] at hs
            obtain rfl := Option.some.inj hs
            exact KJ86 _ _ _ (lv_sub hl [1, 2, 3, 4, 5, 6] rfl) M
          · rw [if_neg c14] at hs
            refine lv_aload_n hx hb dX1_gatherGaps_78 rfl (lv_at hl 1 rfl) ?_
            refine lo_aload hx hb dX1_gatherGaps_79 (lv_at hl 0 rfl) ?_
            refine lv_iload_n hx hb dX1_gatherGaps_81 rfl (lv_at hl 2 rfl) ?_
            refine lv_iload_n hx hb dX1_gatherGaps_82 rfl (lv_at hl 4 rfl) ?_
            obtain ⟨v15, g_v15, hs⟩ := bd hs
            obtain ⟨a16, e_a16, k_a16, g_v15⟩ := cV_some g_v15
            obtain rfl := Option.some.inj e_a16
            refine ca_Vv (bq := th) (As := [va_rf v11, .int x1, .int x3]) (rest := []) F M (c_X1_gatherGapsOf g_v15) mf_X1_gatherGapsOf t_740 k_a16 rfl ⟨by decide, by decide⟩ ⟨rfl, rfl⟩ ⟨Nat.zero_le _, Nat.zero_le _⟩ hl.1 rfl (by decide) dX1_gatherGaps_83 (fun H locs M => ?_)
            obtain rfl := Option.some.inj hs
            exact KJ86 _ _ _ (lv_sub hl [1, 2, 3, 4, 5, 6] rfl) M
set_option maxHeartbeats 4000000 in
set_option maxRecDepth 100000 in
theorem w_X1_gatherGaps_L21 {p : Program} {l : Launch} {e : Env} {s : State} {m : MethodId} {args : Array Value} {below : List Frame} {meth : Method} {c : Code} {D : va_G} {cy : Nat → ClassId} {A : Nat → Prop} {H0 : Heap} {N th : Nat} {x1 : Int32} {x2 : Option Nat} {qF : IH} (F : Fx p s m args meth c D cy A H0 yX1_gatherGaps cX1_gatherGaps 7 none) : ∀ (n : Nat) (x3 : Int32) (h : IH) (ls : Array Slot) (H : Heap) (locs : List Loc) (q : IH), s_X1_gatherGaps_L21 N n th x1 x2 x3 h = some q → lv_has ls 7 [(0, .ref th), (1, .int x1), (2, va_rf x2), (3, .int x3)] → Mo D cy A H0 h H locs → (∀ (t : IH) (ls : Array Slot) (H : Heap) (locs : List Loc), q = t → lv_has ls 7 [] → Mo D cy A H0 t H locs → W p l e rm_X1_gatherGaps s m args below meth c H locs 0 0 (MQ below (QR D cy qF A none) args s 0 0 A) (F0 m 98 ls [])) → (∀ v : IH, False → v = qF) → W p l e rm_X1_gatherGaps s m args below meth c H locs 0 0 (MQ below (QR D cy qF A none) args s 0 0 A) (F0 m 21 ls []) := by
  intro n
  induction n with
  | zero => intro x3 h ls H locs q hs; rw [s_X1_gatherGaps_L21.eq_1] at hs; cases hs
  | succ n ih =>
    intro x3 h ls H locs q hs hl M kx kr
    obtain ⟨hx, hb, hr, hml, hown, hlk, hts, hK, hN, hA, hH⟩ := id F
    rw [s_X1_gatherGaps_L21.eq_2] at hs
    refine lv_iload_n hx hb dX1_gatherGaps_21 rfl (lv_at hl 3 rfl) ?_
    refine lv_iconst (v := 3) hx hb dX1_gatherGaps_22 (by decide) ?_
    refine lv_icmp_ge (tgt := 98) hx hb dX1_gatherGaps_23 (by decide) (fun c5 => ?_) (fun c5 => ?_)
    · rw [if_pos c5] at hs
      exact kx h _ _ _ (Option.some.inj hs).symm (lv_sub hl [] rfl) M
    · rw [if_neg c5] at hs
      refine lo_aload_n hx hb dX1_gatherGaps_26 rfl (lv_at hl 2 rfl) ?_
      refine lo_ifnull (tgt := 98) hx hb dX1_gatherGaps_27 (by decide) (fun c6 => ?_) (fun c6 => ?_)
      · rw [if_pos c6] at hs
        exact kx h _ _ _ (Option.some.inj hs).symm (lv_sub hl [] rfl) M
      · rw [if_neg c6] at hs
        refine lo_aload_n hx hb dX1_gatherGaps_30 rfl (lv_at hl 2 rfl) ?_
        refine lv_iload_n hx hb dX1_gatherGaps_31 rfl (lv_at hl 3 rfl) ?_
        obtain ⟨v7, g_v7, hs⟩ := bd hs
        obtain ⟨a20, e_a20, k_a20, g_v7⟩ := cV_some g_v7
        refine ca_VNa (bq := a20) (As := [.int x3]) (rest := []) F M (c_X9_logOf g_v7) mf_X9_logOf tN_738 k_a20 rfl ⟨by decide, by decide⟩ ⟨rfl, rfl⟩ ⟨Nat.zero_le _, Nat.zero_le _⟩ hl.1 (by rw [e_a20]; rfl) (by decide) dX1_gatherGaps_32 (fun H locs M => ?_)
        refine lo_astore (i := 4) (lv' := [(4, va_rf v7), (0, .ref th), (1, .int x1), (2, va_rf x2), (3, .int x3)]) hx hb dX1_gatherGaps_35 hl (by decide) rfl (fun ls hl => ?_)
        refine lv_iconst (v := 0) hx hb dX1_gatherGaps_37 (by decide) ?_
        refine lv_istore (i := 5) (lv' := [(5, .int 0), (4, va_rf v7), (0, .ref th), (1, .int x1), (2, va_rf x2), (3, .int x3)]) hx hb dX1_gatherGaps_38 hl (by decide) (by simp [cat_rf, cat_i, cat_j, cat_r]) (fun ls hl => ?_)
        obtain ⟨q19, g_q19, hs⟩ := bd hs
        refine w_X1_gatherGaps_L40 F N 0 h _ _ _ q19 g_q19 (lv_sub hl [2, 3, 4, 5, 1, 0] rfl) M (fun t_ ls H locs eq_ hl M => ?_) (fun v eq_ => eq_.elim)
        subst eq_
        refine lv_iinc (v := x3 + 1) (lv' := [(3, .int (x3 + 1)), (0, .ref th), (1, .int x1), (2, va_rf x2)]) hx hb dX1_gatherGaps_92 hl (k := 3) rfl rfl (by decide) (by simp [cat_rf, cat_i, cat_j, cat_r]) (fun ls hl => ?_)
        refine lv_goto (tgt := 21) hx hb dX1_gatherGaps_95 (by decide) ?_
        exact ih (x3 + 1) q19 _ _ _ _ hs (lv_sub hl [1, 2, 3, 0] rfl) M kx kr
set_option maxHeartbeats 4000000 in
set_option maxRecDepth 100000 in
theorem c_X1_gatherGaps {l : Launch} {D : va_G} {cy : Nat → ClassId} {sz N : Nat} {h : IH} {th : Nat} {a0 : Int32} {qF : IH} (hs : s_X1_gatherGaps N h th a0 = some qF) : Ct l D cy yX1_gatherGaps cX1_gatherGaps 7 none rm_X1_gatherGaps h sz [.ref th, .int a0] qF none := by
  refine ct_start (by decide +kernel) [(0, .ref th), (1, .int a0)] (Nat.le_of_ble_eq_true rfl) rfl ?_
  intro p e s m args below meth c A H0 ls F hin hsz M hl
  obtain ⟨hx, hb, hr, hml, hown, hlk, hts, hK, hN, hA, hH⟩ := id F
  generalize s.heap = H at M ⊢
  generalize ([] : List Loc) = locs at M ⊢
  unfold s_X1_gatherGaps at hs
  refine lv_aload_n hx hb dX1_gatherGaps_0 rfl (lv_at hl 0 rfl) ?_
  refine lv_iconst (v := 0) hx hb dX1_gatherGaps_1 (by decide) ?_
  obtain ⟨h1, g_h1, hs⟩ := bd hs
  refine ro_pI F M fg_1_3 fp_1_3 rfl t_282 g_h1 dX1_gatherGaps_2 (fun H locs M => ?_)
  refine lv_aload_n hx hb dX1_gatherGaps_5 rfl (lv_at hl 0 rfl) ?_
  refine lv_iconst (v := 0) hx hb dX1_gatherGaps_6 (by decide) ?_
  obtain ⟨h2, g_h2, hs⟩ := bd hs
  refine ro_pI F M fg_1_4 fp_1_4 rfl t_283 g_h2 dX1_gatherGaps_7 (fun H locs M => ?_)
  refine lv_aload_n hx hb dX1_gatherGaps_10 rfl (lv_at hl 0 rfl) ?_
  obtain ⟨v3, g_v3, hs⟩ := bd hs
  refine ro_gR F M fg_1_0 t_279 g_v3 dX1_gatherGaps_11 ?_
  refine lv_iload_n hx hb dX1_gatherGaps_14 rfl (lv_at hl 1 rfl) ?_
  obtain ⟨v4, g_v4, hs⟩ := bd hs
  obtain ⟨a22, e_a22, k_a22, g_v4⟩ := cV_some g_v4
  refine ca_VNa (bq := a22) (As := [.int a0]) (rest := []) F M (c_X7_at g_v4) mf_X7_at tN_737 k_a22 rfl ⟨by decide, by decide⟩ ⟨rfl, rfl⟩ ⟨Nat.zero_le _, Nat.zero_le _⟩ hl.1 (by rw [e_a22]; rfl) (by decide) dX1_gatherGaps_15 (fun H locs M => ?_)
  refine lo_astore_n (i := 2) (lv' := [(2, va_rf v4), (0, .ref th), (1, .int a0)]) hx hb dX1_gatherGaps_18 rfl hl (by decide) rfl (fun ls hl => ?_)
  refine lv_iconst (v := 0) hx hb dX1_gatherGaps_19 (by decide) ?_
  refine lv_istore_n (i := 3) (lv' := [(3, .int 0), (2, va_rf v4), (0, .ref th), (1, .int a0)]) hx hb dX1_gatherGaps_20 rfl hl (by decide) (by simp [cat_rf, cat_i, cat_j, cat_r]) (fun ls hl => ?_)
  obtain ⟨q21, g_q21, hs⟩ := bd hs
  refine w_X1_gatherGaps_L21 F N 0 h2 _ _ _ q21 g_q21 (lv_sub hl [2, 3, 1, 0] rfl) M (fun t_ ls H locs eq_ hl M => ?_) (fun v eq_ => eq_.elim)
  subst eq_
  obtain rfl := Option.some.inj hs
  exact re_v F M dX1_gatherGaps_98
abbrev rm_J9_abs_067f4 : Room := { frames := 0, cells := 0, slots := 0, locals := 0 }
theorem mf_J9_abs_067f4 : MS yJ9_abs_067f4 cJ9_abs_067f4 2 (some .long) 1 := ⟨t_763, t_762, t_18, ⟨by decide +kernel, by decide +kernel, by decide +kernel⟩⟩
def s_J9_abs_067f4 (h : IH) (a0 : Int64) : Option (Int64) := ((if 0 ≤ (lg_cmp a0 0) then some a0 else some (-a0)) : Option (Int64)).bind fun q2 => some q2
set_option maxHeartbeats 4000000 in
set_option maxRecDepth 100000 in
theorem c_J9_abs_067f4 {l : Launch} {D : va_G} {cy : Nat → ClassId} {sz : Nat} {h : IH} {a0 : Int64} {qF : Int64} (hs : s_J9_abs_067f4 h a0 = some qF) : Ct l D cy yJ9_abs_067f4 cJ9_abs_067f4 2 (some .long) rm_J9_abs_067f4 h sz [.long a0] h (some (.long qF)) := by
  refine ct_startF (by decide +kernel) [(0, .long a0)] (Nat.le_of_ble_eq_true rfl) rfl ?_
  intro p e s m args below meth c A H0 ls F hin hsz M hl
  obtain ⟨hx, hb, hr, hml, hown, hlk, hts, hK, hN, hA, hH⟩ := id F
  generalize s.heap = H at M ⊢
  generalize ([] : List Loc) = locs at M ⊢
  unfold s_J9_abs_067f4 at hs
  refine lv_lload_n hx hb dJ9_abs_067f4_0 rfl (lv_at hl 0 rfl) ?_
  refine lv_lconst (v := 0) hx hb dJ9_abs_067f4_1 (by decide) ?_
  refine W.lcmp hx hb dJ9_abs_067f4_2 ?_
  obtain ⟨q2, hsq2, hs⟩ := bd hs
  have KJ12 : ∀ (ls : Array Slot) (H : Heap) (locs : List Loc), lv_has ls 2 [] → Mo D cy A H0 h H locs → W p l e rm_J9_abs_067f4 s m args below meth c H locs 0 0 (MQ below (QR D cy h A (some (.long qF))) args s 0 0 A) (F0 m 12 ls [.long q2]) := by
    intro ls H locs hl M
    obtain rfl := Option.some.inj hs
    exact re_l F M dJ9_abs_067f4_12
  clear hs
  have hs := hsq2
  refine lv_if_ge (tgt := 11) hx hb dJ9_abs_067f4_3 (by decide) (fun c1 => ?_) (fun c1 => ?_)
  · rw [if_pos c1] at hs
    refine lv_lload_n hx hb dJ9_abs_067f4_11 rfl (lv_at hl 0 rfl) ?_
    obtain rfl := Option.some.inj hs
    exact KJ12 _ _ _ (lv_sub hl [] rfl) M
  · rw [if_neg c1] at hs
    refine lv_lload_n hx hb dJ9_abs_067f4_6 rfl (lv_at hl 0 rfl) ?_
    refine lv_lneg hx hb dJ9_abs_067f4_7 ?_
    refine lv_goto (tgt := 12) hx hb dJ9_abs_067f4_8 (by decide) ?_
    obtain rfl := Option.some.inj hs
    exact KJ12 _ _ _ (lv_sub hl [] rfl) M
abbrev rm_X1_mostAgreeBy : Room := { frames := 1, cells := 0, slots := 0, locals := 21 }
theorem mf_X1_mostAgreeBy : MV 1 yX1_mostAgreeBy cX1_mostAgreeBy 7 (some .boolean) 2 RX1 := ⟨t_760, t_759, tS_46, t_10, ⟨by decide +kernel, by decide +kernel, by decide +kernel⟩, rfl, by decide⟩
def s_X1_mostAgreeBy_L9 (N : Nat) : Nat → Nat → Int64 → Int32 → Int32 → Int32 → Int32 → IH → Option (Int32)
  | 0, _, _, _, _, _, _, _ => none
  | n + 1, th, x1, x3, x4, x5, x6, h => (gI h 1 3 (some th)).bind fun v1 => if v1 ≤ x6 then some x4 else (gR h 1 2 (some th)).bind fun v3 => (aI h v3 x6).bind fun v4 => ((if v4 = x5 then some (x4, x5) else (gR h 1 1 (some th)).bind fun v6 => (aJ h v6 x6).bind fun v7 => (s_J9_abs_067f4 h (v7 - x1)).bind fun v8 => if 0 < (lg_cmp v8 x3.toInt64) then some (x4, x5) else (gR h 1 2 (some th)).bind fun v10 => (aI h v10 x6).bind fun v11 => some (x4 + 1, v11)) : Option (Int32 × Int32)).bind fun q12 => s_X1_mostAgreeBy_L9 N n th x1 x3 q12.1 q12.2 (x6 + 1) h
def s_X1_mostAgreeBy (N : Nat) (h : IH) (th : Nat) (a0 : Int64) (a1 : Int32) : Option (Int32) := (s_X1_mostAgreeBy_L9 N N th a0 a1 0 (-1) 0 h).bind fun q13 => (gI h 1 4 (some th)).bind fun v14 => ((if (2 * q13) ≤ v14 then some 0 else some 1) : Option (Int32)).bind fun q16 => if q16 = 0 ∨ q16 = 1 then some q16 else none
set_option maxHeartbeats 4000000 in
set_option maxRecDepth 100000 in
theorem w_X1_mostAgreeBy_L9 {p : Program} {l : Launch} {e : Env} {s : State} {m : MethodId} {args : Array Value} {below : List Frame} {meth : Method} {c : Code} {D : va_G} {cy : Nat → ClassId} {A : Nat → Prop} {H0 : Heap} {N th : Nat} {x1 : Int64} {x3 : Int32} {h : IH} {qF : Int32} (F : Fx p s m args meth c D cy A H0 yX1_mostAgreeBy cX1_mostAgreeBy 7 (some .boolean)) : ∀ (n : Nat) (x4 : Int32) (x5 : Int32) (x6 : Int32) (ls : Array Slot) (H : Heap) (locs : List Loc) (q : Int32), s_X1_mostAgreeBy_L9 N n th x1 x3 x4 x5 x6 h = some q → lv_has ls 7 [(0, .ref th), (1, .long x1), (3, .int x3), (4, .int x4), (5, .int x5), (6, .int x6)] → Mo D cy A H0 h H locs → (∀ (t : Int32) (ls : Array Slot) (H : Heap) (locs : List Loc), q = t → lv_has ls 7 [(0, .ref th), (4, .int t)] → Mo D cy A H0 h H locs → W p l e rm_X1_mostAgreeBy s m args below meth c H locs 0 0 (MQ below (QR D cy h A (some (.int qF))) args s 0 0 A) (F0 m 66 ls [])) → (∀ v : Int32, False → v = qF) → W p l e rm_X1_mostAgreeBy s m args below meth c H locs 0 0 (MQ below (QR D cy h A (some (.int qF))) args s 0 0 A) (F0 m 9 ls []) := by
  intro n
  induction n with
  | zero => intro x4 x5 x6 ls H locs q hs; rw [s_X1_mostAgreeBy_L9.eq_1] at hs; cases hs
  | succ n ih =>
    intro x4 x5 x6 ls H locs q hs hl M kx kr
    obtain ⟨hx, hb, hr, hml, hown, hlk, hts, hK, hN, hA, hH⟩ := id F
    rw [s_X1_mostAgreeBy_L9.eq_2] at hs
    refine lv_iload hx hb dX1_mostAgreeBy_9 (lv_at hl 5 rfl) ?_
    refine lv_aload_n hx hb dX1_mostAgreeBy_11 rfl (lv_at hl 0 rfl) ?_
    obtain ⟨v1, g_v1, hs⟩ := bd hs
    refine ro_gI F M fg_1_3 t_282 g_v1 dX1_mostAgreeBy_12 ?_
    refine lv_icmp_ge (tgt := 66) hx hb dX1_mostAgreeBy_15 (by decide) (fun c2 => ?_) (fun c2 => ?_)
    · rw [if_pos c2] at hs
      exact kx x4 _ _ _ (Option.some.inj hs).symm (lv_sub hl [0, 3] rfl) M
    · rw [if_neg c2] at hs
      refine lv_aload_n hx hb dX1_mostAgreeBy_18 rfl (lv_at hl 0 rfl) ?_
      obtain ⟨v3, g_v3, hs⟩ := bd hs
      refine ro_gR F M fg_1_2 t_281 g_v3 dX1_mostAgreeBy_19 ?_
      refine lv_iload hx hb dX1_mostAgreeBy_22 (lv_at hl 5 rfl) ?_
      obtain ⟨v4, g_v4, hs⟩ := bd hs
      refine ro_aI F M g_v4 dX1_mostAgreeBy_24 ?_
      refine lv_iload hx hb dX1_mostAgreeBy_25 (lv_at hl 4 rfl) ?_
      obtain ⟨q12, hsq12, hs⟩ := bd hs
      have KJ60 : ∀ (ls : Array Slot) (H : Heap) (locs : List Loc), lv_has ls 7 [(0, .ref th), (1, .long x1), (3, .int x3), (4, .int q12.1), (5, .int q12.2), (6, .int x6)] → Mo D cy A H0 h H locs → W p l e rm_X1_mostAgreeBy s m args below meth c H locs 0 0 (MQ below (QR D cy h A (some (.int qF))) args s 0 0 A) (F0 m 60 ls []) := by
        intro ls H locs hl M
        refine lv_iinc (v := x6 + 1) (lv' := [(6, .int (x6 + 1)), (0, .ref th), (1, .long x1), (3, .int x3), (4, .int q12.1), (5, .int q12.2)]) hx hb dX1_mostAgreeBy_60 hl (k := 5) rfl rfl (by decide) rfl (fun ls hl => ?_)
        refine lv_goto (tgt := 9) hx hb dX1_mostAgreeBy_63 (by decide) ?_
        exact ih q12.1 q12.2 (x6 + 1) _ _ _ _ hs (lv_sub hl [1, 2, 3, 4, 5, 0] rfl) M kx kr
      clear hs
      have hs := hsq12
      refine lv_icmp_eq (tgt := 60) hx hb dX1_mostAgreeBy_27 (by decide) (fun c5 => ?_) (fun c5 => ?_)
      · rw [if_pos c5] at hs
        obtain rfl := Option.some.inj hs
        exact KJ60 _ _ _ (lv_sub hl [0, 1, 2, 3, 4, 5] rfl) M
      · rw [if_neg c5] at hs
        refine lv_aload_n hx hb dX1_mostAgreeBy_30 rfl (lv_at hl 0 rfl) ?_
        obtain ⟨v6, g_v6, hs⟩ := bd hs
        refine ro_gR F M fg_1_1 t_280 g_v6 dX1_mostAgreeBy_31 ?_
        refine lv_iload hx hb dX1_mostAgreeBy_34 (lv_at hl 5 rfl) ?_
        obtain ⟨v7, g_v7, hs⟩ := bd hs
        refine ro_aJ F M g_v7 dX1_mostAgreeBy_36 ?_
        refine lv_lload_n hx hb dX1_mostAgreeBy_37 rfl (lv_at hl 1 rfl) ?_
        refine lv_lsub hx hb dX1_mostAgreeBy_38 ?_
        obtain ⟨v8, g_v8, hs⟩ := bd hs
        refine ca_Sl (As := [.long (v7 - x1)]) (rest := []) F M (c_J9_abs_067f4 g_v8) mf_J9_abs_067f4 t_761 rfl ⟨by decide, by decide⟩ ⟨rfl, rfl⟩ ⟨Nat.zero_le _, Nat.zero_le _⟩ hl.1 rfl (by decide) dX1_mostAgreeBy_39 (fun H locs M => ?_)
        refine lv_iload_n hx hb dX1_mostAgreeBy_42 rfl (lv_at hl 2 rfl) ?_
        refine lv_i2l hx hb dX1_mostAgreeBy_43 rfl ?_
        refine W.lcmp hx hb dX1_mostAgreeBy_44 ?_
        refine lv_if_gt (tgt := 60) hx hb dX1_mostAgreeBy_45 (by decide) (fun c9 => ?_) (fun c9 => ?_)
        · rw [if_pos c9] at hs
          obtain rfl := Option.some.inj hs
          exact KJ60 _ _ _ (lv_sub hl [0, 1, 2, 3, 4, 5] rfl) M
        · rw [if_neg c9] at hs
          refine lv_aload_n hx hb dX1_mostAgreeBy_48 rfl (lv_at hl 0 rfl) ?_
          obtain ⟨v10, g_v10, hs⟩ := bd hs
          refine ro_gR F M fg_1_2 t_281 g_v10 dX1_mostAgreeBy_49 ?_
          refine lv_iload hx hb dX1_mostAgreeBy_52 (lv_at hl 5 rfl) ?_
          obtain ⟨v11, g_v11, hs⟩ := bd hs
          refine ro_aI F M g_v11 dX1_mostAgreeBy_54 ?_
          refine lv_istore (i := 5) (lv' := [(5, .int v11), (0, .ref th), (1, .long x1), (3, .int x3), (4, .int x4), (6, .int x6)]) hx hb dX1_mostAgreeBy_55 hl (by decide) rfl (fun ls hl => ?_)
          refine lv_iinc (v := x4 + 1) (lv' := [(4, .int (x4 + 1)), (5, .int v11), (0, .ref th), (1, .long x1), (3, .int x3), (6, .int x6)]) hx hb dX1_mostAgreeBy_57 hl (k := 4) rfl rfl (by decide) rfl (fun ls hl => ?_)
          obtain rfl := Option.some.inj hs
          exact KJ60 _ _ _ (lv_sub hl [2, 3, 4, 0, 1, 5] rfl) M
set_option maxHeartbeats 4000000 in
set_option maxRecDepth 100000 in
theorem c_X1_mostAgreeBy {l : Launch} {D : va_G} {cy : Nat → ClassId} {sz N : Nat} {h : IH} {th : Nat} {a0 : Int64} {a1 : Int32} {qF : Int32} (hs : s_X1_mostAgreeBy N h th a0 a1 = some qF) : Ct l D cy yX1_mostAgreeBy cX1_mostAgreeBy 7 (some .boolean) rm_X1_mostAgreeBy h sz [.ref th, .long a0, .int a1] h (some (.int qF)) := by
  refine ct_start (by decide +kernel) [(0, .ref th), (1, .long a0), (3, .int a1)] (Nat.le_of_ble_eq_true rfl) rfl ?_
  intro p e s m args below meth c A H0 ls F hin hsz M hl
  obtain ⟨hx, hb, hr, hml, hown, hlk, hts, hK, hN, hA, hH⟩ := id F
  generalize s.heap = H at M ⊢
  generalize ([] : List Loc) = locs at M ⊢
  unfold s_X1_mostAgreeBy at hs
  refine lv_iconst (v := 0) hx hb dX1_mostAgreeBy_0 (by decide) ?_
  refine lv_istore (i := 4) (lv' := [(4, .int 0), (0, .ref th), (1, .long a0), (3, .int a1)]) hx hb dX1_mostAgreeBy_1 hl (by decide) rfl (fun ls hl => ?_)
  refine lv_iconst (v := (-1)) hx hb dX1_mostAgreeBy_3 (by decide) ?_
  refine lv_istore (i := 5) (lv' := [(5, .int (-1)), (4, .int 0), (0, .ref th), (1, .long a0), (3, .int a1)]) hx hb dX1_mostAgreeBy_4 hl (by decide) rfl (fun ls hl => ?_)
  refine lv_iconst (v := 0) hx hb dX1_mostAgreeBy_6 (by decide) ?_
  refine lv_istore (i := 6) (lv' := [(6, .int 0), (5, .int (-1)), (4, .int 0), (0, .ref th), (1, .long a0), (3, .int a1)]) hx hb dX1_mostAgreeBy_7 hl (by decide) rfl (fun ls hl => ?_)
  obtain ⟨q13, g_q13, hs⟩ := bd hs
  refine w_X1_mostAgreeBy_L9 F N 0 (-1) 0 _ _ _ q13 g_q13 (lv_sub hl [3, 4, 5, 2, 1, 0] rfl) M (fun t_ ls H locs eq_ hl M => ?_) (fun v eq_ => eq_.elim)
  subst eq_
  refine lv_iconst (v := 2) hx hb dX1_mostAgreeBy_66 (by decide) ?_
  refine lv_iload hx hb dX1_mostAgreeBy_67 (lv_at hl 1 rfl) ?_
  refine lv_imul hx hb dX1_mostAgreeBy_69 ?_
  refine lv_aload_n hx hb dX1_mostAgreeBy_70 rfl (lv_at hl 0 rfl) ?_
  obtain ⟨v14, g_v14, hs⟩ := bd hs
  refine ro_gI F M fg_1_4 t_283 g_v14 dX1_mostAgreeBy_71 ?_
  obtain ⟨q16, hsq16, hs⟩ := bd hs
  have KJ82 : ∀ (ls : Array Slot) (H : Heap) (locs : List Loc), lv_has ls 7 [] → Mo D cy A H0 h H locs → W p l e rm_X1_mostAgreeBy s m args below meth c H locs 0 0 (MQ below (QR D cy h A (some (.int qF))) args s 0 0 A) (F0 m 82 ls [.int q16]) := by
    intro ls H locs hl M
    by_cases zg : q16 = 0 ∨ q16 = 1
    · rw [if_pos zg] at hs
      obtain rfl := Option.some.inj hs
      exact re_z F M zg dX1_mostAgreeBy_82
    · rw [if_neg zg] at hs; cases hs
  clear hs
  have hs := hsq16
  refine lv_icmp_le (tgt := 81) hx hb dX1_mostAgreeBy_74 (by decide) (fun c15 => ?_) (fun c15 => ?_)
  · rw [if_pos c15] at hs
    refine lv_iconst (v := 0) hx hb dX1_mostAgreeBy_81 (by decide) ?_
    obtain rfl := Option.some.inj hs
    exact KJ82 _ _ _ (lv_sub hl [] rfl) M
  · rw [if_neg c15] at hs
    refine lv_iconst (v := 1) hx hb dX1_mostAgreeBy_77 (by decide) ?_
    refine lv_goto (tgt := 82) hx hb dX1_mostAgreeBy_78 (by decide) ?_
    obtain rfl := Option.some.inj hs
    exact KJ82 _ _ _ (lv_sub hl [] rfl) M
abbrev rm_X1_edgeTowardsZero : Room := { frames := 0, cells := 0, slots := 0, locals := 0 }
theorem mf_X1_edgeTowardsZero : MS yX1_edgeTowardsZero cX1_edgeTowardsZero 3 (some .long) 2 := ⟨t_766, t_765, t_10, ⟨by decide +kernel, by decide +kernel, by decide +kernel⟩⟩
def s_X1_edgeTowardsZero (h : IH) (a0 : Int64) (a1 : Int32) : Option (Int64) := if (lg_cmp a0 a1.toInt64) ≤ 0 then ((if 0 ≤ (lg_cmp a0 ((-a1).toInt64)) then some 0 else some (a0 + a1.toInt64)) : Option (Int64)).bind fun q3 => some q3 else some (a0 - a1.toInt64)
set_option maxHeartbeats 4000000 in
set_option maxRecDepth 100000 in
theorem c_X1_edgeTowardsZero {l : Launch} {D : va_G} {cy : Nat → ClassId} {sz : Nat} {h : IH} {a0 : Int64} {a1 : Int32} {qF : Int64} (hs : s_X1_edgeTowardsZero h a0 a1 = some qF) : Ct l D cy yX1_edgeTowardsZero cX1_edgeTowardsZero 3 (some .long) rm_X1_edgeTowardsZero h sz [.long a0, .int a1] h (some (.long qF)) := by
  refine ct_start (by decide +kernel) [(0, .long a0), (2, .int a1)] (Nat.le_of_ble_eq_true rfl) rfl ?_
  intro p e s m args below meth c A H0 ls F hin hsz M hl
  obtain ⟨hx, hb, hr, hml, hown, hlk, hts, hK, hN, hA, hH⟩ := id F
  generalize s.heap = H at M ⊢
  generalize ([] : List Loc) = locs at M ⊢
  unfold s_X1_edgeTowardsZero at hs
  refine lv_lload_n hx hb dX1_edgeTowardsZero_0 rfl (lv_at hl 0 rfl) ?_
  refine lv_iload_n hx hb dX1_edgeTowardsZero_1 rfl (lv_at hl 1 rfl) ?_
  refine lv_i2l hx hb dX1_edgeTowardsZero_2 rfl ?_
  refine W.lcmp hx hb dX1_edgeTowardsZero_3 ?_
  refine lv_if_le (tgt := 12) hx hb dX1_edgeTowardsZero_4 (by decide) (fun c1 => ?_) (fun c1 => ?_)
  · rw [if_pos c1] at hs
    refine lv_lload_n hx hb dX1_edgeTowardsZero_12 rfl (lv_at hl 0 rfl) ?_
    refine lv_iload_n hx hb dX1_edgeTowardsZero_13 rfl (lv_at hl 1 rfl) ?_
    refine lv_ineg hx hb dX1_edgeTowardsZero_14 ?_
    refine lv_i2l hx hb dX1_edgeTowardsZero_15 rfl ?_
    refine W.lcmp hx hb dX1_edgeTowardsZero_16 ?_
    obtain ⟨q3, hsq3, hs⟩ := bd hs
    have KJ28 : ∀ (ls : Array Slot) (H : Heap) (locs : List Loc), lv_has ls 3 [] → Mo D cy A H0 h H locs → W p l e rm_X1_edgeTowardsZero s m args below meth c H locs 0 0 (MQ below (QR D cy h A (some (.long qF))) args s 0 0 A) (F0 m 28 ls [.long q3]) := by
      intro ls H locs hl M
      obtain rfl := Option.some.inj hs
      exact re_l F M dX1_edgeTowardsZero_28
    clear hs
    have hs := hsq3
    refine lv_if_ge (tgt := 27) hx hb dX1_edgeTowardsZero_17 (by decide) (fun c2 => ?_) (fun c2 => ?_)
    · rw [if_pos c2] at hs
      refine lv_lconst (v := 0) hx hb dX1_edgeTowardsZero_27 (by decide) ?_
      obtain rfl := Option.some.inj hs
      exact KJ28 _ _ _ (lv_sub hl [] rfl) M
    · rw [if_neg c2] at hs
      refine lv_lload_n hx hb dX1_edgeTowardsZero_20 rfl (lv_at hl 0 rfl) ?_
      refine lv_iload_n hx hb dX1_edgeTowardsZero_21 rfl (lv_at hl 1 rfl) ?_
      refine lv_i2l hx hb dX1_edgeTowardsZero_22 rfl ?_
      refine lv_ladd hx hb dX1_edgeTowardsZero_23 ?_
      refine lv_goto (tgt := 28) hx hb dX1_edgeTowardsZero_24 (by decide) ?_
      obtain rfl := Option.some.inj hs
      exact KJ28 _ _ _ (lv_sub hl [] rfl) M
  · rw [if_neg c1] at hs
    refine lv_lload_n hx hb dX1_edgeTowardsZero_7 rfl (lv_at hl 0 rfl) ?_
    refine lv_iload_n hx hb dX1_edgeTowardsZero_8 rfl (lv_at hl 1 rfl) ?_
    refine lv_i2l hx hb dX1_edgeTowardsZero_9 rfl ?_
    refine lv_lsub hx hb dX1_edgeTowardsZero_10 ?_
    obtain rfl := Option.some.inj hs
    exact re_l F M dX1_edgeTowardsZero_11
abbrev rm_X1_isNearer : Room := { frames := 1, cells := 0, slots := 0, locals := 21 }
theorem mf_X1_isNearer : MS yX1_isNearer cX1_isNearer 4 (some .boolean) 2 := ⟨t_769, t_768, t_10, ⟨by decide +kernel, by decide +kernel, by decide +kernel⟩⟩
def s_X1_isNearer (h : IH) (a0 : Int64) (a1 : Int64) : Option (Int32) := ((if (lg_cmp a1 0) = 0 then some 1 else (s_J9_abs_067f4 h a0).bind fun v2 => (s_J9_abs_067f4 h a1).bind fun v3 => if (lg_cmp v2 v3) < 0 then some 1 else (s_J9_abs_067f4 h a0).bind fun v5 => (s_J9_abs_067f4 h a1).bind fun v6 => if (lg_cmp v5 v6) = 0 then if 0 ≤ (lg_cmp a0 a1) then some 0 else some 1 else some 0) : Option (Int32)).bind fun q9 => if q9 = 0 ∨ q9 = 1 then some q9 else none
set_option maxHeartbeats 4000000 in
set_option maxRecDepth 100000 in
theorem c_X1_isNearer {l : Launch} {D : va_G} {cy : Nat → ClassId} {sz : Nat} {h : IH} {a0 : Int64} {a1 : Int64} {qF : Int32} (hs : s_X1_isNearer h a0 a1 = some qF) : Ct l D cy yX1_isNearer cX1_isNearer 4 (some .boolean) rm_X1_isNearer h sz [.long a0, .long a1] h (some (.int qF)) := by
  refine ct_start (by decide +kernel) [(0, .long a0), (2, .long a1)] (Nat.le_of_ble_eq_true rfl) rfl ?_
  intro p e s m args below meth c A H0 ls F hin hsz M hl
  obtain ⟨hx, hb, hr, hml, hown, hlk, hts, hK, hN, hA, hH⟩ := id F
  generalize s.heap = H at M ⊢
  generalize ([] : List Loc) = locs at M ⊢
  unfold s_X1_isNearer at hs
  refine lv_lload_n hx hb dX1_isNearer_0 rfl (lv_at hl 1 rfl) ?_
  refine lv_lconst (v := 0) hx hb dX1_isNearer_1 (by decide) ?_
  refine W.lcmp hx hb dX1_isNearer_2 ?_
  obtain ⟨q9, hsq9, hs⟩ := bd hs
  have KJ41 : ∀ (ls : Array Slot) (H : Heap) (locs : List Loc), lv_has ls 4 [] → Mo D cy A H0 h H locs → W p l e rm_X1_isNearer s m args below meth c H locs 0 0 (MQ below (QR D cy h A (some (.int qF))) args s 0 0 A) (F0 m 41 ls [.int q9]) := by
    intro ls H locs hl M
    by_cases zg : q9 = 0 ∨ q9 = 1
    · rw [if_pos zg] at hs
      obtain rfl := Option.some.inj hs
      exact re_z F M zg dX1_isNearer_41
    · rw [if_neg zg] at hs; cases hs
  clear hs
  have hs := hsq9
  refine lv_if_eq (tgt := 36) hx hb dX1_isNearer_3 (by decide) (fun c1 => ?_) (fun c1 => ?_)
  · rw [if_pos c1] at hs
    refine lv_iconst (v := 1) hx hb dX1_isNearer_36 (by decide) ?_
    refine lv_goto (tgt := 41) hx hb dX1_isNearer_37 (by decide) ?_
    obtain rfl := Option.some.inj hs
    exact KJ41 _ _ _ (lv_sub hl [] rfl) M
  · rw [if_neg c1] at hs
    refine lv_lload_n hx hb dX1_isNearer_6 rfl (lv_at hl 0 rfl) ?_
    obtain ⟨v2, g_v2, hs⟩ := bd hs
    refine ca_Sl (As := [.long a0]) (rest := []) F M (c_J9_abs_067f4 g_v2) mf_J9_abs_067f4 t_761 rfl ⟨by decide, by decide⟩ ⟨rfl, rfl⟩ ⟨Nat.zero_le _, Nat.zero_le _⟩ hl.1 rfl (by decide) dX1_isNearer_7 (fun H locs M => ?_)
    refine lv_lload_n hx hb dX1_isNearer_10 rfl (lv_at hl 1 rfl) ?_
    obtain ⟨v3, g_v3, hs⟩ := bd hs
    refine ca_Sl (As := [.long a1]) (rest := [.long v2]) F M (c_J9_abs_067f4 g_v3) mf_J9_abs_067f4 t_761 rfl ⟨by decide, by decide⟩ ⟨rfl, rfl⟩ ⟨Nat.zero_le _, Nat.zero_le _⟩ hl.1 rfl (by simp [cat_rf, cat_i, cat_j, cat_r]) dX1_isNearer_11 (fun H locs M => ?_)
    refine W.lcmp hx hb dX1_isNearer_14 ?_
    refine lv_if_lt (tgt := 36) hx hb dX1_isNearer_15 (by decide) (fun c4 => ?_) (fun c4 => ?_)
    · rw [if_pos c4] at hs
      refine lv_iconst (v := 1) hx hb dX1_isNearer_36 (by decide) ?_
      refine lv_goto (tgt := 41) hx hb dX1_isNearer_37 (by decide) ?_
      obtain rfl := Option.some.inj hs
      exact KJ41 _ _ _ (lv_sub hl [] rfl) M
    · rw [if_neg c4] at hs
      refine lv_lload_n hx hb dX1_isNearer_18 rfl (lv_at hl 0 rfl) ?_
      obtain ⟨v5, g_v5, hs⟩ := bd hs
      refine ca_Sl (As := [.long a0]) (rest := []) F M (c_J9_abs_067f4 g_v5) mf_J9_abs_067f4 t_761 rfl ⟨by decide, by decide⟩ ⟨rfl, rfl⟩ ⟨Nat.zero_le _, Nat.zero_le _⟩ hl.1 rfl (by decide) dX1_isNearer_19 (fun H locs M => ?_)
      refine lv_lload_n hx hb dX1_isNearer_22 rfl (lv_at hl 1 rfl) ?_
      obtain ⟨v6, g_v6, hs⟩ := bd hs
      refine ca_Sl (As := [.long a1]) (rest := [.long v5]) F M (c_J9_abs_067f4 g_v6) mf_J9_abs_067f4 t_761 rfl ⟨by decide, by decide⟩ ⟨rfl, rfl⟩ ⟨Nat.zero_le _, Nat.zero_le _⟩ hl.1 rfl (by simp [cat_rf, cat_i, cat_j, cat_r]) dX1_isNearer_23 (fun H locs M => ?_)
      refine W.lcmp hx hb dX1_isNearer_26 ?_
      refine lv_if_ne (tgt := 40) hx hb dX1_isNearer_27 (by decide) (fun c7 => ?_) (fun c7 => ?_)
      · rw [if_neg c7] at hs
        refine lv_iconst (v := 0) hx hb dX1_isNearer_40 (by decide) ?_
        obtain rfl := Option.some.inj hs
        exact KJ41 _ _ _ (lv_sub hl [] rfl) M
      · rw [if_pos c7] at hs
        refine lv_lload_n hx hb dX1_isNearer_30 rfl (lv_at hl 0 rfl) ?_
        refine lv_lload_n hx hb dX1_isNearer_31 rfl (lv_at hl 1 rfl) ?_
        refine W.lcmp hx hb dX1_isNearer_32 ?_
        refine lv_if_ge (tgt := 40) hx hb dX1_isNearer_33 (by decide) (fun c8 => ?_) (fun c8 => ?_)
        · rw [if_pos c8] at hs
          refine lv_iconst (v := 0) hx hb dX1_isNearer_40 (by decide) ?_
          obtain rfl := Option.some.inj hs
          exact KJ41 _ _ _ (lv_sub hl [] rfl) M
        · rw [if_neg c8] at hs
          refine lv_iconst (v := 1) hx hb dX1_isNearer_36 (by decide) ?_
          refine lv_goto (tgt := 41) hx hb dX1_isNearer_37 (by decide) ?_
          obtain rfl := Option.some.inj hs
          exact KJ41 _ _ _ (lv_sub hl [] rfl) M
abbrev rm_X1_offsetOf : Room := { frames := 4, cells := 0, slots := 0, locals := 99 }
theorem mf_X1_offsetOf : MV 1 yX1_offsetOf cX1_offsetOf 8 (some .long) 2 RX1 := ⟨t_732, t_731, tS_40, t_10, ⟨by decide +kernel, by decide +kernel, by decide +kernel⟩, rfl, by decide⟩
def s_X1_offsetOf_L21 (N : Nat) : Nat → Nat → Int32 → Int64 → Int32 → IH → Option (Int64)
  | 0, _, _, _, _, _ => none
  | n + 1, th, x2, x3, x5, h => (gI h 1 3 (some th)).bind fun v4 => if v4 ≤ x5 then some x3 else (gR h 1 1 (some th)).bind fun v6 => (aJ h v6 x5).bind fun v7 => (s_X1_edgeTowardsZero h v7 x2).bind fun v8 => ((if (lg_cmp v8 0) = 0 then some x3 else (s_X1_isNearer h v8 x3).bind fun v10 => if v10 = 0 then some x3 else (cV h 1 (some th) fun a14 => s_X1_mostAgreeBy N h a14 v8 x2).bind fun v12 => if v12 = 0 then some x3 else some v8) : Option (Int64)).bind fun q15 => s_X1_offsetOf_L21 N n th x2 q15 (x5 + 1) h
def s_X1_offsetOf (N : Nat) (h : IH) (th : Nat) (a0 : Int32) (a1 : Int32) : Option (Int64 × IH) := (cV h 1 (some th) fun a18 => s_X1_gatherGaps N h a18 a0).bind fun v1 => (cV v1 1 (some th) fun a17 => s_X1_mostAgreeBy N v1 a17 0 a1).bind fun v2 => if v2 = 0 then (s_X1_offsetOf_L21 N N th a1 0 0 v1).bind fun q16 => some (q16, v1) else some (0, v1)
set_option maxHeartbeats 4000000 in
set_option maxRecDepth 100000 in
theorem w_X1_offsetOf_L21 {p : Program} {l : Launch} {e : Env} {s : State} {m : MethodId} {args : Array Value} {below : List Frame} {meth : Method} {c : Code} {D : va_G} {cy : Nat → ClassId} {A : Nat → Prop} {H0 : Heap} {N th : Nat} {x2 : Int32} {h : IH} {qF : Int64 × IH} (F : Fx p s m args meth c D cy A H0 yX1_offsetOf cX1_offsetOf 8 (some .long)) : ∀ (n : Nat) (x3 : Int64) (x5 : Int32) (ls : Array Slot) (H : Heap) (locs : List Loc) (q : Int64), s_X1_offsetOf_L21 N n th x2 x3 x5 h = some q → lv_has ls 8 [(0, .ref th), (2, .int x2), (3, .long x3), (5, .int x5)] → Mo D cy A H0 h H locs → (∀ (t : Int64) (ls : Array Slot) (H : Heap) (locs : List Loc), q = t → lv_has ls 8 [(3, .long t)] → Mo D cy A H0 h H locs → W p l e rm_X1_offsetOf s m args below meth c H locs 0 0 (MQ below (QR D cy qF.2 A (some (.long qF.1))) args s 0 0 A) (F0 m 78 ls [])) → (∀ v : Int64 × IH, False → v = qF) → W p l e rm_X1_offsetOf s m args below meth c H locs 0 0 (MQ below (QR D cy qF.2 A (some (.long qF.1))) args s 0 0 A) (F0 m 21 ls []) := by
  intro n
  induction n with
  | zero => intro x3 x5 ls H locs q hs; rw [s_X1_offsetOf_L21.eq_1] at hs; cases hs
  | succ n ih =>
    intro x3 x5 ls H locs q hs hl M kx kr
    obtain ⟨hx, hb, hr, hml, hown, hlk, hts, hK, hN, hA, hH⟩ := id F
    rw [s_X1_offsetOf_L21.eq_2] at hs
    refine lv_iload hx hb dX1_offsetOf_21 (lv_at hl 3 rfl) ?_
    refine lv_aload_n hx hb dX1_offsetOf_23 rfl (lv_at hl 0 rfl) ?_
    obtain ⟨v4, g_v4, hs⟩ := bd hs
    refine ro_gI F M fg_1_3 t_282 g_v4 dX1_offsetOf_24 ?_
    refine lv_icmp_ge (tgt := 78) hx hb dX1_offsetOf_27 (by decide) (fun c5 => ?_) (fun c5 => ?_)
    · rw [if_pos c5] at hs
      exact kx x3 _ _ _ (Option.some.inj hs).symm (lv_sub hl [2] rfl) M
    · rw [if_neg c5] at hs
      refine lv_aload_n hx hb dX1_offsetOf_30 rfl (lv_at hl 0 rfl) ?_
      obtain ⟨v6, g_v6, hs⟩ := bd hs
      refine ro_gR F M fg_1_1 t_280 g_v6 dX1_offsetOf_31 ?_
      refine lv_iload hx hb dX1_offsetOf_34 (lv_at hl 3 rfl) ?_
      obtain ⟨v7, g_v7, hs⟩ := bd hs
      refine ro_aJ F M g_v7 dX1_offsetOf_36 ?_
      refine lv_iload_n hx hb dX1_offsetOf_37 rfl (lv_at hl 1 rfl) ?_
      obtain ⟨v8, g_v8, hs⟩ := bd hs
      refine ca_Sl (As := [.long v7, .int x2]) (rest := []) F M (c_X1_edgeTowardsZero g_v8) mf_X1_edgeTowardsZero t_764 rfl ⟨by decide, by decide⟩ ⟨rfl, rfl⟩ ⟨Nat.zero_le _, Nat.zero_le _⟩ hl.1 rfl (by decide) dX1_offsetOf_38 (fun H locs M => ?_)
      refine lv_lstore (i := 6) (lv' := [(6, .long v8), (0, .ref th), (2, .int x2), (3, .long x3), (5, .int x5)]) hx hb dX1_offsetOf_41 hl (by decide) rfl (fun ls hl => ?_)
      refine lv_lload hx hb dX1_offsetOf_43 (lv_at hl 0 rfl) ?_
      refine lv_lconst (v := 0) hx hb dX1_offsetOf_45 (by decide) ?_
      refine W.lcmp hx hb dX1_offsetOf_46 ?_
      obtain ⟨q15, hsq15, hs⟩ := bd hs
      have KJ72 : ∀ (ls : Array Slot) (H : Heap) (locs : List Loc), lv_has ls 8 [(0, .ref th), (2, .int x2), (3, .long q15), (5, .int x5)] → Mo D cy A H0 h H locs → W p l e rm_X1_offsetOf s m args below meth c H locs 0 0 (MQ below (QR D cy qF.2 A (some (.long qF.1))) args s 0 0 A) (F0 m 72 ls []) := by
        intro ls H locs hl M
        refine lv_iinc (v := x5 + 1) (lv' := [(5, .int (x5 + 1)), (0, .ref th), (2, .int x2), (3, .long q15)]) hx hb dX1_offsetOf_72 hl (k := 3) rfl rfl (by decide) rfl (fun ls hl => ?_)
        refine lv_goto (tgt := 21) hx hb dX1_offsetOf_75 (by decide) ?_
        exact ih q15 (x5 + 1) _ _ _ _ hs (lv_sub hl [1, 2, 3, 0] rfl) M kx kr
      clear hs
      have hs := hsq15
      refine lv_if_eq (tgt := 72) hx hb dX1_offsetOf_47 (by decide) (fun c9 => ?_) (fun c9 => ?_)
      · rw [if_pos c9] at hs
        obtain rfl := Option.some.inj hs
        exact KJ72 _ _ _ (lv_sub hl [1, 2, 3, 4] rfl) M
      · rw [if_neg c9] at hs
        refine lv_lload hx hb dX1_offsetOf_50 (lv_at hl 0 rfl) ?_
        refine lv_lload_n hx hb dX1_offsetOf_52 rfl (lv_at hl 3 rfl) ?_
        obtain ⟨v10, g_v10, hs⟩ := bd hs
        refine ca_Si (As := [.long v8, .long x3]) (rest := []) F M (c_X1_isNearer g_v10) mf_X1_isNearer t_767 rfl ⟨by decide, by decide⟩ ⟨rfl, rfl⟩ ⟨Nat.zero_le _, Nat.zero_le _⟩ hl.1 rfl (by decide) dX1_offsetOf_53 (fun H locs M => ?_)
        refine lv_if_eq (tgt := 72) hx hb dX1_offsetOf_56 (by decide) (fun c11 => ?_) (fun c11 => ?_)
        · rw [if_pos c11] at hs
          obtain rfl := Option.some.inj hs
          exact KJ72 _ _ _ (lv_sub hl [1, 2, 3, 4] rfl) M
        · rw [if_neg c11] at hs
          refine lv_aload_n hx hb dX1_offsetOf_59 rfl (lv_at hl 1 rfl) ?_
          refine lv_lload hx hb dX1_offsetOf_60 (lv_at hl 0 rfl) ?_
          refine lv_iload_n hx hb dX1_offsetOf_62 rfl (lv_at hl 2 rfl) ?_
          obtain ⟨v12, g_v12, hs⟩ := bd hs
          obtain ⟨a14, e_a14, k_a14, g_v12⟩ := cV_some g_v12
          obtain rfl := Option.some.inj e_a14
          refine ca_Vi (bq := th) (As := [.long v8, .int x2]) (rest := []) F M (c_X1_mostAgreeBy g_v12) mf_X1_mostAgreeBy t_757 k_a14 rfl ⟨by decide, by decide⟩ ⟨rfl, rfl⟩ ⟨Nat.zero_le _, Nat.zero_le _⟩ hl.1 rfl (by decide) dX1_offsetOf_63 (fun H locs M => ?_)
          refine lv_if_eq (tgt := 72) hx hb dX1_offsetOf_66 (by decide) (fun c13 => ?_) (fun c13 => ?_)
          · rw [if_pos c13] at hs
            obtain rfl := Option.some.inj hs
            exact KJ72 _ _ _ (lv_sub hl [1, 2, 3, 4] rfl) M
          · rw [if_neg c13] at hs
            refine lv_lload hx hb dX1_offsetOf_69 (lv_at hl 0 rfl) ?_
            refine lv_lstore_n (i := 3) (lv' := [(3, .long v8), (6, .long v8), (0, .ref th), (2, .int x2), (5, .int x5)]) hx hb dX1_offsetOf_71 rfl hl (by decide) rfl (fun ls hl => ?_)
            obtain rfl := Option.some.inj hs
            exact KJ72 _ _ _ (lv_sub hl [2, 3, 0, 4] rfl) M
set_option maxHeartbeats 4000000 in
set_option maxRecDepth 100000 in
theorem c_X1_offsetOf {l : Launch} {D : va_G} {cy : Nat → ClassId} {sz N : Nat} {h : IH} {th : Nat} {a0 : Int32} {a1 : Int32} {qF : Int64 × IH} (hs : s_X1_offsetOf N h th a0 a1 = some qF) : Ct l D cy yX1_offsetOf cX1_offsetOf 8 (some .long) rm_X1_offsetOf h sz [.ref th, .int a0, .int a1] qF.2 (some (.long qF.1)) := by
  refine ct_start (by decide +kernel) [(0, .ref th), (1, .int a0), (2, .int a1)] (Nat.le_of_ble_eq_true rfl) rfl ?_
  intro p e s m args below meth c A H0 ls F hin hsz M hl
  obtain ⟨hx, hb, hr, hml, hown, hlk, hts, hK, hN, hA, hH⟩ := id F
  generalize s.heap = H at M ⊢
  generalize ([] : List Loc) = locs at M ⊢
  unfold s_X1_offsetOf at hs
  refine lv_aload_n hx hb dX1_offsetOf_0 rfl (lv_at hl 0 rfl) ?_
  refine lv_iload_n hx hb dX1_offsetOf_1 rfl (lv_at hl 1 rfl) ?_
  obtain ⟨v1, g_v1, hs⟩ := bd hs
  obtain ⟨a18, e_a18, k_a18, g_v1⟩ := cV_some g_v1
  obtain rfl := Option.some.inj e_a18
  refine ca_Vv (bq := th) (As := [.int a0]) (rest := []) F M (c_X1_gatherGaps g_v1) mf_X1_gatherGaps t_733 k_a18 rfl ⟨by decide, by decide⟩ ⟨rfl, rfl⟩ ⟨Nat.zero_le _, Nat.zero_le _⟩ hl.1 rfl (by decide) dX1_offsetOf_2 (fun H locs M => ?_)
  refine lv_aload_n hx hb dX1_offsetOf_5 rfl (lv_at hl 0 rfl) ?_
  refine lv_lconst (v := 0) hx hb dX1_offsetOf_6 (by decide) ?_
  refine lv_iload_n hx hb dX1_offsetOf_7 rfl (lv_at hl 2 rfl) ?_
  obtain ⟨v2, g_v2, hs⟩ := bd hs
  obtain ⟨a17, e_a17, k_a17, g_v2⟩ := cV_some g_v2
  obtain rfl := Option.some.inj e_a17
  refine ca_Vi (bq := th) (As := [.long 0, .int a1]) (rest := []) F M (c_X1_mostAgreeBy g_v2) mf_X1_mostAgreeBy t_757 k_a17 rfl ⟨by decide, by decide⟩ ⟨rfl, rfl⟩ ⟨Nat.zero_le _, Nat.zero_le _⟩ hl.1 rfl (by decide) dX1_offsetOf_8 (fun H locs M => ?_)
  refine lv_if_eq (tgt := 16) hx hb dX1_offsetOf_11 (by decide) (fun c3 => ?_) (fun c3 => ?_)
  · rw [if_pos c3] at hs
    refine lv_lconst (v := 0) hx hb dX1_offsetOf_16 (by decide) ?_
    refine lv_lstore_n (i := 3) (lv' := [(3, .long 0), (0, .ref th), (1, .int a0), (2, .int a1)]) hx hb dX1_offsetOf_17 rfl hl (by decide) rfl (fun ls hl => ?_)
    refine lv_iconst (v := 0) hx hb dX1_offsetOf_18 (by decide) ?_
    refine lv_istore (i := 5) (lv' := [(5, .int 0), (3, .long 0), (0, .ref th), (1, .int a0), (2, .int a1)]) hx hb dX1_offsetOf_19 hl (by decide) rfl (fun ls hl => ?_)
    obtain ⟨q16, g_q16, hs⟩ := bd hs
    refine w_X1_offsetOf_L21 F N 0 0 _ _ _ q16 g_q16 (lv_sub hl [2, 4, 1, 0] rfl) M (fun t_ ls H locs eq_ hl M => ?_) (fun v eq_ => eq_.elim)
    subst eq_
    refine lv_lload_n hx hb dX1_offsetOf_78 rfl (lv_at hl 0 rfl) ?_
    obtain rfl := Option.some.inj hs
    exact re_l F M dX1_offsetOf_79
  · rw [if_neg c3] at hs
    refine lv_lconst (v := 0) hx hb dX1_offsetOf_14 (by decide) ?_
    obtain rfl := Option.some.inj hs
    exact re_l F M dX1_offsetOf_15
abbrev rm_X2_isComplete : Room := { frames := 0, cells := 0, slots := 0, locals := 0 }
theorem mf_X2_isComplete : MV 2 yX2_isComplete cX2_isComplete 1 (some .boolean) 0 RX2 := ⟨t_783, t_782, tS_48, t_5, ⟨by decide +kernel, by decide +kernel, by decide +kernel⟩, rfl, by decide⟩
def s_X2_isComplete (h : IH) (th : Nat) : Option (Int32) := (gI h 2 4 (some th)).bind fun v1 => ((if v1 = (-1) then some 0 else (gI h 2 5 (some th)).bind fun v3 => if v3 = (-1) then some 0 else some 1) : Option (Int32)).bind fun q5 => if q5 = 0 ∨ q5 = 1 then some q5 else none
set_option maxHeartbeats 4000000 in
set_option maxRecDepth 100000 in
theorem c_X2_isComplete {l : Launch} {D : va_G} {cy : Nat → ClassId} {sz : Nat} {h : IH} {th : Nat} {qF : Int32} (hs : s_X2_isComplete h th = some qF) : Ct l D cy yX2_isComplete cX2_isComplete 1 (some .boolean) rm_X2_isComplete h sz [.ref th] h (some (.int qF)) := by
  refine ct_start (by decide +kernel) [(0, .ref th)] (Nat.le_of_ble_eq_true rfl) rfl ?_
  intro p e s m args below meth c A H0 ls F hin hsz M hl
  obtain ⟨hx, hb, hr, hml, hown, hlk, hts, hK, hN, hA, hH⟩ := id F
  generalize s.heap = H at M ⊢
  generalize ([] : List Loc) = locs at M ⊢
  unfold s_X2_isComplete at hs
  refine lv_aload_n hx hb dX2_isComplete_0 rfl (lv_at hl 0 rfl) ?_
  obtain ⟨v1, g_v1, hs⟩ := bd hs
  refine ro_gI F M fg_2_4 t_109 g_v1 dX2_isComplete_1 ?_
  refine lv_iconst (v := (-1)) hx hb dX2_isComplete_4 (by decide) ?_
  obtain ⟨q5, hsq5, hs⟩ := bd hs
  have KJ21 : ∀ (ls : Array Slot) (H : Heap) (locs : List Loc), lv_has ls 1 [] → Mo D cy A H0 h H locs → W p l e rm_X2_isComplete s m args below meth c H locs 0 0 (MQ below (QR D cy h A (some (.int qF))) args s 0 0 A) (F0 m 21 ls [.int q5]) := by
    intro ls H locs hl M
    by_cases zg : q5 = 0 ∨ q5 = 1
    · rw [if_pos zg] at hs
      obtain rfl := Option.some.inj hs
      exact re_z F M zg dX2_isComplete_21
    · rw [if_neg zg] at hs; cases hs
  clear hs
  have hs := hsq5
  refine lv_icmp_eq (tgt := 20) hx hb dX2_isComplete_5 (by decide) (fun c2 => ?_) (fun c2 => ?_)
  · rw [if_pos c2] at hs
    refine lv_iconst (v := 0) hx hb dX2_isComplete_20 (by decide) ?_
    obtain rfl := Option.some.inj hs
    exact KJ21 _ _ _ (lv_sub hl [] rfl) M
  · rw [if_neg c2] at hs
    refine lv_aload_n hx hb dX2_isComplete_8 rfl (lv_at hl 0 rfl) ?_
    obtain ⟨v3, g_v3, hs⟩ := bd hs
    refine ro_gI F M fg_2_5 t_113 g_v3 dX2_isComplete_9 ?_
    refine lv_iconst (v := (-1)) hx hb dX2_isComplete_12 (by decide) ?_
    refine lv_icmp_eq (tgt := 20) hx hb dX2_isComplete_13 (by decide) (fun c4 => ?_) (fun c4 => ?_)
    · rw [if_pos c4] at hs
      refine lv_iconst (v := 0) hx hb dX2_isComplete_20 (by decide) ?_
      obtain rfl := Option.some.inj hs
      exact KJ21 _ _ _ (lv_sub hl [] rfl) M
    · rw [if_neg c4] at hs
      refine lv_iconst (v := 1) hx hb dX2_isComplete_16 (by decide) ?_
      refine lv_goto (tgt := 21) hx hb dX2_isComplete_17 (by decide) ?_
      obtain rfl := Option.some.inj hs
      exact KJ21 _ _ _ (lv_sub hl [] rfl) M
abbrev rm_J6_compare_7cf53 : Room := { frames := 0, cells := 0, slots := 0, locals := 0 }
theorem mf_J6_compare_7cf53 : MS yJ6_compare_7cf53 cJ6_compare_7cf53 2 (some .int) 2 := ⟨t_789, t_788, t_19, ⟨by decide +kernel, by decide +kernel, by decide +kernel⟩⟩
def s_J6_compare_7cf53 (h : IH) (a0 : Int32) (a1 : Int32) : Option (Int32) := ((if a1 ≤ a0 then if a0 = a1 then some 0 else some 1 else some (-1)) : Option (Int32)).bind fun q3 => some q3
set_option maxHeartbeats 4000000 in
set_option maxRecDepth 100000 in
theorem c_J6_compare_7cf53 {l : Launch} {D : va_G} {cy : Nat → ClassId} {sz : Nat} {h : IH} {a0 : Int32} {a1 : Int32} {qF : Int32} (hs : s_J6_compare_7cf53 h a0 a1 = some qF) : Ct l D cy yJ6_compare_7cf53 cJ6_compare_7cf53 2 (some .int) rm_J6_compare_7cf53 h sz [.int a0, .int a1] h (some (.int qF)) := by
  refine ct_startF (by decide +kernel) [(0, .int a0), (1, .int a1)] (Nat.le_of_ble_eq_true rfl) rfl ?_
  intro p e s m args below meth c A H0 ls F hin hsz M hl
  obtain ⟨hx, hb, hr, hml, hown, hlk, hts, hK, hN, hA, hH⟩ := id F
  generalize s.heap = H at M ⊢
  generalize ([] : List Loc) = locs at M ⊢
  unfold s_J6_compare_7cf53 at hs
  refine lv_iload_n hx hb dJ6_compare_7cf53_0 rfl (lv_at hl 0 rfl) ?_
  refine lv_iload_n hx hb dJ6_compare_7cf53_1 rfl (lv_at hl 1 rfl) ?_
  obtain ⟨q3, hsq3, hs⟩ := bd hs
  have KJ19 : ∀ (ls : Array Slot) (H : Heap) (locs : List Loc), lv_has ls 2 [] → Mo D cy A H0 h H locs → W p l e rm_J6_compare_7cf53 s m args below meth c H locs 0 0 (MQ below (QR D cy h A (some (.int qF))) args s 0 0 A) (F0 m 19 ls [.int q3]) := by
    intro ls H locs hl M
    obtain rfl := Option.some.inj hs
    exact re_i F M dJ6_compare_7cf53_19
  clear hs
  have hs := hsq3
  refine lv_icmp_ge (tgt := 9) hx hb dJ6_compare_7cf53_2 (by decide) (fun c1 => ?_) (fun c1 => ?_)
  · rw [if_pos c1] at hs
    refine lv_iload_n hx hb dJ6_compare_7cf53_9 rfl (lv_at hl 0 rfl) ?_
    refine lv_iload_n hx hb dJ6_compare_7cf53_10 rfl (lv_at hl 1 rfl) ?_
    refine lv_icmp_ne (tgt := 18) hx hb dJ6_compare_7cf53_11 (by decide) (fun c2 => ?_) (fun c2 => ?_)
    · rw [if_neg c2] at hs
      refine lv_iconst (v := 1) hx hb dJ6_compare_7cf53_18 (by decide) ?_
      obtain rfl := Option.some.inj hs
      exact KJ19 _ _ _ (lv_sub hl [] rfl) M
    · rw [if_pos c2] at hs
      refine lv_iconst (v := 0) hx hb dJ6_compare_7cf53_14 (by decide) ?_
      refine lv_goto (tgt := 19) hx hb dJ6_compare_7cf53_15 (by decide) ?_
      obtain rfl := Option.some.inj hs
      exact KJ19 _ _ _ (lv_sub hl [] rfl) M
  · rw [if_neg c1] at hs
    refine lv_iconst (v := (-1)) hx hb dJ6_compare_7cf53_5 (by decide) ?_
    refine lv_goto (tgt := 19) hx hb dJ6_compare_7cf53_6 (by decide) ?_
    obtain rfl := Option.some.inj hs
    exact KJ19 _ _ _ (lv_sub hl [] rfl) M
abbrev rm_X6_isAhead : Room := { frames := 1, cells := 0, slots := 0, locals := 21 }
theorem mf_X6_isAhead : MS yX6_isAhead cX6_isAhead 7 (some .boolean) 3 := ⟨t_786, t_785, t_9, ⟨by decide +kernel, by decide +kernel, by decide +kernel⟩⟩
def s_X6_isAhead (h : IH) (a0 : Option Nat) (a1 : Option Nat) (a2 : Int32) : Option (Int32) := if a1 = none then some 0 else (gI h 2 4 a0).bind fun v2 => (gI h 2 4 a1).bind fun v3 => (s_J6_compare_7cf53 h v2 v3).bind fun v4 => (gI h 2 5 a0).bind fun v5 => (gI h 2 5 a1).bind fun v6 => (s_J6_compare_7cf53 h v5 v6).bind fun v7 => ((if a2 = 0 then some v4 else some v7) : Option (Int32)).bind fun q9 => ((if a2 = 0 then some v7 else some v4) : Option (Int32)).bind fun q11 => ((if q9 = 0 then if q11 = 0 then (gL h 2 1 a0).bind fun v14 => (gL h 2 1 a1).bind fun v15 => if 0 ≤ (lg_cmp v14 v15) then some 0 else some 1 else if 0 ≤ q11 then some 0 else some 1 else if 0 ≤ q9 then some 0 else some 1) : Option (Int32)).bind fun q19 => if q19 = 0 ∨ q19 = 1 then some q19 else none
set_option maxHeartbeats 4000000 in
set_option maxRecDepth 100000 in
theorem c_X6_isAhead {l : Launch} {D : va_G} {cy : Nat → ClassId} {sz : Nat} {h : IH} {a0 : Option Nat} {a1 : Option Nat} {a2 : Int32} {qF : Int32} (hs : s_X6_isAhead h a0 a1 a2 = some qF) : Ct l D cy yX6_isAhead cX6_isAhead 7 (some .boolean) rm_X6_isAhead h sz [va_rf a0, va_rf a1, .int a2] h (some (.int qF)) := by
  refine ct_start (by decide +kernel) [(0, va_rf a0), (1, va_rf a1), (2, .int a2)] (by simp [lg_sl, cat_rf, cat_i, cat_j, cat_r]) (by simp [lv_args, cat_rf, cat_i, cat_j, cat_r]) ?_
  intro p e s m args below meth c A H0 ls F hin hsz M hl
  obtain ⟨hx, hb, hr, hml, hown, hlk, hts, hK, hN, hA, hH⟩ := id F
  generalize s.heap = H at M ⊢
  generalize ([] : List Loc) = locs at M ⊢
  unfold s_X6_isAhead at hs
  refine lo_aload_n hx hb dX6_isAhead_0 rfl (lv_at hl 1 rfl) ?_
  refine lo_ifnonnull (tgt := 6) hx hb dX6_isAhead_1 (by decide) (fun c1 => ?_) (fun c1 => ?_)
  · rw [if_neg c1] at hs
    refine lo_aload_n hx hb dX6_isAhead_6 rfl (lv_at hl 0 rfl) ?_
    obtain ⟨v2, g_v2, hs⟩ := bd hs
    refine ro_gIN F M fg_2_4 tN_111 g_v2 dX6_isAhead_7 ?_
    refine lo_aload_n hx hb dX6_isAhead_10 rfl (lv_at hl 1 rfl) ?_
    obtain ⟨v3, g_v3, hs⟩ := bd hs
    refine ro_gIN F M fg_2_4 tN_111 g_v3 dX6_isAhead_11 ?_
    obtain ⟨v4, g_v4, hs⟩ := bd hs
    refine ca_Si (As := [.int v2, .int v3]) (rest := []) F M (c_J6_compare_7cf53 g_v4) mf_J6_compare_7cf53 t_787 rfl ⟨by decide, by decide⟩ ⟨rfl, rfl⟩ ⟨Nat.zero_le _, Nat.zero_le _⟩ hl.1 rfl (by decide) dX6_isAhead_14 (fun H locs M => ?_)
    refine lv_istore_n (i := 3) (lv' := [(3, .int v4), (0, va_rf a0), (1, va_rf a1), (2, .int a2)]) hx hb dX6_isAhead_17 rfl hl (by decide) rfl (fun ls hl => ?_)
    refine lo_aload_n hx hb dX6_isAhead_18 rfl (lv_at hl 1 rfl) ?_
    obtain ⟨v5, g_v5, hs⟩ := bd hs
    refine ro_gIN F M fg_2_5 tN_115 g_v5 dX6_isAhead_19 ?_
    refine lo_aload_n hx hb dX6_isAhead_22 rfl (lv_at hl 2 rfl) ?_
    obtain ⟨v6, g_v6, hs⟩ := bd hs
    refine ro_gIN F M fg_2_5 tN_115 g_v6 dX6_isAhead_23 ?_
    obtain ⟨v7, g_v7, hs⟩ := bd hs
    refine ca_Si (As := [.int v5, .int v6]) (rest := []) F M (c_J6_compare_7cf53 g_v7) mf_J6_compare_7cf53 t_787 rfl ⟨by decide, by decide⟩ ⟨rfl, rfl⟩ ⟨Nat.zero_le _, Nat.zero_le _⟩ hl.1 rfl (by decide) dX6_isAhead_26 (fun H locs M => ?_)
    refine lv_istore (i := 4) (lv' := [(4, .int v7), (3, .int v4), (0, va_rf a0), (1, va_rf a1), (2, .int a2)]) hx hb dX6_isAhead_29 hl (by decide) rfl (fun ls hl => ?_)
    refine lv_iload_n hx hb dX6_isAhead_31 rfl (lv_at hl 4 rfl) ?_
    obtain ⟨q9, hsq9, hs⟩ := bd hs
    have KJ41 : ∀ (ls : Array Slot) (H : Heap) (locs : List Loc), lv_has ls 7 [(0, va_rf a0), (1, va_rf a1), (2, .int a2), (3, .int v4), (4, .int v7)] → Mo D cy A H0 h H locs → W p l e rm_X6_isAhead s m args below meth c H locs 0 0 (MQ below (QR D cy h A (some (.int qF))) args s 0 0 A) (F0 m 41 ls [.int q9]) := by
      intro ls H locs hl M
      refine lv_istore (i := 5) (lv' := [(5, .int q9), (0, va_rf a0), (1, va_rf a1), (2, .int a2), (3, .int v4), (4, .int v7)]) hx hb dX6_isAhead_41 hl (by decide) rfl (fun ls hl => ?_)
      refine lv_iload_n hx hb dX6_isAhead_43 rfl (lv_at hl 3 rfl) ?_
      obtain ⟨q11, hsq11, hs⟩ := bd hs
      have KJ53 : ∀ (ls : Array Slot) (H : Heap) (locs : List Loc), lv_has ls 7 [(0, va_rf a0), (1, va_rf a1), (5, .int q9)] → Mo D cy A H0 h H locs → W p l e rm_X6_isAhead s m args below meth c H locs 0 0 (MQ below (QR D cy h A (some (.int qF))) args s 0 0 A) (F0 m 53 ls [.int q11]) := by
        intro ls H locs hl M
        refine lv_istore (i := 6) (lv' := [(6, .int q11), (0, va_rf a0), (1, va_rf a1), (5, .int q9)]) hx hb dX6_isAhead_53 hl (by decide) rfl (fun ls hl => ?_)
        refine lv_iload hx hb dX6_isAhead_55 (lv_at hl 3 rfl) ?_
        obtain ⟨q19, hsq19, hs⟩ := bd hs
        have KJ108 : ∀ (ls : Array Slot) (H : Heap) (locs : List Loc), lv_has ls 7 [] → Mo D cy A H0 h H locs → W p l e rm_X6_isAhead s m args below meth c H locs 0 0 (MQ below (QR D cy h A (some (.int qF))) args s 0 0 A) (F0 m 108 ls [.int q19]) := by
          intro ls H locs hl M
          by_cases zg : q19 = 0 ∨ q19 = 1
          · rw [if_pos zg] at hs
            obtain rfl := Option.some.inj hs
            exact re_z F M zg dX6_isAhead_108
          · rw [if_neg zg] at hs; cases hs
        clear hs
        have hs := hsq19
        refine lv_if_eq (tgt := 73) hx hb dX6_isAhead_57 (by decide) (fun c12 => ?_) (fun c12 => ?_)
        · rw [if_pos c12] at hs
          refine lv_iload hx hb dX6_isAhead_73 (lv_at hl 0 rfl) ?_
          refine lv_if_eq (tgt := 91) hx hb dX6_isAhead_75 (by decide) (fun c13 => ?_) (fun c13 => ?_)
          · rw [if_pos c13] at hs
            refine lo_aload_n hx hb dX6_isAhead_91 rfl (lv_at hl 1 rfl) ?_
            obtain ⟨v14, g_v14, hs⟩ := bd hs
            refine ro_gLN F M fg_2_1 tN_95 g_v14 dX6_isAhead_92 ?_
            refine lo_aload_n hx hb dX6_isAhead_95 rfl (lv_at hl 2 rfl) ?_
            obtain ⟨v15, g_v15, hs⟩ := bd hs
            refine ro_gLN F M fg_2_1 tN_95 g_v15 dX6_isAhead_96 ?_
            refine W.lcmp hx hb dX6_isAhead_99 ?_
            refine lv_if_ge (tgt := 107) hx hb dX6_isAhead_100 (by decide) (fun c16 => ?_) (fun c16 => ?_)
            · rw [if_pos c16] at hs
              refine lv_iconst (v := 0) hx hb dX6_isAhead_107 (by decide) ?_
              obtain rfl := Option.some.inj hs
              exact KJ108 _ _ _ (lv_sub hl [] rfl) M
            · rw [if_neg c16] at hs
              refine lv_iconst (v := 1) hx hb dX6_isAhead_103 (by decide) ?_
              refine lv_goto (tgt := 108) hx hb dX6_isAhead_104 (by decide) ?_
              obtain rfl := Option.some.inj hs
              exact KJ108 _ _ _ (lv_sub hl [] rfl) M
          · rw [if_neg c13] at hs
            refine lv_iload hx hb dX6_isAhead_78 (lv_at hl 0 rfl) ?_
            refine lv_if_ge (tgt := 87) hx hb dX6_isAhead_80 (by decide) (fun c17 => ?_) (fun c17 => ?_)
            · rw [if_pos c17] at hs
              refine lv_iconst (v := 0) hx hb dX6_isAhead_87 (by decide) ?_
              refine lv_goto (tgt := 108) hx hb dX6_isAhead_88 (by decide) ?_
              obtain rfl := Option.some.inj hs
              exact KJ108 _ _ _ (lv_sub hl [] rfl) M
            · rw [if_neg c17] at hs
              refine lv_iconst (v := 1) hx hb dX6_isAhead_83 (by decide) ?_
              refine lv_goto (tgt := 108) hx hb dX6_isAhead_84 (by decide) ?_
              obtain rfl := Option.some.inj hs
              exact KJ108 _ _ _ (lv_sub hl [] rfl) M
        · rw [if_neg c12] at hs
          refine lv_iload hx hb dX6_isAhead_60 (lv_at hl 3 rfl) ?_
          refine lv_if_ge (tgt := 69) hx hb dX6_isAhead_62 (by decide) (fun c18 => ?_) (fun c18 => ?_)
          · rw [if_pos c18] at hs
            refine lv_iconst (v := 0) hx hb dX6_isAhead_69 (by decide) ?_
            refine lv_goto (tgt := 108) hx hb dX6_isAhead_70 (by decide) ?_
            obtain rfl := Option.some.inj hs
            exact KJ108 _ _ _ (lv_sub hl [] rfl) M
          · rw [if_neg c18] at hs
            refine lv_iconst (v := 1) hx hb dX6_isAhead_65 (by decide) ?_
            refine lv_goto (tgt := 108) hx hb dX6_isAhead_66 (by decide) ?_
            obtain rfl := Option.some.inj hs
            exact KJ108 _ _ _ (lv_sub hl [] rfl) M
      clear hs
      have hs := hsq11
      refine lv_if_eq (tgt := 51) hx hb dX6_isAhead_44 (by decide) (fun c10 => ?_) (fun c10 => ?_)
      · rw [if_pos c10] at hs
        refine lv_iload hx hb dX6_isAhead_51 (lv_at hl 5 rfl) ?_
        obtain rfl := Option.some.inj hs
        exact KJ53 _ _ _ (lv_sub hl [1, 2, 0] rfl) M
      · rw [if_neg c10] at hs
        refine lv_iload_n hx hb dX6_isAhead_47 rfl (lv_at hl 4 rfl) ?_
        refine lv_goto (tgt := 53) hx hb dX6_isAhead_48 (by decide) ?_
        obtain rfl := Option.some.inj hs
        exact KJ53 _ _ _ (lv_sub hl [1, 2, 0] rfl) M
    clear hs
    have hs := hsq9
    refine lv_if_eq (tgt := 40) hx hb dX6_isAhead_32 (by decide) (fun c8 => ?_) (fun c8 => ?_)
    · rw [if_pos c8] at hs
      refine lv_iload_n hx hb dX6_isAhead_40 rfl (lv_at hl 1 rfl) ?_
      obtain rfl := Option.some.inj hs
      exact KJ41 _ _ _ (lv_sub hl [2, 3, 4, 1, 0] rfl) M
    · rw [if_neg c8] at hs
      refine lv_iload hx hb dX6_isAhead_35 (lv_at hl 0 rfl) ?_
      refine lv_goto (tgt := 41) hx hb dX6_isAhead_37 (by decide) ?_
      obtain rfl := Option.some.inj hs
      exact KJ41 _ _ _ (lv_sub hl [2, 3, 4, 1, 0] rfl) M
  · rw [if_pos c1] at hs
    refine lv_iconst (v := 0) hx hb dX6_isAhead_4 (by decide) ?_
    obtain rfl := Option.some.inj hs
    exact re_z F M (Or.inl rfl) dX6_isAhead_5
abbrev rm_X6_putInOrder : Room := { frames := 2, cells := 0, slots := 0, locals := 47 }
theorem mf_X6_putInOrder : MS yX6_putInOrder cX6_putInOrder 8 (some .int) 4 := ⟨t_778, t_777, t_9, ⟨by decide +kernel, by decide +kernel, by decide +kernel⟩⟩
def s_X6_putInOrder_L59 (N : Nat) : Nat → Option Nat → Int32 → Option Nat → Int32 → Int32 → Int32 → Option Nat → Int32 → IH → Option (Int32 × IH)
  | 0, _, _, _, _, _, _, _, _, _ => none
  | n + 1, x0, x1, x2, x3, x4, x5, x6, x7, h => if x7 ≤ 0 then some (x7, h) else (aI h x2 (x7 - 1)).bind fun v12 => (cV h 4 x0 fun a18 => s_X4_contactAt h a18 v12).bind fun v13 => (s_X6_isAhead h x6 v13 x3).bind fun v14 => if v14 = 0 then some (x7, h) else (aI h x2 (x7 - 1)).bind fun v16 => (sI h x2 x7 v16).bind fun h17 => s_X6_putInOrder_L59 N n x0 x1 x2 x3 x4 x5 x6 (x7 + (-1)) h17
def s_X6_putInOrder_L6 (N : Nat) : Nat → Option Nat → Int32 → Option Nat → Int32 → Int32 → Int32 → IH → Option (Int32 × IH)
  | 0, _, _, _, _, _, _, _ => none
  | n + 1, x0, x1, x2, x3, x4, x5, h => (gI h 4 1 x0).bind fun v1 => if v1 ≤ x5 then some (x4, h) else (lnO h x2).bind fun v3 => if v3 ≤ x5 then some (x4, h) else (cV h 4 x0 fun a23 => s_X4_contactAt h a23 x5).bind fun v5 => ((if v5 = none then some (x4, h) else (gI h 2 6 v5).bind fun v7 => if v7 = x1 then (cV h 2 v5 fun a21 => s_X2_isComplete h a21 ).bind fun v9 => if v9 = 0 then some (x4, h) else (s_X6_putInOrder_L59 N N x0 x1 x2 x3 x4 x5 v5 x4 h).bind fun q19 => (sI q19.2 x2 q19.1 x5).bind fun h20 => some (x4 + 1, h20) else some (x4, h)) : Option (Int32 × IH)).bind fun q22 => s_X6_putInOrder_L6 N n x0 x1 x2 x3 q22.1 (x5 + 1) q22.2
def s_X6_putInOrder (N : Nat) (h : IH) (a0 : Option Nat) (a1 : Int32) (a2 : Option Nat) (a3 : Int32) : Option (Int32 × IH) := (s_X6_putInOrder_L6 N N a0 a1 a2 a3 0 0 h).bind fun q24 => some (q24.1, q24.2)
set_option maxHeartbeats 4000000 in
set_option maxRecDepth 100000 in
theorem w_X6_putInOrder_L59 {p : Program} {l : Launch} {e : Env} {s : State} {m : MethodId} {args : Array Value} {below : List Frame} {meth : Method} {c : Code} {D : va_G} {cy : Nat → ClassId} {A : Nat → Prop} {H0 : Heap} {N : Nat} {x0 : Option Nat} {x1 : Int32} {x2 : Option Nat} {x3 : Int32} {x4 : Int32} {x5 : Int32} {x6 : Option Nat} {qF : Int32 × IH} (F : Fx p s m args meth c D cy A H0 yX6_putInOrder cX6_putInOrder 8 (some .int)) : ∀ (n : Nat) (x7 : Int32) (h : IH) (ls : Array Slot) (H : Heap) (locs : List Loc) (q : Int32 × IH), s_X6_putInOrder_L59 N n x0 x1 x2 x3 x4 x5 x6 x7 h = some q → lv_has ls 8 [(0, va_rf x0), (1, .int x1), (2, va_rf x2), (3, .int x3), (4, .int x4), (5, .int x5), (6, va_rf x6), (7, .int x7)] → Mo D cy A H0 h H locs → (∀ (t : Int32 × IH) (ls : Array Slot) (H : Heap) (locs : List Loc), q = t → lv_has ls 8 [(0, va_rf x0), (1, .int x1), (2, va_rf x2), (3, .int x3), (4, .int x4), (5, .int x5), (7, .int t.1)] → Mo D cy A H0 t.2 H locs → W p l e rm_X6_putInOrder s m args below meth c H locs 0 0 (MQ below (QR D cy qF.2 A (some (.int qF.1))) args s 0 0 A) (F0 m 99 ls [])) → (∀ v : Int32 × IH, False → v = qF) → W p l e rm_X6_putInOrder s m args below meth c H locs 0 0 (MQ below (QR D cy qF.2 A (some (.int qF.1))) args s 0 0 A) (F0 m 59 ls []) := by
  intro n
  induction n with
  | zero => intro x7 h ls H locs q hs; rw [s_X6_putInOrder_L59.eq_1] at hs; cases hs
  | succ n ih =>
    intro x7 h ls H locs q hs hl M kx kr
    obtain ⟨hx, hb, hr, hml, hown, hlk, hts, hK, hN, hA, hH⟩ := id F
    rw [s_X6_putInOrder_L59.eq_2] at hs
    refine lv_iload hx hb dX6_putInOrder_59 (lv_at hl 7 rfl) ?_
    refine lv_if_le (tgt := 99) hx hb dX6_putInOrder_61 (by decide) (fun c11 => ?_) (fun c11 => ?_)
    · rw [if_pos c11] at hs
      exact kx (x7, h) _ _ _ (Option.some.inj hs).symm (lv_sub hl [0, 1, 2, 3, 4, 5, 7] rfl) M
    · rw [if_neg c11] at hs
      refine lo_aload hx hb dX6_putInOrder_64 (lv_at hl 6 rfl) ?_
      refine lo_aload_n hx hb dX6_putInOrder_66 rfl (lv_at hl 0 rfl) ?_
      refine lo_aload_n hx hb dX6_putInOrder_67 rfl (lv_at hl 2 rfl) ?_
      refine lv_iload hx hb dX6_putInOrder_68 (lv_at hl 7 rfl) ?_
      refine lv_iconst (v := 1) hx hb dX6_putInOrder_70 (by decide) ?_
      refine lv_isub hx hb dX6_putInOrder_71 ?_
      obtain ⟨v12, g_v12, hs⟩ := bd hs
      refine ro_aI F M g_v12 dX6_putInOrder_72 ?_
      obtain ⟨v13, g_v13, hs⟩ := bd hs
      obtain ⟨a18, e_a18, k_a18, g_v13⟩ := cV_some g_v13
      refine ca_VNa (bq := a18) (As := [.int v12]) (rest := [va_rf x6]) F M (c_X4_contactAt g_v13) mf_X4_contactAt tN_779 k_a18 rfl ⟨by decide, by decide⟩ ⟨rfl, rfl⟩ ⟨Nat.zero_le _, Nat.zero_le _⟩ hl.1 (by rw [e_a18]; rfl) (by simp [cat_rf, cat_i, cat_j, cat_r]) dX6_putInOrder_73 (fun H locs M => ?_)
      refine lv_iload_n hx hb dX6_putInOrder_76 rfl (lv_at hl 3 rfl) ?_
      obtain ⟨v14, g_v14, hs⟩ := bd hs
      refine ca_Si (As := [va_rf x6, va_rf v13, .int x3]) (rest := []) F M (c_X6_isAhead g_v14) mf_X6_isAhead t_784 rfl ⟨by decide, by decide⟩ ⟨rfl, rfl⟩ ⟨Nat.zero_le _, Nat.zero_le _⟩ hl.1 rfl (by decide) dX6_putInOrder_77 (fun H locs M => ?_)
      refine lv_if_eq (tgt := 99) hx hb dX6_putInOrder_80 (by decide) (fun c15 => ?_) (fun c15 => ?_)
      · rw [if_pos c15] at hs
        exact kx (x7, h) _ _ _ (Option.some.inj hs).symm (lv_sub hl [0, 1, 2, 3, 4, 5, 7] rfl) M
      · rw [if_neg c15] at hs
        refine lo_aload_n hx hb dX6_putInOrder_83 rfl (lv_at hl 2 rfl) ?_
        refine lv_iload hx hb dX6_putInOrder_84 (lv_at hl 7 rfl) ?_
        refine lo_aload_n hx hb dX6_putInOrder_86 rfl (lv_at hl 2 rfl) ?_
        refine lv_iload hx hb dX6_putInOrder_87 (lv_at hl 7 rfl) ?_
        refine lv_iconst (v := 1) hx hb dX6_putInOrder_89 (by decide) ?_
        refine lv_isub hx hb dX6_putInOrder_90 ?_
        obtain ⟨v16, g_v16, hs⟩ := bd hs
        refine ro_aI F M g_v16 dX6_putInOrder_91 ?_
        obtain ⟨h17, g_h17, hs⟩ := bd hs
        refine ro_sI F M g_h17 dX6_putInOrder_92 (fun H locs M => ?_)
        refine lv_iinc (v := x7 + (-1)) (lv' := [(7, .int (x7 + (-1))), (0, va_rf x0), (1, .int x1), (2, va_rf x2), (3, .int x3), (4, .int x4), (5, .int x5), (6, va_rf x6)]) hx hb dX6_putInOrder_93 hl (k := 7) rfl rfl (by decide) (by simp [cat_rf, cat_i, cat_j, cat_r]) (fun ls hl => ?_)
        refine lv_goto (tgt := 59) hx hb dX6_putInOrder_96 (by decide) ?_
        exact ih (x7 + (-1)) h17 _ _ _ _ hs (lv_sub hl [1, 2, 3, 4, 5, 6, 7, 0] rfl) M kx kr
set_option maxHeartbeats 4000000 in
set_option maxRecDepth 100000 in
theorem w_X6_putInOrder_L6 {p : Program} {l : Launch} {e : Env} {s : State} {m : MethodId} {args : Array Value} {below : List Frame} {meth : Method} {c : Code} {D : va_G} {cy : Nat → ClassId} {A : Nat → Prop} {H0 : Heap} {N : Nat} {x0 : Option Nat} {x1 : Int32} {x2 : Option Nat} {x3 : Int32} {qF : Int32 × IH} (F : Fx p s m args meth c D cy A H0 yX6_putInOrder cX6_putInOrder 8 (some .int)) : ∀ (n : Nat) (x4 : Int32) (x5 : Int32) (h : IH) (ls : Array Slot) (H : Heap) (locs : List Loc) (q : Int32 × IH), s_X6_putInOrder_L6 N n x0 x1 x2 x3 x4 x5 h = some q → lv_has ls 8 [(0, va_rf x0), (1, .int x1), (2, va_rf x2), (3, .int x3), (4, .int x4), (5, .int x5)] → Mo D cy A H0 h H locs → (∀ (t : Int32 × IH) (ls : Array Slot) (H : Heap) (locs : List Loc), q = t → lv_has ls 8 [(4, .int t.1)] → Mo D cy A H0 t.2 H locs → W p l e rm_X6_putInOrder s m args below meth c H locs 0 0 (MQ below (QR D cy qF.2 A (some (.int qF.1))) args s 0 0 A) (F0 m 114 ls [])) → (∀ v : Int32 × IH, False → v = qF) → W p l e rm_X6_putInOrder s m args below meth c H locs 0 0 (MQ below (QR D cy qF.2 A (some (.int qF.1))) args s 0 0 A) (F0 m 6 ls []) := by
  intro n
  induction n with
  | zero => intro x4 x5 h ls H locs q hs; rw [s_X6_putInOrder_L6.eq_1] at hs; cases hs
  | succ n ih =>
    intro x4 x5 h ls H locs q hs hl M kx kr
    obtain ⟨hx, hb, hr, hml, hown, hlk, hts, hK, hN, hA, hH⟩ := id F
    rw [s_X6_putInOrder_L6.eq_2] at hs
    refine lv_iload hx hb dX6_putInOrder_6 (lv_at hl 5 rfl) ?_
    refine lo_aload_n hx hb dX6_putInOrder_8 rfl (lv_at hl 0 rfl) ?_
    obtain ⟨v1, g_v1, hs⟩ := bd hs
    refine ro_gIN F M fg_4_1 tN_168 g_v1 dX6_putInOrder_9 ?_
    refine lv_icmp_ge (tgt := 114) hx hb dX6_putInOrder_12 (by decide) (fun c2 => ?_) (fun c2 => ?_)
    · rw [if_pos c2] at hs
      exact kx (x4, h) _ _ _ (Option.some.inj hs).symm (lv_sub hl [4] rfl) M
    · rw [if_neg c2] at hs
      refine lv_iload hx hb dX6_putInOrder_15 (lv_at hl 5 rfl) ?_
      refine lo_aload_n hx hb dX6_putInOrder_17 rfl (lv_at hl 2 rfl) ?_
      obtain ⟨v3, g_v3, hs⟩ := bd hs
      refine ro_len F M g_v3 dX6_putInOrder_18 ?_
      refine lv_icmp_ge (tgt := 114) hx hb dX6_putInOrder_19 (by decide) (fun c4 => ?_) (fun c4 => ?_)
      · rw [if_pos c4] at hs
        exact kx (x4, h) _ _ _ (Option.some.inj hs).symm (lv_sub hl [4] rfl) M
      · rw [if_neg c4] at hs
        refine lo_aload_n hx hb dX6_putInOrder_22 rfl (lv_at hl 0 rfl) ?_
        refine lv_iload hx hb dX6_putInOrder_23 (lv_at hl 5 rfl) ?_
        obtain ⟨v5, g_v5, hs⟩ := bd hs
        obtain ⟨a23, e_a23, k_a23, g_v5⟩ := cV_some g_v5
        refine ca_VNa (bq := a23) (As := [.int x5]) (rest := []) F M (c_X4_contactAt g_v5) mf_X4_contactAt tN_779 k_a23 rfl ⟨by decide, by decide⟩ ⟨rfl, rfl⟩ ⟨Nat.zero_le _, Nat.zero_le _⟩ hl.1 (by rw [e_a23]; rfl) (by decide) dX6_putInOrder_25 (fun H locs M => ?_)
        refine lo_astore (i := 6) (lv' := [(6, va_rf v5), (0, va_rf x0), (1, .int x1), (2, va_rf x2), (3, .int x3), (4, .int x4), (5, .int x5)]) hx hb dX6_putInOrder_28 hl (by decide) rfl (fun ls hl => ?_)
        refine lo_aload hx hb dX6_putInOrder_30 (lv_at hl 0 rfl) ?_
        obtain ⟨q22, hsq22, hs⟩ := bd hs
        have KJ108 : ∀ (ls : Array Slot) (H : Heap) (locs : List Loc), lv_has ls 8 [(0, va_rf x0), (1, .int x1), (2, va_rf x2), (3, .int x3), (4, .int q22.1), (5, .int x5)] → Mo D cy A H0 q22.2 H locs → W p l e rm_X6_putInOrder s m args below meth c H locs 0 0 (MQ below (QR D cy qF.2 A (some (.int qF.1))) args s 0 0 A) (F0 m 108 ls []) := by
          intro ls H locs hl M
          refine lv_iinc (v := x5 + 1) (lv' := [(5, .int (x5 + 1)), (0, va_rf x0), (1, .int x1), (2, va_rf x2), (3, .int x3), (4, .int q22.1)]) hx hb dX6_putInOrder_108 hl (k := 5) rfl rfl (by decide) rfl (fun ls hl => ?_)
          refine lv_goto (tgt := 6) hx hb dX6_putInOrder_111 (by decide) ?_
          exact ih q22.1 (x5 + 1) q22.2 _ _ _ _ hs (lv_sub hl [1, 2, 3, 4, 5, 0] rfl) M kx kr
        clear hs
        have hs := hsq22
        refine lo_ifnull (tgt := 108) hx hb dX6_putInOrder_32 (by decide) (fun c6 => ?_) (fun c6 => ?_)
        · rw [if_pos c6] at hs
          obtain rfl := Option.some.inj hs
          exact KJ108 _ _ _ (lv_sub hl [1, 2, 3, 4, 5, 6] rfl) M
        · rw [if_neg c6] at hs
          refine lo_aload hx hb dX6_putInOrder_35 (lv_at hl 0 rfl) ?_
          obtain ⟨v7, g_v7, hs⟩ := bd hs
          refine ro_gIN F M fg_2_6 tN_117 g_v7 dX6_putInOrder_37 ?_
          refine lv_iload_n hx hb dX6_putInOrder_40 rfl (lv_at hl 2 rfl) ?_
          refine lv_icmp_ne (tgt := 108) hx hb dX6_putInOrder_41 (by decide) (fun c8 => ?_) (fun c8 => ?_)
          · rw [if_neg c8] at hs
            obtain rfl := Option.some.inj hs
            exact KJ108 _ _ _ (lv_sub hl [1, 2, 3, 4, 5, 6] rfl) M
          · rw [if_pos c8] at hs
            refine lo_aload hx hb dX6_putInOrder_44 (lv_at hl 0 rfl) ?_
            obtain ⟨v9, g_v9, hs⟩ := bd hs
            obtain ⟨a21, e_a21, k_a21, g_v9⟩ := cV_some g_v9
            refine ca_VNi (bq := a21) (As := []) (rest := []) F M (c_X2_isComplete g_v9) mf_X2_isComplete tN_780 k_a21 rfl ⟨by decide, by decide⟩ ⟨rfl, rfl⟩ ⟨Nat.zero_le _, Nat.zero_le _⟩ hl.1 (by rw [e_a21]; rfl) (by decide) dX6_putInOrder_46 (fun H locs M => ?_)
            refine lv_if_ne (tgt := 55) hx hb dX6_putInOrder_49 (by decide) (fun c10 => ?_) (fun c10 => ?_)
            · rw [if_neg c10] at hs
              refine lv_iload hx hb dX6_putInOrder_55 (lv_at hl 5 rfl) ?_
              refine lv_istore (i := 7) (lv' := [(7, .int x4), (6, va_rf v5), (0, va_rf x0), (1, .int x1), (2, va_rf x2), (3, .int x3), (4, .int x4), (5, .int x5)]) hx hb dX6_putInOrder_57 hl (by decide) (by simp [cat_rf, cat_i, cat_j, cat_r]) (fun ls hl => ?_)
              obtain ⟨q19, g_q19, hs⟩ := bd hs
              refine w_X6_putInOrder_L59 F N x4 h _ _ _ q19 g_q19 (lv_sub hl [2, 3, 4, 5, 6, 7, 1, 0] rfl) M (fun t_ ls H locs eq_ hl M => ?_) (fun v eq_ => eq_.elim)
              subst eq_
              refine lo_aload_n hx hb dX6_putInOrder_99 rfl (lv_at hl 2 rfl) ?_
              refine lv_iload hx hb dX6_putInOrder_100 (lv_at hl 6 rfl) ?_
              refine lv_iload hx hb dX6_putInOrder_102 (lv_at hl 5 rfl) ?_
              obtain ⟨h20, g_h20, hs⟩ := bd hs
              refine ro_sI F M g_h20 dX6_putInOrder_104 (fun H locs M => ?_)
              refine lv_iinc (v := x4 + 1) (lv' := [(4, .int (x4 + 1)), (0, va_rf x0), (1, .int x1), (2, va_rf x2), (3, .int x3), (5, .int x5), (7, .int q19.1)]) hx hb dX6_putInOrder_105 hl (k := 4) rfl rfl (by decide) rfl (fun ls hl => ?_)
              obtain rfl := Option.some.inj hs
              exact KJ108 _ _ _ (lv_sub hl [1, 2, 3, 4, 0, 5] rfl) M
            · rw [if_pos c10] at hs
              refine lv_goto (tgt := 108) hx hb dX6_putInOrder_52 (by decide) ?_
              obtain rfl := Option.some.inj hs
              exact KJ108 _ _ _ (lv_sub hl [1, 2, 3, 4, 5, 6] rfl) M
set_option maxHeartbeats 4000000 in
set_option maxRecDepth 100000 in
theorem c_X6_putInOrder {l : Launch} {D : va_G} {cy : Nat → ClassId} {sz N : Nat} {h : IH} {a0 : Option Nat} {a1 : Int32} {a2 : Option Nat} {a3 : Int32} {qF : Int32 × IH} (hs : s_X6_putInOrder N h a0 a1 a2 a3 = some qF) : Ct l D cy yX6_putInOrder cX6_putInOrder 8 (some .int) rm_X6_putInOrder h sz [va_rf a0, .int a1, va_rf a2, .int a3] qF.2 (some (.int qF.1)) := by
  refine ct_start (by decide +kernel) [(0, va_rf a0), (1, .int a1), (2, va_rf a2), (3, .int a3)] (by simp [lg_sl, cat_rf, cat_i, cat_j, cat_r]) (by simp [lv_args, cat_rf, cat_i, cat_j, cat_r]) ?_
  intro p e s m args below meth c A H0 ls F hin hsz M hl
  obtain ⟨hx, hb, hr, hml, hown, hlk, hts, hK, hN, hA, hH⟩ := id F
  generalize s.heap = H at M ⊢
  generalize ([] : List Loc) = locs at M ⊢
  unfold s_X6_putInOrder at hs
  refine lv_iconst (v := 0) hx hb dX6_putInOrder_0 (by decide) ?_
  refine lv_istore (i := 4) (lv' := [(4, .int 0), (0, va_rf a0), (1, .int a1), (2, va_rf a2), (3, .int a3)]) hx hb dX6_putInOrder_1 hl (by decide) rfl (fun ls hl => ?_)
  refine lv_iconst (v := 0) hx hb dX6_putInOrder_3 (by decide) ?_
  refine lv_istore (i := 5) (lv' := [(5, .int 0), (4, .int 0), (0, va_rf a0), (1, .int a1), (2, va_rf a2), (3, .int a3)]) hx hb dX6_putInOrder_4 hl (by decide) rfl (fun ls hl => ?_)
  obtain ⟨q24, g_q24, hs⟩ := bd hs
  refine w_X6_putInOrder_L6 F N 0 0 h _ _ _ q24 g_q24 (lv_sub hl [2, 3, 4, 5, 1, 0] rfl) M (fun t_ ls H locs eq_ hl M => ?_) (fun v eq_ => eq_.elim)
  subst eq_
  refine lv_iload hx hb dX6_putInOrder_114 (lv_at hl 0 rfl) ?_
  obtain rfl := Option.some.inj hs
  exact re_i F M dX6_putInOrder_116
abbrev rm_X6_clearMeasures : Room := { frames := 0, cells := 0, slots := 0, locals := 0 }
theorem mf_X6_clearMeasures : MV 6 yX6_clearMeasures cX6_clearMeasures 3 none 0 RX6 := ⟨t_793, t_792, tS_49, t_9, ⟨by decide +kernel, by decide +kernel, by decide +kernel⟩, rfl, by decide⟩
def s_X6_clearMeasures_L24 (N : Nat) : Nat → Nat → Int32 → Int32 → IH → Option (IH)
  | 0, _, _, _, _ => none
  | n + 1, th, x1, x2, h => if 16 ≤ x2 then some h else (gR h 6 0 (some th)).bind fun v7 => (aR h 6 v7 x1).bind fun v8 => (sI h v8 x2 0).bind fun h9 => s_X6_clearMeasures_L24 N n th x1 (x2 + 1) h9
def s_X6_clearMeasures_L2 (N : Nat) : Nat → Nat → Int32 → IH → Option (IH)
  | 0, _, _, _ => none
  | n + 1, th, x1, h => if 16 ≤ x1 then some h else (gR h 6 6 (some th)).bind fun v2 => (sZ h v2 x1 0).bind fun h3 => (gR h3 6 7 (some th)).bind fun v4 => (sZ h3 v4 x1 0).bind fun h5 => (s_X6_clearMeasures_L24 N N th x1 0 h5).bind fun q10 => s_X6_clearMeasures_L2 N n th (x1 + 1) q10
def s_X6_clearMeasures (N : Nat) (h : IH) (th : Nat) : Option (IH) := (s_X6_clearMeasures_L2 N N th 0 h).bind fun q11 => some q11
set_option maxHeartbeats 4000000 in
set_option maxRecDepth 100000 in
theorem w_X6_clearMeasures_L24 {p : Program} {l : Launch} {e : Env} {s : State} {m : MethodId} {args : Array Value} {below : List Frame} {meth : Method} {c : Code} {D : va_G} {cy : Nat → ClassId} {A : Nat → Prop} {H0 : Heap} {N th : Nat} {x1 : Int32} {qF : IH} (F : Fx p s m args meth c D cy A H0 yX6_clearMeasures cX6_clearMeasures 3 none) : ∀ (n : Nat) (x2 : Int32) (h : IH) (ls : Array Slot) (H : Heap) (locs : List Loc) (q : IH), s_X6_clearMeasures_L24 N n th x1 x2 h = some q → lv_has ls 3 [(0, .ref th), (1, .int x1), (2, .int x2)] → Mo D cy A H0 h H locs → (∀ (t : IH) (ls : Array Slot) (H : Heap) (locs : List Loc), q = t → lv_has ls 3 [(0, .ref th), (1, .int x1)] → Mo D cy A H0 t H locs → W p l e rm_X6_clearMeasures s m args below meth c H locs 0 0 (MQ below (QR D cy qF A none) args s 0 0 A) (F0 m 45 ls [])) → (∀ v : IH, False → v = qF) → W p l e rm_X6_clearMeasures s m args below meth c H locs 0 0 (MQ below (QR D cy qF A none) args s 0 0 A) (F0 m 24 ls []) := by
  intro n
  induction n with
  | zero => intro x2 h ls H locs q hs; rw [s_X6_clearMeasures_L24.eq_1] at hs; cases hs
  | succ n ih =>
    intro x2 h ls H locs q hs hl M kx kr
    obtain ⟨hx, hb, hr, hml, hown, hlk, hts, hK, hN, hA, hH⟩ := id F
    rw [s_X6_clearMeasures_L24.eq_2] at hs
    refine lv_iload_n hx hb dX6_clearMeasures_24 rfl (lv_at hl 2 rfl) ?_
    refine lv_bipush (v := 16) hx hb dX6_clearMeasures_25 (by decide) ?_
    refine lv_icmp_ge (tgt := 45) hx hb dX6_clearMeasures_27 (by decide) (fun c6 => ?_) (fun c6 => ?_)
    · rw [if_pos c6] at hs
      exact kx h _ _ _ (Option.some.inj hs).symm (lv_sub hl [0, 1] rfl) M
    · rw [if_neg c6] at hs
      refine lv_aload_n hx hb dX6_clearMeasures_30 rfl (lv_at hl 0 rfl) ?_
      obtain ⟨v7, g_v7, hs⟩ := bd hs
      refine ro_gR F M fg_6_0 t_247 g_v7 dX6_clearMeasures_31 ?_
      refine lv_iload_n hx hb dX6_clearMeasures_34 rfl (lv_at hl 1 rfl) ?_
      obtain ⟨v8, g_v8, hs⟩ := bd hs
      refine ro_aG F M g_v8 dX6_clearMeasures_35 ?_
      refine lv_iload_n hx hb dX6_clearMeasures_36 rfl (lv_at hl 2 rfl) ?_
      refine lv_iconst (v := 0) hx hb dX6_clearMeasures_37 (by decide) ?_
      obtain ⟨h9, g_h9, hs⟩ := bd hs
      refine ro_sI F M g_h9 dX6_clearMeasures_38 (fun H locs M => ?_)
      refine lv_iinc (v := x2 + 1) (lv' := [(2, .int (x2 + 1)), (0, .ref th), (1, .int x1)]) hx hb dX6_clearMeasures_39 hl (k := 2) rfl rfl (by decide) rfl (fun ls hl => ?_)
      refine lv_goto (tgt := 24) hx hb dX6_clearMeasures_42 (by decide) ?_
      exact ih (x2 + 1) h9 _ _ _ _ hs (lv_sub hl [1, 2, 0] rfl) M kx kr
set_option maxHeartbeats 4000000 in
set_option maxRecDepth 100000 in
theorem w_X6_clearMeasures_L2 {p : Program} {l : Launch} {e : Env} {s : State} {m : MethodId} {args : Array Value} {below : List Frame} {meth : Method} {c : Code} {D : va_G} {cy : Nat → ClassId} {A : Nat → Prop} {H0 : Heap} {N th : Nat} {qF : IH} (F : Fx p s m args meth c D cy A H0 yX6_clearMeasures cX6_clearMeasures 3 none) : ∀ (n : Nat) (x1 : Int32) (h : IH) (ls : Array Slot) (H : Heap) (locs : List Loc) (q : IH), s_X6_clearMeasures_L2 N n th x1 h = some q → lv_has ls 3 [(0, .ref th), (1, .int x1)] → Mo D cy A H0 h H locs → (∀ (t : IH) (ls : Array Slot) (H : Heap) (locs : List Loc), q = t → lv_has ls 3 [] → Mo D cy A H0 t H locs → W p l e rm_X6_clearMeasures s m args below meth c H locs 0 0 (MQ below (QR D cy qF A none) args s 0 0 A) (F0 m 51 ls [])) → (∀ v : IH, False → v = qF) → W p l e rm_X6_clearMeasures s m args below meth c H locs 0 0 (MQ below (QR D cy qF A none) args s 0 0 A) (F0 m 2 ls []) := by
  intro n
  induction n with
  | zero => intro x1 h ls H locs q hs; rw [s_X6_clearMeasures_L2.eq_1] at hs; cases hs
  | succ n ih =>
    intro x1 h ls H locs q hs hl M kx kr
    obtain ⟨hx, hb, hr, hml, hown, hlk, hts, hK, hN, hA, hH⟩ := id F
    rw [s_X6_clearMeasures_L2.eq_2] at hs
    refine lv_iload_n hx hb dX6_clearMeasures_2 rfl (lv_at hl 1 rfl) ?_
    refine lv_bipush (v := 16) hx hb dX6_clearMeasures_3 (by decide) ?_
    refine lv_icmp_ge (tgt := 51) hx hb dX6_clearMeasures_5 (by decide) (fun c1 => ?_) (fun c1 => ?_)
    · rw [if_pos c1] at hs
      exact kx h _ _ _ (Option.some.inj hs).symm (lv_sub hl [] rfl) M
    · rw [if_neg c1] at hs
      refine lv_aload_n hx hb dX6_clearMeasures_8 rfl (lv_at hl 0 rfl) ?_
      obtain ⟨v2, g_v2, hs⟩ := bd hs
      refine ro_gR F M fg_6_6 t_253 g_v2 dX6_clearMeasures_9 ?_
      refine lv_iload_n hx hb dX6_clearMeasures_12 rfl (lv_at hl 1 rfl) ?_
      refine lv_iconst (v := 0) hx hb dX6_clearMeasures_13 (by decide) ?_
      obtain ⟨h3, g_h3, hs⟩ := bd hs
      refine ro_sZ F M g_h3 dX6_clearMeasures_14 (fun H locs M => ?_)
      refine lv_aload_n hx hb dX6_clearMeasures_15 rfl (lv_at hl 0 rfl) ?_
      obtain ⟨v4, g_v4, hs⟩ := bd hs
      refine ro_gR F M fg_6_7 t_254 g_v4 dX6_clearMeasures_16 ?_
      refine lv_iload_n hx hb dX6_clearMeasures_19 rfl (lv_at hl 1 rfl) ?_
      refine lv_iconst (v := 0) hx hb dX6_clearMeasures_20 (by decide) ?_
      obtain ⟨h5, g_h5, hs⟩ := bd hs
      refine ro_sZ F M g_h5 dX6_clearMeasures_21 (fun H locs M => ?_)
      refine lv_iconst (v := 0) hx hb dX6_clearMeasures_22 (by decide) ?_
      refine lv_istore_n (i := 2) (lv' := [(2, .int 0), (0, .ref th), (1, .int x1)]) hx hb dX6_clearMeasures_23 rfl hl (by decide) rfl (fun ls hl => ?_)
      obtain ⟨q10, g_q10, hs⟩ := bd hs
      refine w_X6_clearMeasures_L24 F N 0 h5 _ _ _ q10 g_q10 (lv_sub hl [1, 2, 0] rfl) M (fun t_ ls H locs eq_ hl M => ?_) (fun v eq_ => eq_.elim)
      subst eq_
      refine lv_iinc (v := x1 + 1) (lv' := [(1, .int (x1 + 1)), (0, .ref th)]) hx hb dX6_clearMeasures_45 hl (k := 1) rfl rfl (by decide) rfl (fun ls hl => ?_)
      refine lv_goto (tgt := 2) hx hb dX6_clearMeasures_48 (by decide) ?_
      exact ih (x1 + 1) q10 _ _ _ _ hs (lv_sub hl [1, 0] rfl) M kx kr
set_option maxHeartbeats 4000000 in
set_option maxRecDepth 100000 in
theorem c_X6_clearMeasures {l : Launch} {D : va_G} {cy : Nat → ClassId} {sz N : Nat} {h : IH} {th : Nat} {qF : IH} (hs : s_X6_clearMeasures N h th = some qF) : Ct l D cy yX6_clearMeasures cX6_clearMeasures 3 none rm_X6_clearMeasures h sz [.ref th] qF none := by
  refine ct_start (by decide +kernel) [(0, .ref th)] (Nat.le_of_ble_eq_true rfl) rfl ?_
  intro p e s m args below meth c A H0 ls F hin hsz M hl
  obtain ⟨hx, hb, hr, hml, hown, hlk, hts, hK, hN, hA, hH⟩ := id F
  generalize s.heap = H at M ⊢
  generalize ([] : List Loc) = locs at M ⊢
  unfold s_X6_clearMeasures at hs
  refine lv_iconst (v := 0) hx hb dX6_clearMeasures_0 (by decide) ?_
  refine lv_istore_n (i := 1) (lv' := [(1, .int 0), (0, .ref th)]) hx hb dX6_clearMeasures_1 rfl hl (by decide) rfl (fun ls hl => ?_)
  obtain ⟨q11, g_q11, hs⟩ := bd hs
  refine w_X6_clearMeasures_L2 F N 0 h _ _ _ q11 g_q11 (lv_sub hl [1, 0] rfl) M (fun t_ ls H locs eq_ hl M => ?_) (fun v eq_ => eq_.elim)
  subst eq_
  obtain rfl := Option.some.inj hs
  exact re_v F M dX6_clearMeasures_51
abbrev rm_X9_putRight : Room := { frames := 0, cells := 0, slots := 0, locals := 0 }
theorem mf_X9_putRight : MV 9 yX9_putRight cX9_putRight 2 (some .long) 1 RX9 := ⟨t_802, t_801, tS_51, t_13, ⟨by decide +kernel, by decide +kernel, by decide +kernel⟩, rfl, by decide⟩
def s_X9_putRight (h : IH) (th : Nat) (a0 : Option Nat) : Option (Int64) := (gL h 2 1 a0).bind fun v1 => (gL h 9 8 (some th)).bind fun v2 => some (v1 + v2)
set_option maxHeartbeats 4000000 in
set_option maxRecDepth 100000 in
theorem c_X9_putRight {l : Launch} {D : va_G} {cy : Nat → ClassId} {sz : Nat} {h : IH} {th : Nat} {a0 : Option Nat} {qF : Int64} (hs : s_X9_putRight h th a0 = some qF) : Ct l D cy yX9_putRight cX9_putRight 2 (some .long) rm_X9_putRight h sz [.ref th, va_rf a0] h (some (.long qF)) := by
  refine ct_start (by decide +kernel) [(0, .ref th), (1, va_rf a0)] (by simp [lg_sl, cat_rf, cat_i, cat_j, cat_r]) (by simp [lv_args, cat_rf, cat_i, cat_j, cat_r]) ?_
  intro p e s m args below meth c A H0 ls F hin hsz M hl
  obtain ⟨hx, hb, hr, hml, hown, hlk, hts, hK, hN, hA, hH⟩ := id F
  generalize s.heap = H at M ⊢
  generalize ([] : List Loc) = locs at M ⊢
  unfold s_X9_putRight at hs
  refine lo_aload_n hx hb dX9_putRight_0 rfl (lv_at hl 1 rfl) ?_
  obtain ⟨v1, g_v1, hs⟩ := bd hs
  refine ro_gLN F M fg_2_1 tN_96 g_v1 dX9_putRight_1 ?_
  refine lv_aload_n hx hb dX9_putRight_4 rfl (lv_at hl 0 rfl) ?_
  obtain ⟨v2, g_v2, hs⟩ := bd hs
  refine ro_gL F M fg_9_8 t_438 g_v2 dX9_putRight_5 ?_
  refine lv_ladd hx hb dX9_putRight_8 ?_
  obtain rfl := Option.some.inj hs
  exact re_l F M dX9_putRight_9
abbrev rm_X6_measure : Room := { frames := 1, cells := 0, slots := 0, locals := 21 }
theorem mf_X6_measure : MV 6 yX6_measure cX6_measure 13 none 4 RX6 := ⟨t_797, t_796, tS_50, t_9, ⟨by decide +kernel, by decide +kernel, by decide +kernel⟩, rfl, by decide⟩
def s_X6_measure_L53 (N : Nat) : Nat → Nat → Option Nat → Option Nat → Int32 → Option Nat → Option Nat → Int32 → Option Nat → Int32 → IH → Option (IH)
  | 0, _, _, _, _, _, _, _, _, _, _ => none
  | n + 1, th, x1, x2, x4, x5, x6, x7, x8, x9, h => (gI h 6 5 (some th)).bind fun v10 => if v10 ≤ x9 then some h else if x8 = none then some h else (gR h 6 3 (some th)).bind fun v13 => (aI h v13 x9).bind fun v14 => (cV h 4 x6 fun a34 => s_X4_contactAt h a34 v14).bind fun v15 => ((if v15 = none then some h else (cV h 2 x8 fun a32 => s_X2_answersTo h a32 v15).bind fun v17 => if v17 = 0 then some h else (cV h 9 x1 fun a31 => s_X9_putRight h a31 x8).bind fun v19 => (cV h 9 x2 fun a30 => s_X9_putRight h a30 v15).bind fun v20 => (s_J9_abs_067f4 h (v19 - v20)).bind fun v21 => if 0 < (lg_cmp v21 x4.toInt64) then some h else (gR h 6 0 (some th)).bind fun v23 => (gR h 6 2 (some th)).bind fun v24 => (aI h v24 x7).bind fun v25 => (aR h 6 v23 v25).bind fun v26 => (gR h 6 3 (some th)).bind fun v27 => (aI h v27 x9).bind fun v28 => (sI h v26 v28 (100000 - v21.toInt32)).bind fun h29 => some h29) : Option (IH)).bind fun q33 => s_X6_measure_L53 N n th x1 x2 x4 x5 x6 x7 x8 (x9 + 1) q33
def s_X6_measure_L17 (N : Nat) : Nat → Nat → Option Nat → Option Nat → Int32 → Option Nat → Option Nat → Int32 → IH → Option (IH)
  | 0, _, _, _, _, _, _, _, _ => none
  | n + 1, th, x1, x2, x4, x5, x6, x7, h => (gI h 6 4 (some th)).bind fun v3 => if v3 ≤ x7 then some h else if x5 = none then some h else if x6 = none then some h else (gR h 6 2 (some th)).bind fun v7 => (aI h v7 x7).bind fun v8 => (cV h 4 x5 fun a36 => s_X4_contactAt h a36 v8).bind fun v9 => (s_X6_measure_L53 N N th x1 x2 x4 x5 x6 x7 v9 0 h).bind fun q35 => s_X6_measure_L17 N n th x1 x2 x4 x5 x6 (x7 + 1) q35
def s_X6_measure (N : Nat) (h : IH) (th : Nat) (a0 : Option Nat) (a1 : Option Nat) (a2 : Int32) (a3 : Int32) : Option (IH) := (cV h 9 a0 fun a39 => s_X9_logOf h a39 a2).bind fun v1 => (cV h 9 a1 fun a38 => s_X9_logOf h a38 a2).bind fun v2 => (s_X6_measure_L17 N N th a0 a1 a3 v1 v2 0 h).bind fun q37 => some q37
set_option maxHeartbeats 4000000 in
set_option maxRecDepth 100000 in
theorem w_X6_measure_L53 {p : Program} {l : Launch} {e : Env} {s : State} {m : MethodId} {args : Array Value} {below : List Frame} {meth : Method} {c : Code} {D : va_G} {cy : Nat → ClassId} {A : Nat → Prop} {H0 : Heap} {N th : Nat} {x1 : Option Nat} {x2 : Option Nat} {x4 : Int32} {x5 : Option Nat} {x6 : Option Nat} {x7 : Int32} {x8 : Option Nat} {qF : IH} (F : Fx p s m args meth c D cy A H0 yX6_measure cX6_measure 13 none) : ∀ (n : Nat) (x9 : Int32) (h : IH) (ls : Array Slot) (H : Heap) (locs : List Loc) (q : IH), s_X6_measure_L53 N n th x1 x2 x4 x5 x6 x7 x8 x9 h = some q → lv_has ls 13 [(0, .ref th), (1, va_rf x1), (2, va_rf x2), (4, .int x4), (5, va_rf x5), (6, va_rf x6), (7, .int x7), (8, va_rf x8), (9, .int x9)] → Mo D cy A H0 h H locs → (∀ (t : IH) (ls : Array Slot) (H : Heap) (locs : List Loc), q = t → lv_has ls 13 [(0, .ref th), (1, va_rf x1), (2, va_rf x2), (4, .int x4), (5, va_rf x5), (6, va_rf x6), (7, .int x7)] → Mo D cy A H0 t H locs → W p l e rm_X6_measure s m args below meth c H locs 0 0 (MQ below (QR D cy qF A none) args s 0 0 A) (F0 m 158 ls [])) → (∀ v : IH, False → v = qF) → W p l e rm_X6_measure s m args below meth c H locs 0 0 (MQ below (QR D cy qF A none) args s 0 0 A) (F0 m 53 ls []) := by
  intro n
  induction n with
  | zero => intro x9 h ls H locs q hs; rw [s_X6_measure_L53.eq_1] at hs; cases hs
  | succ n ih =>
    intro x9 h ls H locs q hs hl M kx kr
    obtain ⟨hx, hb, hr, hml, hown, hlk, hts, hK, hN, hA, hH⟩ := id F
    rw [s_X6_measure_L53.eq_2] at hs
    refine lv_iload hx hb dX6_measure_53 (lv_at hl 8 rfl) ?_
    refine lv_aload_n hx hb dX6_measure_55 rfl (lv_at hl 0 rfl) ?_
    obtain ⟨v10, g_v10, hs⟩ := bd hs
    refine ro_gI F M fg_6_5 t_252 g_v10 dX6_measure_56 ?_
    refine lv_icmp_ge (tgt := 158) hx hb dX6_measure_59 (by decide) (fun c11 => ?_) (fun c11 => ?_)
    · rw [if_pos c11] at hs
      exact kx h _ _ _ (Option.some.inj hs).symm (lv_sub hl [0, 1, 2, 3, 4, 5, 6] rfl) M
    · rw [if_neg c11] at hs
      refine lo_aload hx hb dX6_measure_62 (lv_at hl 7 rfl) ?_
      refine lo_ifnull (tgt := 158) hx hb dX6_measure_64 (by decide) (fun c12 => ?_) (fun c12 => ?_)
      · rw [if_pos c12] at hs
        exact kx h _ _ _ (Option.some.inj hs).symm (lv_sub hl [0, 1, 2, 3, 4, 5, 6] rfl) M
      · rw [if_neg c12] at hs
        refine lo_aload hx hb dX6_measure_67 (lv_at hl 5 rfl) ?_
        refine lv_aload_n hx hb dX6_measure_69 rfl (lv_at hl 0 rfl) ?_
        obtain ⟨v13, g_v13, hs⟩ := bd hs
        refine ro_gR F M fg_6_3 t_250 g_v13 dX6_measure_70 ?_
        refine lv_iload hx hb dX6_measure_73 (lv_at hl 8 rfl) ?_
        obtain ⟨v14, g_v14, hs⟩ := bd hs
        refine ro_aI F M g_v14 dX6_measure_75 ?_
        obtain ⟨v15, g_v15, hs⟩ := bd hs
        obtain ⟨a34, e_a34, k_a34, g_v15⟩ := cV_some g_v15
        refine ca_VNa (bq := a34) (As := [.int v14]) (rest := []) F M (c_X4_contactAt g_v15) mf_X4_contactAt tN_779 k_a34 rfl ⟨by decide, by decide⟩ ⟨rfl, rfl⟩ ⟨Nat.zero_le _, Nat.zero_le _⟩ hl.1 (by rw [e_a34]; rfl) (by decide) dX6_measure_76 (fun H locs M => ?_)
        refine lo_astore (i := 10) (lv' := [(10, va_rf v15), (0, .ref th), (1, va_rf x1), (2, va_rf x2), (4, .int x4), (5, va_rf x5), (6, va_rf x6), (7, .int x7), (8, va_rf x8), (9, .int x9)]) hx hb dX6_measure_79 hl (by decide) rfl (fun ls hl => ?_)
        refine lo_aload hx hb dX6_measure_81 (lv_at hl 0 rfl) ?_
        obtain ⟨q33, hsq33, hs⟩ := bd hs
        have KJ152 : ∀ (ls : Array Slot) (H : Heap) (locs : List Loc), lv_has ls 13 [(0, .ref th), (1, va_rf x1), (2, va_rf x2), (4, .int x4), (5, va_rf x5), (6, va_rf x6), (7, .int x7), (8, va_rf x8), (9, .int x9)] → Mo D cy A H0 q33 H locs → W p l e rm_X6_measure s m args below meth c H locs 0 0 (MQ below (QR D cy qF A none) args s 0 0 A) (F0 m 152 ls []) := by
          intro ls H locs hl M
          refine lv_iinc (v := x9 + 1) (lv' := [(9, .int (x9 + 1)), (0, .ref th), (1, va_rf x1), (2, va_rf x2), (4, .int x4), (5, va_rf x5), (6, va_rf x6), (7, .int x7), (8, va_rf x8)]) hx hb dX6_measure_152 hl (k := 8) rfl rfl (by decide) (by simp [cat_rf, cat_i, cat_j, cat_r]) (fun ls hl => ?_)
          refine lv_goto (tgt := 53) hx hb dX6_measure_155 (by decide) ?_
          exact ih (x9 + 1) q33 _ _ _ _ hs (lv_sub hl [1, 2, 3, 4, 5, 6, 7, 8, 0] rfl) M kx kr
        clear hs
        have hs := hsq33
        refine lo_ifnull (tgt := 152) hx hb dX6_measure_83 (by decide) (fun c16 => ?_) (fun c16 => ?_)
        · rw [if_pos c16] at hs
          obtain rfl := Option.some.inj hs
          exact KJ152 _ _ _ (lv_sub hl [1, 2, 3, 4, 5, 6, 7, 8, 9] rfl) M
        · rw [if_neg c16] at hs
          refine lo_aload hx hb dX6_measure_86 (lv_at hl 8 rfl) ?_
          refine lo_aload hx hb dX6_measure_88 (lv_at hl 0 rfl) ?_
          obtain ⟨v17, g_v17, hs⟩ := bd hs
          obtain ⟨a32, e_a32, k_a32, g_v17⟩ := cV_some g_v17
          refine ca_VNi (bq := a32) (As := [va_rf v15]) (rest := []) F M (c_X2_answersTo g_v17) mf_X2_answersTo tN_798 k_a32 rfl ⟨by decide, by decide⟩ ⟨rfl, rfl⟩ ⟨Nat.zero_le _, Nat.zero_le _⟩ hl.1 (by rw [e_a32]; rfl) (by decide) dX6_measure_90 (fun H locs M => ?_)
          refine lv_if_ne (tgt := 99) hx hb dX6_measure_93 (by decide) (fun c18 => ?_) (fun c18 => ?_)
          · rw [if_neg c18] at hs
            refine lo_aload_n hx hb dX6_measure_99 rfl (lv_at hl 2 rfl) ?_
            refine lo_aload hx hb dX6_measure_100 (lv_at hl 8 rfl) ?_
            obtain ⟨v19, g_v19, hs⟩ := bd hs
            obtain ⟨a31, e_a31, k_a31, g_v19⟩ := cV_some g_v19
            refine ca_VNl (bq := a31) (As := [va_rf x8]) (rest := []) F M (c_X9_putRight g_v19) mf_X9_putRight tN_799 k_a31 rfl ⟨by decide, by decide⟩ ⟨rfl, rfl⟩ ⟨Nat.zero_le _, Nat.zero_le _⟩ hl.1 (by rw [e_a31]; rfl) (by decide) dX6_measure_102 (fun H locs M => ?_)
            refine lo_aload_n hx hb dX6_measure_105 rfl (lv_at hl 3 rfl) ?_
            refine lo_aload hx hb dX6_measure_106 (lv_at hl 0 rfl) ?_
            obtain ⟨v20, g_v20, hs⟩ := bd hs
            obtain ⟨a30, e_a30, k_a30, g_v20⟩ := cV_some g_v20
            refine ca_VNl (bq := a30) (As := [va_rf v15]) (rest := [.long v19]) F M (c_X9_putRight g_v20) mf_X9_putRight tN_799 k_a30 rfl ⟨by decide, by decide⟩ ⟨rfl, rfl⟩ ⟨Nat.zero_le _, Nat.zero_le _⟩ hl.1 (by rw [e_a30]; rfl) (by simp [cat_rf, cat_i, cat_j, cat_r]) dX6_measure_108 (fun H locs M => ?_)
            refine lv_lsub hx hb dX6_measure_111 ?_
            obtain ⟨v21, g_v21, hs⟩ := bd hs
            refine ca_Sl (As := [.long (v19 - v20)]) (rest := []) F M (c_J9_abs_067f4 g_v21) mf_J9_abs_067f4 t_803 rfl ⟨by decide, by decide⟩ ⟨rfl, rfl⟩ ⟨Nat.zero_le _, Nat.zero_le _⟩ hl.1 rfl (by decide) dX6_measure_112 (fun H locs M => ?_)
            refine lv_lstore (i := 11) (lv' := [(11, .long v21), (10, va_rf v15), (0, .ref th), (1, va_rf x1), (2, va_rf x2), (4, .int x4), (5, va_rf x5), (6, va_rf x6), (7, .int x7), (8, va_rf x8), (9, .int x9)]) hx hb dX6_measure_115 hl (by decide) (by simp [cat_rf, cat_i, cat_j, cat_r]) (fun ls hl => ?_)
            refine lv_lload hx hb dX6_measure_117 (lv_at hl 0 rfl) ?_
            refine lv_iload hx hb dX6_measure_119 (lv_at hl 5 rfl) ?_
            refine lv_i2l hx hb dX6_measure_121 rfl ?_
            refine W.lcmp hx hb dX6_measure_122 ?_
            refine lv_if_gt (tgt := 152) hx hb dX6_measure_123 (by decide) (fun c22 => ?_) (fun c22 => ?_)
            · rw [if_pos c22] at hs
              obtain rfl := Option.some.inj hs
              exact KJ152 _ _ _ (lv_sub hl [2, 3, 4, 5, 6, 7, 8, 9, 10] rfl) M
            · rw [if_neg c22] at hs
              refine lv_aload_n hx hb dX6_measure_126 rfl (lv_at hl 2 rfl) ?_
              obtain ⟨v23, g_v23, hs⟩ := bd hs
              refine ro_gR F M fg_6_0 t_247 g_v23 dX6_measure_127 ?_
              refine lv_aload_n hx hb dX6_measure_130 rfl (lv_at hl 2 rfl) ?_
              obtain ⟨v24, g_v24, hs⟩ := bd hs
              refine ro_gR F M fg_6_2 t_249 g_v24 dX6_measure_131 ?_
              refine lv_iload hx hb dX6_measure_134 (lv_at hl 8 rfl) ?_
              obtain ⟨v25, g_v25, hs⟩ := bd hs
              refine ro_aI F M g_v25 dX6_measure_136 ?_
              obtain ⟨v26, g_v26, hs⟩ := bd hs
              refine ro_aG F M g_v26 dX6_measure_137 ?_
              refine lv_aload_n hx hb dX6_measure_138 rfl (lv_at hl 2 rfl) ?_
              obtain ⟨v27, g_v27, hs⟩ := bd hs
              refine ro_gR F M fg_6_3 t_250 g_v27 dX6_measure_139 ?_
              refine lv_iload hx hb dX6_measure_142 (lv_at hl 10 rfl) ?_
              obtain ⟨v28, g_v28, hs⟩ := bd hs
              refine ro_aI F M g_v28 dX6_measure_144 ?_
              refine lv_ldc (v := 100000) hx hb hown (hts _ (List.mem_cons_of_mem _ t_804)) dX6_measure_145 ?_
              refine lv_lload hx hb dX6_measure_147 (lv_at hl 0 rfl) ?_
              refine lv_l2i hx hb dX6_measure_149 rfl ?_
              refine lv_isub hx hb dX6_measure_150 ?_
              obtain ⟨h29, g_h29, hs⟩ := bd hs
              refine ro_sI F M g_h29 dX6_measure_151 (fun H locs M => ?_)
              obtain rfl := Option.some.inj hs
              exact KJ152 _ _ _ (lv_sub hl [2, 3, 4, 5, 6, 7, 8, 9, 10] rfl) M
          · rw [if_pos c18] at hs
            refine lv_goto (tgt := 152) hx hb dX6_measure_96 (by decide) ?_
            obtain rfl := Option.some.inj hs
            exact KJ152 _ _ _ (lv_sub hl [1, 2, 3, 4, 5, 6, 7, 8, 9] rfl) M
set_option maxHeartbeats 4000000 in
set_option maxRecDepth 100000 in
theorem w_X6_measure_L17 {p : Program} {l : Launch} {e : Env} {s : State} {m : MethodId} {args : Array Value} {below : List Frame} {meth : Method} {c : Code} {D : va_G} {cy : Nat → ClassId} {A : Nat → Prop} {H0 : Heap} {N th : Nat} {x1 : Option Nat} {x2 : Option Nat} {x4 : Int32} {x5 : Option Nat} {x6 : Option Nat} {qF : IH} (F : Fx p s m args meth c D cy A H0 yX6_measure cX6_measure 13 none) : ∀ (n : Nat) (x7 : Int32) (h : IH) (ls : Array Slot) (H : Heap) (locs : List Loc) (q : IH), s_X6_measure_L17 N n th x1 x2 x4 x5 x6 x7 h = some q → lv_has ls 13 [(0, .ref th), (1, va_rf x1), (2, va_rf x2), (4, .int x4), (5, va_rf x5), (6, va_rf x6), (7, .int x7)] → Mo D cy A H0 h H locs → (∀ (t : IH) (ls : Array Slot) (H : Heap) (locs : List Loc), q = t → lv_has ls 13 [] → Mo D cy A H0 t H locs → W p l e rm_X6_measure s m args below meth c H locs 0 0 (MQ below (QR D cy qF A none) args s 0 0 A) (F0 m 164 ls [])) → (∀ v : IH, False → v = qF) → W p l e rm_X6_measure s m args below meth c H locs 0 0 (MQ below (QR D cy qF A none) args s 0 0 A) (F0 m 17 ls []) := by
  intro n
  induction n with
  | zero => intro x7 h ls H locs q hs; rw [s_X6_measure_L17.eq_1] at hs; cases hs
  | succ n ih =>
    intro x7 h ls H locs q hs hl M kx kr
    obtain ⟨hx, hb, hr, hml, hown, hlk, hts, hK, hN, hA, hH⟩ := id F
    rw [s_X6_measure_L17.eq_2] at hs
    refine lv_iload hx hb dX6_measure_17 (lv_at hl 6 rfl) ?_
    refine lv_aload_n hx hb dX6_measure_19 rfl (lv_at hl 0 rfl) ?_
    obtain ⟨v3, g_v3, hs⟩ := bd hs
    refine ro_gI F M fg_6_4 t_251 g_v3 dX6_measure_20 ?_
    refine lv_icmp_ge (tgt := 164) hx hb dX6_measure_23 (by decide) (fun c4 => ?_) (fun c4 => ?_)
    · rw [if_pos c4] at hs
      exact kx h _ _ _ (Option.some.inj hs).symm (lv_sub hl [] rfl) M
    · rw [if_neg c4] at hs
      refine lo_aload hx hb dX6_measure_26 (lv_at hl 4 rfl) ?_
      refine lo_ifnull (tgt := 164) hx hb dX6_measure_28 (by decide) (fun c5 => ?_) (fun c5 => ?_)
      · rw [if_pos c5] at hs
        exact kx h _ _ _ (Option.some.inj hs).symm (lv_sub hl [] rfl) M
      · rw [if_neg c5] at hs
        refine lo_aload hx hb dX6_measure_31 (lv_at hl 5 rfl) ?_
        refine lo_ifnull (tgt := 164) hx hb dX6_measure_33 (by decide) (fun c6 => ?_) (fun c6 => ?_)
        · rw [if_pos c6] at hs
          exact kx h _ _ _ (Option.some.inj hs).symm (lv_sub hl [] rfl) M
        · rw [if_neg c6] at hs
          refine lo_aload hx hb dX6_measure_36 (lv_at hl 4 rfl) ?_
          refine lv_aload_n hx hb dX6_measure_38 rfl (lv_at hl 0 rfl) ?_
          obtain ⟨v7, g_v7, hs⟩ := bd hs
          refine ro_gR F M fg_6_2 t_249 g_v7 dX6_measure_39 ?_
          refine lv_iload hx hb dX6_measure_42 (lv_at hl 6 rfl) ?_
          obtain ⟨v8, g_v8, hs⟩ := bd hs
          refine ro_aI F M g_v8 dX6_measure_44 ?_
          obtain ⟨v9, g_v9, hs⟩ := bd hs
          obtain ⟨a36, e_a36, k_a36, g_v9⟩ := cV_some g_v9
          refine ca_VNa (bq := a36) (As := [.int v8]) (rest := []) F M (c_X4_contactAt g_v9) mf_X4_contactAt tN_779 k_a36 rfl ⟨by decide, by decide⟩ ⟨rfl, rfl⟩ ⟨Nat.zero_le _, Nat.zero_le _⟩ hl.1 (by rw [e_a36]; rfl) (by decide) dX6_measure_45 (fun H locs M => ?_)
          refine lo_astore (i := 8) (lv' := [(8, va_rf v9), (0, .ref th), (1, va_rf x1), (2, va_rf x2), (4, .int x4), (5, va_rf x5), (6, va_rf x6), (7, .int x7)]) hx hb dX6_measure_48 hl (by decide) rfl (fun ls hl => ?_)
          refine lv_iconst (v := 0) hx hb dX6_measure_50 (by decide) ?_
          refine lv_istore (i := 9) (lv' := [(9, .int 0), (8, va_rf v9), (0, .ref th), (1, va_rf x1), (2, va_rf x2), (4, .int x4), (5, va_rf x5), (6, va_rf x6), (7, .int x7)]) hx hb dX6_measure_51 hl (by decide) (by simp [cat_rf, cat_i, cat_j, cat_r]) (fun ls hl => ?_)
          obtain ⟨q35, g_q35, hs⟩ := bd hs
          refine w_X6_measure_L53 F N 0 h _ _ _ q35 g_q35 (lv_sub hl [2, 3, 4, 5, 6, 7, 8, 1, 0] rfl) M (fun t_ ls H locs eq_ hl M => ?_) (fun v eq_ => eq_.elim)
          subst eq_
          refine lv_iinc (v := x7 + 1) (lv' := [(7, .int (x7 + 1)), (0, .ref th), (1, va_rf x1), (2, va_rf x2), (4, .int x4), (5, va_rf x5), (6, va_rf x6)]) hx hb dX6_measure_158 hl (k := 6) rfl rfl (by decide) (by simp [cat_rf, cat_i, cat_j, cat_r]) (fun ls hl => ?_)
          refine lv_goto (tgt := 17) hx hb dX6_measure_161 (by decide) ?_
          exact ih (x7 + 1) q35 _ _ _ _ hs (lv_sub hl [1, 2, 3, 4, 5, 6, 0] rfl) M kx kr
set_option maxHeartbeats 4000000 in
set_option maxRecDepth 100000 in
theorem c_X6_measure {l : Launch} {D : va_G} {cy : Nat → ClassId} {sz N : Nat} {h : IH} {th : Nat} {a0 : Option Nat} {a1 : Option Nat} {a2 : Int32} {a3 : Int32} {qF : IH} (hs : s_X6_measure N h th a0 a1 a2 a3 = some qF) : Ct l D cy yX6_measure cX6_measure 13 none rm_X6_measure h sz [.ref th, va_rf a0, va_rf a1, .int a2, .int a3] qF none := by
  refine ct_start (by decide +kernel) [(0, .ref th), (1, va_rf a0), (2, va_rf a1), (3, .int a2), (4, .int a3)] (by simp [lg_sl, cat_rf, cat_i, cat_j, cat_r]) (by simp [lv_args, cat_rf, cat_i, cat_j, cat_r]) ?_
  intro p e s m args below meth c A H0 ls F hin hsz M hl
  obtain ⟨hx, hb, hr, hml, hown, hlk, hts, hK, hN, hA, hH⟩ := id F
  generalize s.heap = H at M ⊢
  generalize ([] : List Loc) = locs at M ⊢
  unfold s_X6_measure at hs
  refine lo_aload_n hx hb dX6_measure_0 rfl (lv_at hl 1 rfl) ?_
  refine lv_iload_n hx hb dX6_measure_1 rfl (lv_at hl 3 rfl) ?_
  obtain ⟨v1, g_v1, hs⟩ := bd hs
  obtain ⟨a39, e_a39, k_a39, g_v1⟩ := cV_some g_v1
  refine ca_VNa (bq := a39) (As := [.int a2]) (rest := []) F M (c_X9_logOf g_v1) mf_X9_logOf tN_775 k_a39 rfl ⟨by decide, by decide⟩ ⟨rfl, rfl⟩ ⟨Nat.zero_le _, Nat.zero_le _⟩ hl.1 (by rw [e_a39]; rfl) (by decide) dX6_measure_2 (fun H locs M => ?_)
  refine lo_astore (i := 5) (lv' := [(5, va_rf v1), (0, .ref th), (1, va_rf a0), (2, va_rf a1), (3, .int a2), (4, .int a3)]) hx hb dX6_measure_5 hl (by decide) rfl (fun ls hl => ?_)
  refine lo_aload_n hx hb dX6_measure_7 rfl (lv_at hl 3 rfl) ?_
  refine lv_iload_n hx hb dX6_measure_8 rfl (lv_at hl 4 rfl) ?_
  obtain ⟨v2, g_v2, hs⟩ := bd hs
  obtain ⟨a38, e_a38, k_a38, g_v2⟩ := cV_some g_v2
  refine ca_VNa (bq := a38) (As := [.int a2]) (rest := []) F M (c_X9_logOf g_v2) mf_X9_logOf tN_775 k_a38 rfl ⟨by decide, by decide⟩ ⟨rfl, rfl⟩ ⟨Nat.zero_le _, Nat.zero_le _⟩ hl.1 (by rw [e_a38]; rfl) (by decide) dX6_measure_9 (fun H locs M => ?_)
  refine lo_astore (i := 6) (lv' := [(6, va_rf v2), (5, va_rf v1), (0, .ref th), (1, va_rf a0), (2, va_rf a1), (3, .int a2), (4, .int a3)]) hx hb dX6_measure_12 hl (by decide) (by simp [cat_rf, cat_i, cat_j, cat_r]) (fun ls hl => ?_)
  refine lv_iconst (v := 0) hx hb dX6_measure_14 (by decide) ?_
  refine lv_istore (i := 7) (lv' := [(7, .int 0), (6, va_rf v2), (5, va_rf v1), (0, .ref th), (1, va_rf a0), (2, va_rf a1), (3, .int a2), (4, .int a3)]) hx hb dX6_measure_15 hl (by decide) (by simp [cat_rf, cat_i, cat_j, cat_r]) (fun ls hl => ?_)
  obtain ⟨q37, g_q37, hs⟩ := bd hs
  refine w_X6_measure_L17 F N 0 h _ _ _ q37 g_q37 (lv_sub hl [3, 4, 5, 7, 2, 1, 0] rfl) M (fun t_ ls H locs eq_ hl M => ?_) (fun v eq_ => eq_.elim)
  subst eq_
  obtain rfl := Option.some.inj hs
  exact re_v F M dX6_measure_164
abbrev rm_J9_max_7cf53 : Room := { frames := 0, cells := 0, slots := 0, locals := 0 }
theorem mf_J9_max_7cf53 : MS yJ9_max_7cf53 cJ9_max_7cf53 2 (some .int) 2 := ⟨t_811, t_810, t_18, ⟨by decide +kernel, by decide +kernel, by decide +kernel⟩⟩
def s_J9_max_7cf53 (h : IH) (a0 : Int32) (a1 : Int32) : Option (Int32) := ((if a0 < a1 then some a1 else some a0) : Option (Int32)).bind fun q2 => some q2
set_option maxHeartbeats 4000000 in
set_option maxRecDepth 100000 in
theorem c_J9_max_7cf53 {l : Launch} {D : va_G} {cy : Nat → ClassId} {sz : Nat} {h : IH} {a0 : Int32} {a1 : Int32} {qF : Int32} (hs : s_J9_max_7cf53 h a0 a1 = some qF) : Ct l D cy yJ9_max_7cf53 cJ9_max_7cf53 2 (some .int) rm_J9_max_7cf53 h sz [.int a0, .int a1] h (some (.int qF)) := by
  refine ct_startF (by decide +kernel) [(0, .int a0), (1, .int a1)] (Nat.le_of_ble_eq_true rfl) rfl ?_
  intro p e s m args below meth c A H0 ls F hin hsz M hl
  obtain ⟨hx, hb, hr, hml, hown, hlk, hts, hK, hN, hA, hH⟩ := id F
  generalize s.heap = H at M ⊢
  generalize ([] : List Loc) = locs at M ⊢
  unfold s_J9_max_7cf53 at hs
  refine lv_iload_n hx hb dJ9_max_7cf53_0 rfl (lv_at hl 0 rfl) ?_
  refine lv_iload_n hx hb dJ9_max_7cf53_1 rfl (lv_at hl 1 rfl) ?_
  obtain ⟨q2, hsq2, hs⟩ := bd hs
  have KJ10 : ∀ (ls : Array Slot) (H : Heap) (locs : List Loc), lv_has ls 2 [] → Mo D cy A H0 h H locs → W p l e rm_J9_max_7cf53 s m args below meth c H locs 0 0 (MQ below (QR D cy h A (some (.int qF))) args s 0 0 A) (F0 m 10 ls [.int q2]) := by
    intro ls H locs hl M
    obtain rfl := Option.some.inj hs
    exact re_i F M dJ9_max_7cf53_10
  clear hs
  have hs := hsq2
  refine lv_icmp_lt (tgt := 9) hx hb dJ9_max_7cf53_2 (by decide) (fun c1 => ?_) (fun c1 => ?_)
  · rw [if_pos c1] at hs
    refine lv_iload_n hx hb dJ9_max_7cf53_9 rfl (lv_at hl 1 rfl) ?_
    obtain rfl := Option.some.inj hs
    exact KJ10 _ _ _ (lv_sub hl [] rfl) M
  · rw [if_neg c1] at hs
    refine lv_iload_n hx hb dJ9_max_7cf53_5 rfl (lv_at hl 0 rfl) ?_
    refine lv_goto (tgt := 10) hx hb dJ9_max_7cf53_6 (by decide) ?_
    obtain rfl := Option.some.inj hs
    exact KJ10 _ _ _ (lv_sub hl [] rfl) M
