abbrev rm_X12_worked (d : Nat) : Room := { frames := d + 1, cells := 0, slots := 0, locals := 25 * d + 25 }
theorem mf_X12_worked : MV 12 yX12_worked cX12_worked 6 (some .int) 1 RX12 := ⟨t_1490, t_1489, tS_116, t_12, ⟨by decide +kernel, by decide +kernel, by decide +kernel⟩, rfl, by decide⟩
def s_X12_worked (N : Nat) : Nat → IH → Nat → Int32 → Option (Int32 × IH)
  | 0, _, _, _ => none
  | d + 1, h, th, a0 => (gI h 12 56 (some th)).bind fun v1 => (gI h 12 56 (some th)).bind fun v2 => (pI h 12 56 (some th) (v2 + 1)).bind fun h3 => (gR h3 12 24 (some th)).bind fun v4 => (aI h3 v4 v1).bind fun v5 => if v5 = 0 then (gI h3 12 55 (some th)).bind fun v17 => some (v17, h3) else if v5 = 1 then (gR h3 12 2 (some th)).bind fun v18 => (gI h3 12 54 (some th)).bind fun v19 => (aI h3 v18 v19).bind fun v20 => some (v20, h3) else if v5 = 2 then (gR h3 12 3 (some th)).bind fun v21 => (gI h3 12 54 (some th)).bind fun v22 => (aI h3 v21 v22).bind fun v23 => some (v23, h3) else if v5 = 3 then (gR h3 12 3 (some th)).bind fun v24 => (gI h3 12 53 (some th)).bind fun v25 => (aI h3 v24 v25).bind fun v26 => some (v26, h3) else if v5 = 4 then ((if a0 = 0 then some 0 else (cV h3 12 (some th) fun a29 => s_X12_distance N h3 a29 ).bind fun v28 => some v28) : Option (Int32)).bind fun q30 => some (q30, h3) else if v5 = 9 then (cV h3 12 (some th) fun a46 => s_X12_worked N d h3 a46 a0).bind fun v31 => ((if v31.1 ≤ 0 then some 0 else some 1) : Option (Int32)).bind fun q33 => ((if a0 = 0 then some 0 else if q33 = 0 then some 0 else some 1) : Option (Int32)).bind fun q36 => (cV v31.2 12 (some th) fun a45 => s_X12_worked N d v31.2 a45 q36).bind fun v37 => ((if a0 = 0 then some 0 else if q33 = 0 then some 1 else some 0) : Option (Int32)).bind fun q40 => (cV v37.2 12 (some th) fun a44 => s_X12_worked N d v37.2 a44 q40).bind fun v41 => ((if q33 = 0 then some v41.1 else some v37.1) : Option (Int32)).bind fun q43 => some (q43, v41.2) else if v5 = 10 then (gR h3 12 25 (some th)).bind fun v47 => (aI h3 v47 v1).bind fun v48 => some (v48, h3) else (cV h3 12 (some th) fun a83 => s_X12_worked N d h3 a83 a0).bind fun v49 => (cV v49.2 12 (some th) fun a82 => s_X12_worked N d v49.2 a82 a0).bind fun v50 => (gR v50.2 12 24 (some th)).bind fun v51 => (aI v50.2 v51 v1).bind fun v52 => if v52 = 8 then if v50.1 = 0 then (gI v50.2 12 52 (some th)).bind fun v55 => ((if v55 = 0 then if a0 = 0 then some 0 else some 1 else some 1) : Option (Int32)).bind fun q58 => (pZ v50.2 12 52 (some th) q58).bind fun h59 => some (0, h59) else (gR v50.2 12 24 (some th)).bind fun v60 => (aI v50.2 v60 v1).bind fun v61 => ((if v61 = 5 then some (v49.1 + v50.1) else (gR v50.2 12 24 (some th)).bind fun v63 => (aI v50.2 v63 v1).bind fun v64 => if v64 = 6 then some (v49.1 - v50.1) else (gR v50.2 12 24 (some th)).bind fun v66 => (aI v50.2 v66 v1).bind fun v67 => if v67 = 7 then some (v49.1 * v50.1) else if v50.1 = 0 then none else some (v49.1 / v50.1)) : Option (Int32)).bind fun q70 => some (q70, v50.2) else (gR v50.2 12 24 (some th)).bind fun v71 => (aI v50.2 v71 v1).bind fun v72 => ((if v72 = 5 then some (v49.1 + v50.1) else (gR v50.2 12 24 (some th)).bind fun v74 => (aI v50.2 v74 v1).bind fun v75 => if v75 = 6 then some (v49.1 - v50.1) else (gR v50.2 12 24 (some th)).bind fun v77 => (aI v50.2 v77 v1).bind fun v78 => if v78 = 7 then some (v49.1 * v50.1) else if v50.1 = 0 then none else some (v49.1 / v50.1)) : Option (Int32)).bind fun q81 => some (q81, v50.2)
set_option maxHeartbeats 4000000 in
set_option maxRecDepth 100000 in
theorem c_X12_worked {l : Launch} {D : va_G} {cy : Nat → ClassId} {N : Nat} : ∀ (d : Nat) {sz : Nat} {h : IH} {th : Nat} {a0 : Int32} {qF : Int32 × IH}, s_X12_worked N d h th a0 = some qF → Ct l D cy yX12_worked cX12_worked 6 (some .int) (rm_X12_worked d) h sz [.ref th, .int a0] qF.2 (some (.int qF.1)) := by
  intro d
  induction d with
  | zero => intro sz h th a0 qF hs; rw [s_X12_worked.eq_1] at hs; cases hs
  | succ d ih =>
    intro sz h th a0 qF hs
    refine ct_start (by decide +kernel) [(0, .ref th), (1, .int a0)] (Nat.le_of_ble_eq_true rfl) rfl ?_
    intro p e s m args below meth c A H0 ls F hin hsz M hl
    obtain ⟨hx, hb, hr, hml, hown, hlk, hts, hK, hN, hA, hH⟩ := id F
    generalize s.heap = H at M ⊢
    generalize ([] : List Loc) = locs at M ⊢
    rw [s_X12_worked.eq_2] at hs
    refine lv_aload_n hx hb dX12_worked_0 rfl (lv_at hl 0 rfl) ?_
    obtain ⟨v1, g_v1, hs⟩ := bd hs
    refine ro_gI F M fg_12_56 t_1062 g_v1 dX12_worked_1 ?_
    refine lv_istore_n (i := 2) (lv' := [(2, .int v1), (0, .ref th), (1, .int a0)]) hx hb dX12_worked_4 rfl hl (by decide) rfl (fun ls hl => ?_)
    refine lv_aload_n hx hb dX12_worked_5 rfl (lv_at hl 1 rfl) ?_
    refine lv_dup hx hb dX12_worked_6 rfl ?_
    obtain ⟨v2, g_v2, hs⟩ := bd hs
    refine ro_gI F M fg_12_56 t_1062 g_v2 dX12_worked_7 ?_
    refine lv_iconst (v := 1) hx hb dX12_worked_10 (by decide) ?_
    refine lv_iadd hx hb dX12_worked_11 ?_
    obtain ⟨h3, g_h3, hs⟩ := bd hs
    refine ro_pI F M fg_12_56 fp_12_56 rfl t_1062 g_h3 dX12_worked_12 (fun H locs M => ?_)
    refine lv_aload_n hx hb dX12_worked_15 rfl (lv_at hl 1 rfl) ?_
    obtain ⟨v4, g_v4, hs⟩ := bd hs
    refine ro_gR F M fg_12_24 t_1030 g_v4 dX12_worked_16 ?_
    refine lv_iload_n hx hb dX12_worked_19 rfl (lv_at hl 0 rfl) ?_
    obtain ⟨v5, g_v5, hs⟩ := bd hs
    refine ro_aI F M g_v5 dX12_worked_20 ?_
    by_cases c6 : v5 = 0
    · rw [if_pos c6] at hs
      refine lv_tableIn (tgt := 87) hx hb dX12_worked_21 (by rw [c6]; decide) (by rw [c6]; decide) (by rw [c6]; rfl) (by decide) ?_
      refine lv_aload_n hx hb dX12_worked_87 rfl (lv_at hl 1 rfl) ?_
      obtain ⟨v17, g_v17, hs⟩ := bd hs
      refine ro_gI F M fg_12_55 t_1061 g_v17 dX12_worked_88 ?_
      obtain rfl := Option.some.inj hs
      exact re_i F M dX12_worked_91
    rw [if_neg c6] at hs
    by_cases c7 : v5 = 1
    · rw [if_pos c7] at hs
      refine lv_tableIn (tgt := 92) hx hb dX12_worked_21 (by rw [c7]; decide) (by rw [c7]; decide) (by rw [c7]; rfl) (by decide) ?_
      refine lv_aload_n hx hb dX12_worked_92 rfl (lv_at hl 1 rfl) ?_
      obtain ⟨v18, g_v18, hs⟩ := bd hs
      refine ro_gR F M fg_12_2 t_1008 g_v18 dX12_worked_93 ?_
      refine lv_aload_n hx hb dX12_worked_96 rfl (lv_at hl 1 rfl) ?_
      obtain ⟨v19, g_v19, hs⟩ := bd hs
      refine ro_gI F M fg_12_54 t_1060 g_v19 dX12_worked_97 ?_
      obtain ⟨v20, g_v20, hs⟩ := bd hs
      refine ro_aI F M g_v20 dX12_worked_100 ?_
      obtain rfl := Option.some.inj hs
      exact re_i F M dX12_worked_101
    rw [if_neg c7] at hs
    by_cases c8 : v5 = 2
    · rw [if_pos c8] at hs
      refine lv_tableIn (tgt := 102) hx hb dX12_worked_21 (by rw [c8]; decide) (by rw [c8]; decide) (by rw [c8]; rfl) (by decide) ?_
      refine lv_aload_n hx hb dX12_worked_102 rfl (lv_at hl 1 rfl) ?_
      obtain ⟨v21, g_v21, hs⟩ := bd hs
      refine ro_gR F M fg_12_3 t_1009 g_v21 dX12_worked_103 ?_
      refine lv_aload_n hx hb dX12_worked_106 rfl (lv_at hl 1 rfl) ?_
      obtain ⟨v22, g_v22, hs⟩ := bd hs
      refine ro_gI F M fg_12_54 t_1060 g_v22 dX12_worked_107 ?_
      obtain ⟨v23, g_v23, hs⟩ := bd hs
      refine ro_aI F M g_v23 dX12_worked_110 ?_
      obtain rfl := Option.some.inj hs
      exact re_i F M dX12_worked_111
    rw [if_neg c8] at hs
    by_cases c9 : v5 = 3
    · rw [if_pos c9] at hs
      refine lv_tableIn (tgt := 112) hx hb dX12_worked_21 (by rw [c9]; decide) (by rw [c9]; decide) (by rw [c9]; rfl) (by decide) ?_
      refine lv_aload_n hx hb dX12_worked_112 rfl (lv_at hl 1 rfl) ?_
      obtain ⟨v24, g_v24, hs⟩ := bd hs
      refine ro_gR F M fg_12_3 t_1009 g_v24 dX12_worked_113 ?_
      refine lv_aload_n hx hb dX12_worked_116 rfl (lv_at hl 1 rfl) ?_
      obtain ⟨v25, g_v25, hs⟩ := bd hs
      refine ro_gI F M fg_12_53 t_1059 g_v25 dX12_worked_117 ?_
      obtain ⟨v26, g_v26, hs⟩ := bd hs
      refine ro_aI F M g_v26 dX12_worked_120 ?_
      obtain rfl := Option.some.inj hs
      exact re_i F M dX12_worked_121
    rw [if_neg c9] at hs
    by_cases c10 : v5 = 4
    · rw [if_pos c10] at hs
      refine lv_tableIn (tgt := 122) hx hb dX12_worked_21 (by rw [c10]; decide) (by rw [c10]; decide) (by rw [c10]; rfl) (by decide) ?_
      refine lv_iload_n hx hb dX12_worked_122 rfl (lv_at hl 2 rfl) ?_
      obtain ⟨q30, hsq30, hs⟩ := bd hs
      have KJ134 : ∀ (ls : Array Slot) (H : Heap) (locs : List Loc), lv_has ls 6 [] → Mo D cy A H0 h3 H locs → W p l e (rm_X12_worked (d + 1)) s m args below meth c H locs 0 0 (MQ below (QR D cy qF.2 A (some (.int qF.1))) args s 0 0 A) (F0 m 134 ls [.int q30]) := by
        intro ls H locs hl M
        obtain rfl := Option.some.inj hs
        exact re_i F M dX12_worked_134
      clear hs
      have hs := hsq30
      refine lv_if_eq (tgt := 133) hx hb dX12_worked_123 (by decide) (fun c27 => ?_) (fun c27 => ?_)
      · rw [if_pos c27] at hs
        refine lv_iconst (v := 0) hx hb dX12_worked_133 (by decide) ?_
        obtain rfl := Option.some.inj hs
        exact KJ134 _ _ _ (lv_sub hl [] rfl) M
      · rw [if_neg c27] at hs
        refine lv_aload_n hx hb dX12_worked_126 rfl (lv_at hl 1 rfl) ?_
        obtain ⟨v28, g_v28, hs⟩ := bd hs
        obtain ⟨a29, e_a29, k_a29, g_v28⟩ := cV_some g_v28
        obtain rfl := Option.some.inj e_a29
        refine ca_Vi (bq := th) (As := []) (rest := []) F M (c_X12_distance g_v28) mf_X12_distance t_1491 k_a29 rfl ⟨by dsimp only [rm_X12_worked, rm_X12_distance]; omega, by dsimp only [rm_X12_worked, rm_X12_distance]; omega⟩ ⟨rfl, rfl⟩ ⟨Nat.zero_le _, Nat.zero_le _⟩ hl.1 rfl (by decide) dX12_worked_127 (fun H locs M => ?_)
        refine lv_goto (tgt := 134) hx hb dX12_worked_130 (by decide) ?_
        obtain rfl := Option.some.inj hs
        exact KJ134 _ _ _ (lv_sub hl [] rfl) M
    rw [if_neg c10] at hs
    by_cases c11 : v5 = 9
    · rw [if_pos c11] at hs
      refine lv_tableIn (tgt := 135) hx hb dX12_worked_21 (by rw [c11]; decide) (by rw [c11]; decide) (by rw [c11]; rfl) (by decide) ?_
      refine lv_aload_n hx hb dX12_worked_135 rfl (lv_at hl 1 rfl) ?_
      refine lv_iload_n hx hb dX12_worked_136 rfl (lv_at hl 2 rfl) ?_
      obtain ⟨v31, g_v31, hs⟩ := bd hs
      obtain ⟨a46, e_a46, k_a46, g_v31⟩ := cV_some g_v31
      obtain rfl := Option.some.inj e_a46
      refine ca_Vi (bq := th) (As := [.int a0]) (rest := []) F M (ih g_v31) mf_X12_worked t_1487 k_a46 rfl ⟨by dsimp only [rm_X12_worked, rm_X12_worked]; omega, by dsimp only [rm_X12_worked, rm_X12_worked]; omega⟩ ⟨rfl, rfl⟩ ⟨Nat.zero_le _, Nat.zero_le _⟩ hl.1 rfl (by decide) dX12_worked_137 (fun H locs M => ?_)
      obtain ⟨q33, hsq33, hs⟩ := bd hs
      have KJ148 : ∀ (ls : Array Slot) (H : Heap) (locs : List Loc), lv_has ls 6 [(0, .ref th), (1, .int a0)] → Mo D cy A H0 v31.2 H locs → W p l e (rm_X12_worked (d + 1)) s m args below meth c H locs 0 0 (MQ below (QR D cy qF.2 A (some (.int qF.1))) args s 0 0 A) (F0 m 148 ls [.int q33]) := by
        intro ls H locs hl M
        refine lv_istore_n (i := 3) (lv' := [(3, .int q33), (0, .ref th), (1, .int a0)]) hx hb dX12_worked_148 rfl hl (by decide) rfl (fun ls hl => ?_)
        refine lv_aload_n hx hb dX12_worked_149 rfl (lv_at hl 1 rfl) ?_
        refine lv_iload_n hx hb dX12_worked_150 rfl (lv_at hl 2 rfl) ?_
        obtain ⟨q36, hsq36, hs⟩ := bd hs
        have KJ163 : ∀ (ls : Array Slot) (H : Heap) (locs : List Loc), lv_has ls 6 [(0, .ref th), (1, .int a0), (3, .int q33)] → Mo D cy A H0 v31.2 H locs → W p l e (rm_X12_worked (d + 1)) s m args below meth c H locs 0 0 (MQ below (QR D cy qF.2 A (some (.int qF.1))) args s 0 0 A) (F0 m 163 ls [.int q36, .ref th]) := by
          intro ls H locs hl M
          obtain ⟨v37, g_v37, hs⟩ := bd hs
          obtain ⟨a45, e_a45, k_a45, g_v37⟩ := cV_some g_v37
          obtain rfl := Option.some.inj e_a45
          refine ca_Vi (bq := th) (As := [.int q36]) (rest := []) F M (ih g_v37) mf_X12_worked t_1487 k_a45 rfl ⟨by dsimp only [rm_X12_worked, rm_X12_worked]; omega, by dsimp only [rm_X12_worked, rm_X12_worked]; omega⟩ ⟨rfl, rfl⟩ ⟨Nat.zero_le _, Nat.zero_le _⟩ hl.1 rfl (by decide) dX12_worked_163 (fun H locs M => ?_)
          refine lv_istore (i := 4) (lv' := [(4, .int v37.1), (0, .ref th), (1, .int a0), (3, .int q33)]) hx hb dX12_worked_166 hl (by decide) rfl (fun ls hl => ?_)
          refine lv_aload_n hx hb dX12_worked_168 rfl (lv_at hl 1 rfl) ?_
          refine lv_iload_n hx hb dX12_worked_169 rfl (lv_at hl 2 rfl) ?_
          obtain ⟨q40, hsq40, hs⟩ := bd hs
          have KJ182 : ∀ (ls : Array Slot) (H : Heap) (locs : List Loc), lv_has ls 6 [(3, .int q33), (4, .int v37.1)] → Mo D cy A H0 v37.2 H locs → W p l e (rm_X12_worked (d + 1)) s m args below meth c H locs 0 0 (MQ below (QR D cy qF.2 A (some (.int qF.1))) args s 0 0 A) (F0 m 182 ls [.int q40, .ref th]) := by
            intro ls H locs hl M
            obtain ⟨v41, g_v41, hs⟩ := bd hs
            obtain ⟨a44, e_a44, k_a44, g_v41⟩ := cV_some g_v41
            obtain rfl := Option.some.inj e_a44
            refine ca_Vi (bq := th) (As := [.int q40]) (rest := []) F M (ih g_v41) mf_X12_worked t_1487 k_a44 rfl ⟨by dsimp only [rm_X12_worked, rm_X12_worked]; omega, by dsimp only [rm_X12_worked, rm_X12_worked]; omega⟩ ⟨rfl, rfl⟩ ⟨Nat.zero_le _, Nat.zero_le _⟩ hl.1 rfl (by decide) dX12_worked_182 (fun H locs M => ?_)
            refine lv_istore (i := 5) (lv' := [(5, .int v41.1), (3, .int q33), (4, .int v37.1)]) hx hb dX12_worked_185 hl (by decide) rfl (fun ls hl => ?_)
            refine lv_iload_n hx hb dX12_worked_187 rfl (lv_at hl 1 rfl) ?_
            obtain ⟨q43, hsq43, hs⟩ := bd hs
            have KJ198 : ∀ (ls : Array Slot) (H : Heap) (locs : List Loc), lv_has ls 6 [] → Mo D cy A H0 v41.2 H locs → W p l e (rm_X12_worked (d + 1)) s m args below meth c H locs 0 0 (MQ below (QR D cy qF.2 A (some (.int qF.1))) args s 0 0 A) (F0 m 198 ls [.int q43]) := by
              intro ls H locs hl M
              obtain rfl := Option.some.inj hs
              exact re_i F M dX12_worked_198
            clear hs
            have hs := hsq43
            refine lv_if_eq (tgt := 196) hx hb dX12_worked_188 (by decide) (fun c42 => ?_) (fun c42 => ?_)
            · rw [if_pos c42] at hs
              refine lv_iload hx hb dX12_worked_196 (lv_at hl 0 rfl) ?_
              obtain rfl := Option.some.inj hs
              exact KJ198 _ _ _ (lv_sub hl [] rfl) M
            · rw [if_neg c42] at hs
              refine lv_iload hx hb dX12_worked_191 (lv_at hl 2 rfl) ?_
              refine lv_goto (tgt := 198) hx hb dX12_worked_193 (by decide) ?_
              obtain rfl := Option.some.inj hs
              exact KJ198 _ _ _ (lv_sub hl [] rfl) M
          clear hs
          have hs := hsq40
          refine lv_if_eq (tgt := 181) hx hb dX12_worked_170 (by decide) (fun c38 => ?_) (fun c38 => ?_)
          · rw [if_pos c38] at hs
            refine lv_iconst (v := 0) hx hb dX12_worked_181 (by decide) ?_
            obtain rfl := Option.some.inj hs
            exact KJ182 _ _ _ (lv_sub hl [3, 0] rfl) M
          · rw [if_neg c38] at hs
            refine lv_iload_n hx hb dX12_worked_173 rfl (lv_at hl 3 rfl) ?_
            refine lv_if_ne (tgt := 181) hx hb dX12_worked_174 (by decide) (fun c39 => ?_) (fun c39 => ?_)
            · rw [if_neg c39] at hs
              refine lv_iconst (v := 0) hx hb dX12_worked_181 (by decide) ?_
              obtain rfl := Option.some.inj hs
              exact KJ182 _ _ _ (lv_sub hl [3, 0] rfl) M
            · rw [if_pos c39] at hs
              refine lv_iconst (v := 1) hx hb dX12_worked_177 (by decide) ?_
              refine lv_goto (tgt := 182) hx hb dX12_worked_178 (by decide) ?_
              obtain rfl := Option.some.inj hs
              exact KJ182 _ _ _ (lv_sub hl [3, 0] rfl) M
        clear hs
        have hs := hsq36
        refine lv_if_eq (tgt := 162) hx hb dX12_worked_151 (by decide) (fun c34 => ?_) (fun c34 => ?_)
        · rw [if_pos c34] at hs
          refine lv_iconst (v := 0) hx hb dX12_worked_162 (by decide) ?_
          obtain rfl := Option.some.inj hs
          exact KJ163 _ _ _ (lv_sub hl [1, 2, 0] rfl) M
        · rw [if_neg c34] at hs
          refine lv_iload_n hx hb dX12_worked_154 rfl (lv_at hl 0 rfl) ?_
          refine lv_if_eq (tgt := 162) hx hb dX12_worked_155 (by decide) (fun c35 => ?_) (fun c35 => ?_)
          · rw [if_pos c35] at hs
            refine lv_iconst (v := 0) hx hb dX12_worked_162 (by decide) ?_
            obtain rfl := Option.some.inj hs
            exact KJ163 _ _ _ (lv_sub hl [1, 2, 0] rfl) M
          · rw [if_neg c35] at hs
            refine lv_iconst (v := 1) hx hb dX12_worked_158 (by decide) ?_
            refine lv_goto (tgt := 163) hx hb dX12_worked_159 (by decide) ?_
            obtain rfl := Option.some.inj hs
            exact KJ163 _ _ _ (lv_sub hl [1, 2, 0] rfl) M
      clear hs
      have hs := hsq33
      refine lv_if_le (tgt := 147) hx hb dX12_worked_140 (by decide) (fun c32 => ?_) (fun c32 => ?_)
      · rw [if_pos c32] at hs
        refine lv_iconst (v := 0) hx hb dX12_worked_147 (by decide) ?_
        obtain rfl := Option.some.inj hs
        exact KJ148 _ _ _ (lv_sub hl [1, 2] rfl) M
      · rw [if_neg c32] at hs
        refine lv_iconst (v := 1) hx hb dX12_worked_143 (by decide) ?_
        refine lv_goto (tgt := 148) hx hb dX12_worked_144 (by decide) ?_
        obtain rfl := Option.some.inj hs
        exact KJ148 _ _ _ (lv_sub hl [1, 2] rfl) M
    rw [if_neg c11] at hs
    by_cases c12 : v5 = 10
    · rw [if_pos c12] at hs
      refine lv_tableIn (tgt := 80) hx hb dX12_worked_21 (by rw [c12]; decide) (by rw [c12]; decide) (by rw [c12]; rfl) (by decide) ?_
      refine lv_aload_n hx hb dX12_worked_80 rfl (lv_at hl 1 rfl) ?_
      obtain ⟨v47, g_v47, hs⟩ := bd hs
      refine ro_gR F M fg_12_25 t_1031 g_v47 dX12_worked_81 ?_
      refine lv_iload_n hx hb dX12_worked_84 rfl (lv_at hl 0 rfl) ?_
      obtain ⟨v48, g_v48, hs⟩ := bd hs
      refine ro_aI F M g_v48 dX12_worked_85 ?_
      obtain rfl := Option.some.inj hs
      exact re_i F M dX12_worked_86
    rw [if_neg c12] at hs
    have KD : W p l e (rm_X12_worked (d + 1)) s m args below meth c H locs 0 0 (MQ below (QR D cy qF.2 A (some (.int qF.1))) args s 0 0 A) (F0 m 199 ls []) := by
      refine lv_aload_n hx hb dX12_worked_199 rfl (lv_at hl 1 rfl) ?_
      refine lv_iload_n hx hb dX12_worked_200 rfl (lv_at hl 2 rfl) ?_
      obtain ⟨v49, g_v49, hs⟩ := bd hs
      obtain ⟨a83, e_a83, k_a83, g_v49⟩ := cV_some g_v49
      obtain rfl := Option.some.inj e_a83
      refine ca_Vi (bq := th) (As := [.int a0]) (rest := []) F M (ih g_v49) mf_X12_worked t_1487 k_a83 rfl ⟨by dsimp only [rm_X12_worked, rm_X12_worked]; omega, by dsimp only [rm_X12_worked, rm_X12_worked]; omega⟩ ⟨rfl, rfl⟩ ⟨Nat.zero_le _, Nat.zero_le _⟩ hl.1 rfl (by decide) dX12_worked_201 (fun H locs M => ?_)
      refine lv_istore_n (i := 3) (lv' := [(3, .int v49.1), (2, .int v1), (0, .ref th), (1, .int a0)]) hx hb dX12_worked_204 rfl hl (by decide) rfl (fun ls hl => ?_)
      refine lv_aload_n hx hb dX12_worked_205 rfl (lv_at hl 2 rfl) ?_
      refine lv_iload_n hx hb dX12_worked_206 rfl (lv_at hl 3 rfl) ?_
      obtain ⟨v50, g_v50, hs⟩ := bd hs
      obtain ⟨a82, e_a82, k_a82, g_v50⟩ := cV_some g_v50
      obtain rfl := Option.some.inj e_a82
      refine ca_Vi (bq := th) (As := [.int a0]) (rest := []) F M (ih g_v50) mf_X12_worked t_1487 k_a82 rfl ⟨by dsimp only [rm_X12_worked, rm_X12_worked]; omega, by dsimp only [rm_X12_worked, rm_X12_worked]; omega⟩ ⟨rfl, rfl⟩ ⟨Nat.zero_le _, Nat.zero_le _⟩ hl.1 rfl (by decide) dX12_worked_207 (fun H locs M => ?_)
      refine lv_istore (i := 4) (lv' := [(4, .int v50.1), (3, .int v49.1), (2, .int v1), (0, .ref th), (1, .int a0)]) hx hb dX12_worked_210 hl (by decide) rfl (fun ls hl => ?_)
      refine lv_aload_n hx hb dX12_worked_212 rfl (lv_at hl 3 rfl) ?_
      obtain ⟨v51, g_v51, hs⟩ := bd hs
      refine ro_gR F M fg_12_24 t_1030 g_v51 dX12_worked_213 ?_
      refine lv_iload_n hx hb dX12_worked_216 rfl (lv_at hl 2 rfl) ?_
      obtain ⟨v52, g_v52, hs⟩ := bd hs
      refine ro_aI F M g_v52 dX12_worked_217 ?_
      refine lv_bipush (v := 8) hx hb dX12_worked_218 (by decide) ?_
      refine lv_icmp_ne (tgt := 250) hx hb dX12_worked_220 (by decide) (fun c53 => ?_) (fun c53 => ?_)
      · rw [if_neg c53] at hs
        refine lv_aload_n hx hb dX12_worked_250 rfl (lv_at hl 3 rfl) ?_
        obtain ⟨v71, g_v71, hs⟩ := bd hs
        refine ro_gR F M fg_12_24 t_1030 g_v71 dX12_worked_251 ?_
        refine lv_iload_n hx hb dX12_worked_254 rfl (lv_at hl 2 rfl) ?_
        obtain ⟨v72, g_v72, hs⟩ := bd hs
        refine ro_aI F M g_v72 dX12_worked_255 ?_
        refine lv_iconst (v := 5) hx hb dX12_worked_256 (by decide) ?_
        obtain ⟨q81, hsq81, hs⟩ := bd hs
        have KJ307 : ∀ (ls : Array Slot) (H : Heap) (locs : List Loc), lv_has ls 6 [] → Mo D cy A H0 v50.2 H locs → W p l e (rm_X12_worked (d + 1)) s m args below meth c H locs 0 0 (MQ below (QR D cy qF.2 A (some (.int qF.1))) args s 0 0 A) (F0 m 307 ls [.int q81]) := by
          intro ls H locs hl M
          obtain rfl := Option.some.inj hs
          exact re_i F M dX12_worked_307
        clear hs
        have hs := hsq81
        refine lv_icmp_ne (tgt := 267) hx hb dX12_worked_257 (by decide) (fun c73 => ?_) (fun c73 => ?_)
        · rw [if_neg c73] at hs
          refine lv_aload_n hx hb dX12_worked_267 rfl (lv_at hl 3 rfl) ?_
          obtain ⟨v74, g_v74, hs⟩ := bd hs
          refine ro_gR F M fg_12_24 t_1030 g_v74 dX12_worked_268 ?_
          refine lv_iload_n hx hb dX12_worked_271 rfl (lv_at hl 2 rfl) ?_
          obtain ⟨v75, g_v75, hs⟩ := bd hs
          refine ro_aI F M g_v75 dX12_worked_272 ?_
          refine lv_bipush (v := 6) hx hb dX12_worked_273 (by decide) ?_
          refine lv_icmp_ne (tgt := 285) hx hb dX12_worked_275 (by decide) (fun c76 => ?_) (fun c76 => ?_)
          · rw [if_neg c76] at hs
            refine lv_aload_n hx hb dX12_worked_285 rfl (lv_at hl 3 rfl) ?_
            obtain ⟨v77, g_v77, hs⟩ := bd hs
            refine ro_gR F M fg_12_24 t_1030 g_v77 dX12_worked_286 ?_
            refine lv_iload_n hx hb dX12_worked_289 rfl (lv_at hl 2 rfl) ?_
            obtain ⟨v78, g_v78, hs⟩ := bd hs
            refine ro_aI F M g_v78 dX12_worked_290 ?_
            refine lv_bipush (v := 7) hx hb dX12_worked_291 (by decide) ?_
            refine lv_icmp_ne (tgt := 303) hx hb dX12_worked_293 (by decide) (fun c79 => ?_) (fun c79 => ?_)
            · rw [if_neg c79] at hs
              refine lv_iload_n hx hb dX12_worked_303 rfl (lv_at hl 1 rfl) ?_
              refine lv_iload hx hb dX12_worked_304 (lv_at hl 0 rfl) ?_
              by_cases z80 : v50.1 = 0
              · rw [if_pos z80] at hs; cases hs
              rw [if_neg z80] at hs
              refine lv_idiv hx hb dX12_worked_306 z80 ?_
              obtain rfl := Option.some.inj hs
              exact KJ307 _ _ _ (lv_sub hl [] rfl) M
            · rw [if_pos c79] at hs
              refine lv_iload_n hx hb dX12_worked_296 rfl (lv_at hl 1 rfl) ?_
              refine lv_iload hx hb dX12_worked_297 (lv_at hl 0 rfl) ?_
              refine lv_imul hx hb dX12_worked_299 ?_
              refine lv_goto (tgt := 307) hx hb dX12_worked_300 (by decide) ?_
              obtain rfl := Option.some.inj hs
              exact KJ307 _ _ _ (lv_sub hl [] rfl) M
          · rw [if_pos c76] at hs
            refine lv_iload_n hx hb dX12_worked_278 rfl (lv_at hl 1 rfl) ?_
            refine lv_iload hx hb dX12_worked_279 (lv_at hl 0 rfl) ?_
            refine lv_isub hx hb dX12_worked_281 ?_
            refine lv_goto (tgt := 307) hx hb dX12_worked_282 (by decide) ?_
            obtain rfl := Option.some.inj hs
            exact KJ307 _ _ _ (lv_sub hl [] rfl) M
        · rw [if_pos c73] at hs
          refine lv_iload_n hx hb dX12_worked_260 rfl (lv_at hl 1 rfl) ?_
          refine lv_iload hx hb dX12_worked_261 (lv_at hl 0 rfl) ?_
          refine lv_iadd hx hb dX12_worked_263 ?_
          refine lv_goto (tgt := 307) hx hb dX12_worked_264 (by decide) ?_
          obtain rfl := Option.some.inj hs
          exact KJ307 _ _ _ (lv_sub hl [] rfl) M
      · rw [if_pos c53] at hs
        refine lv_iload hx hb dX12_worked_223 (lv_at hl 0 rfl) ?_
        refine lv_if_ne (tgt := 250) hx hb dX12_worked_225 (by decide) (fun c54 => ?_) (fun c54 => ?_)
        · rw [if_neg c54] at hs
          refine lv_aload_n hx hb dX12_worked_250 rfl (lv_at hl 3 rfl) ?_
          obtain ⟨v60, g_v60, hs⟩ := bd hs
          refine ro_gR F M fg_12_24 t_1030 g_v60 dX12_worked_251 ?_
          refine lv_iload_n hx hb dX12_worked_254 rfl (lv_at hl 2 rfl) ?_
          obtain ⟨v61, g_v61, hs⟩ := bd hs
          refine ro_aI F M g_v61 dX12_worked_255 ?_
          refine lv_iconst (v := 5) hx hb dX12_worked_256 (by decide) ?_
          obtain ⟨q70, hsq70, hs⟩ := bd hs
          have KJ307 : ∀ (ls : Array Slot) (H : Heap) (locs : List Loc), lv_has ls 6 [] → Mo D cy A H0 v50.2 H locs → W p l e (rm_X12_worked (d + 1)) s m args below meth c H locs 0 0 (MQ below (QR D cy qF.2 A (some (.int qF.1))) args s 0 0 A) (F0 m 307 ls [.int q70]) := by
            intro ls H locs hl M
            obtain rfl := Option.some.inj hs
            exact re_i F M dX12_worked_307
          clear hs
          have hs := hsq70
          refine lv_icmp_ne (tgt := 267) hx hb dX12_worked_257 (by decide) (fun c62 => ?_) (fun c62 => ?_)
          · rw [if_neg c62] at hs
            refine lv_aload_n hx hb dX12_worked_267 rfl (lv_at hl 3 rfl) ?_
            obtain ⟨v63, g_v63, hs⟩ := bd hs
            refine ro_gR F M fg_12_24 t_1030 g_v63 dX12_worked_268 ?_
            refine lv_iload_n hx hb dX12_worked_271 rfl (lv_at hl 2 rfl) ?_
            obtain ⟨v64, g_v64, hs⟩ := bd hs
            refine ro_aI F M g_v64 dX12_worked_272 ?_
            refine lv_bipush (v := 6) hx hb dX12_worked_273 (by decide) ?_
            refine lv_icmp_ne (tgt := 285) hx hb dX12_worked_275 (by decide) (fun c65 => ?_) (fun c65 => ?_)
            · rw [if_neg c65] at hs
              refine lv_aload_n hx hb dX12_worked_285 rfl (lv_at hl 3 rfl) ?_
              obtain ⟨v66, g_v66, hs⟩ := bd hs
              refine ro_gR F M fg_12_24 t_1030 g_v66 dX12_worked_286 ?_
              refine lv_iload_n hx hb dX12_worked_289 rfl (lv_at hl 2 rfl) ?_
              obtain ⟨v67, g_v67, hs⟩ := bd hs
              refine ro_aI F M g_v67 dX12_worked_290 ?_
              refine lv_bipush (v := 7) hx hb dX12_worked_291 (by decide) ?_
              refine lv_icmp_ne (tgt := 303) hx hb dX12_worked_293 (by decide) (fun c68 => ?_) (fun c68 => ?_)
              · rw [if_neg c68] at hs
                refine lv_iload_n hx hb dX12_worked_303 rfl (lv_at hl 1 rfl) ?_
                refine lv_iload hx hb dX12_worked_304 (lv_at hl 0 rfl) ?_
                by_cases z69 : v50.1 = 0
                · rw [if_pos z69] at hs; cases hs
                rw [if_neg z69] at hs
                refine lv_idiv hx hb dX12_worked_306 z69 ?_
                obtain rfl := Option.some.inj hs
                exact KJ307 _ _ _ (lv_sub hl [] rfl) M
              · rw [if_pos c68] at hs
                refine lv_iload_n hx hb dX12_worked_296 rfl (lv_at hl 1 rfl) ?_
                refine lv_iload hx hb dX12_worked_297 (lv_at hl 0 rfl) ?_
                refine lv_imul hx hb dX12_worked_299 ?_
                refine lv_goto (tgt := 307) hx hb dX12_worked_300 (by decide) ?_
                obtain rfl := Option.some.inj hs
                exact KJ307 _ _ _ (lv_sub hl [] rfl) M
            · rw [if_pos c65] at hs
              refine lv_iload_n hx hb dX12_worked_278 rfl (lv_at hl 1 rfl) ?_
              refine lv_iload hx hb dX12_worked_279 (lv_at hl 0 rfl) ?_
              refine lv_isub hx hb dX12_worked_281 ?_
              refine lv_goto (tgt := 307) hx hb dX12_worked_282 (by decide) ?_
              obtain rfl := Option.some.inj hs
              exact KJ307 _ _ _ (lv_sub hl [] rfl) M
          · rw [if_pos c62] at hs
            refine lv_iload_n hx hb dX12_worked_260 rfl (lv_at hl 1 rfl) ?_
            refine lv_iload hx hb dX12_worked_261 (lv_at hl 0 rfl) ?_
            refine lv_iadd hx hb dX12_worked_263 ?_
            refine lv_goto (tgt := 307) hx hb dX12_worked_264 (by decide) ?_
            obtain rfl := Option.some.inj hs
            exact KJ307 _ _ _ (lv_sub hl [] rfl) M
        · rw [if_pos c54] at hs
          refine lv_aload_n hx hb dX12_worked_228 rfl (lv_at hl 3 rfl) ?_
          refine lv_aload_n hx hb dX12_worked_229 rfl (lv_at hl 3 rfl) ?_
          obtain ⟨v55, g_v55, hs⟩ := bd hs
          refine ro_gI F M fg_12_52 t_1058 g_v55 dX12_worked_230 ?_
          obtain ⟨q58, hsq58, hs⟩ := bd hs
          have KJ245 : ∀ (ls : Array Slot) (H : Heap) (locs : List Loc), lv_has ls 6 [] → Mo D cy A H0 v50.2 H locs → W p l e (rm_X12_worked (d + 1)) s m args below meth c H locs 0 0 (MQ below (QR D cy qF.2 A (some (.int qF.1))) args s 0 0 A) (F0 m 245 ls [.int q58, .ref th]) := by
            intro ls H locs hl M
            obtain ⟨h59, g_h59, hs⟩ := bd hs
            refine ro_pZ F M fg_12_52 fp_12_52 rfl t_1058 g_h59 dX12_worked_245 (fun H locs M => ?_)
            refine lv_iconst (v := 0) hx hb dX12_worked_248 (by decide) ?_
            obtain rfl := Option.some.inj hs
            exact re_i F M dX12_worked_249
          clear hs
          have hs := hsq58
          refine lv_if_ne (tgt := 240) hx hb dX12_worked_233 (by decide) (fun c56 => ?_) (fun c56 => ?_)
          · rw [if_neg c56] at hs
            refine lv_iconst (v := 1) hx hb dX12_worked_240 (by decide) ?_
            refine lv_goto (tgt := 245) hx hb dX12_worked_241 (by decide) ?_
            obtain rfl := Option.some.inj hs
            exact KJ245 _ _ _ (lv_sub hl [] rfl) M
          · rw [if_pos c56] at hs
            refine lv_iload_n hx hb dX12_worked_236 rfl (lv_at hl 4 rfl) ?_
            refine lv_if_eq (tgt := 244) hx hb dX12_worked_237 (by decide) (fun c57 => ?_) (fun c57 => ?_)
            · rw [if_pos c57] at hs
              refine lv_iconst (v := 0) hx hb dX12_worked_244 (by decide) ?_
              obtain rfl := Option.some.inj hs
              exact KJ245 _ _ _ (lv_sub hl [] rfl) M
            · rw [if_neg c57] at hs
              refine lv_iconst (v := 1) hx hb dX12_worked_240 (by decide) ?_
              refine lv_goto (tgt := 245) hx hb dX12_worked_241 (by decide) ?_
              obtain rfl := Option.some.inj hs
              exact KJ245 _ _ _ (lv_sub hl [] rfl) M
    by_cases c13 : v5 = 5
    · exact lv_tableIn (tgt := 199) hx hb dX12_worked_21 (by rw [c13]; decide) (by rw [c13]; decide) (by rw [c13]; rfl) (by decide) KD
    by_cases c14 : v5 = 6
    · exact lv_tableIn (tgt := 199) hx hb dX12_worked_21 (by rw [c14]; decide) (by rw [c14]; decide) (by rw [c14]; rfl) (by decide) KD
    by_cases c15 : v5 = 7
    · exact lv_tableIn (tgt := 199) hx hb dX12_worked_21 (by rw [c15]; decide) (by rw [c15]; decide) (by rw [c15]; rfl) (by decide) KD
    by_cases c16 : v5 = 8
    · exact lv_tableIn (tgt := 199) hx hb dX12_worked_21 (by rw [c16]; decide) (by rw [c16]; decide) (by rw [c16]; rfl) (by decide) KD
    exact lv_tableOut (tgt := 199) hx hb dX12_worked_21 (by have := ne_ti (k := 0) (n := 0) rfl c6; have := ne_ti (k := 1) (n := 1) rfl c7; have := ne_ti (k := 2) (n := 2) rfl c8; have := ne_ti (k := 3) (n := 3) rfl c9; have := ne_ti (k := 4) (n := 4) rfl c10; have := ne_ti (k := 9) (n := 9) rfl c11; have := ne_ti (k := 10) (n := 10) rfl c12; have := ne_ti (k := 5) (n := 5) rfl c13; have := ne_ti (k := 6) (n := 6) rfl c14; have := ne_ti (k := 7) (n := 7) rfl c15; have := ne_ti (k := 8) (n := 8) rfl c16; omega) (by decide) KD
abbrev rm_X12_pointsOf : Room := { frames := 43, cells := 0, slots := 0, locals := 1075 }
theorem mf_X12_pointsOf : MV 12 yX12_pointsOf cX12_pointsOf 2 (some .int) 1 RX12 := ⟨t_1486, t_1485, tS_115, t_12, ⟨by decide +kernel, by decide +kernel, by decide +kernel⟩, rfl, by decide⟩
def s_X12_pointsOf (N : Nat) (h : IH) (th : Nat) (a0 : Int32) : Option (Int32 × IH) := (gR h 12 18 (some th)).bind fun v1 => (aI h v1 a0).bind fun v2 => if 0 ≤ v2 then (pI h 12 53 (some th) (a0 / 48)).bind fun h4 => (gR h4 12 18 (some th)).bind fun v5 => (aI h4 v5 a0).bind fun v6 => (pI h4 12 54 (some th) v6).bind fun h7 => (pI h7 12 55 (some th) ((a0 / 16) - (a0 / 16) / 3 * 3)).bind fun h8 => (pI h8 12 56 (some th) 0).bind fun h9 => (cV h9 12 (some th) fun a11 => s_X12_worked N 40 h9 a11 1).bind fun v10 => some (v10.1, v10.2) else some (0, h)
set_option maxHeartbeats 4000000 in
set_option maxRecDepth 100000 in
theorem c_X12_pointsOf {l : Launch} {D : va_G} {cy : Nat → ClassId} {sz N : Nat} {h : IH} {th : Nat} {a0 : Int32} {qF : Int32 × IH} (hs : s_X12_pointsOf N h th a0 = some qF) : Ct l D cy yX12_pointsOf cX12_pointsOf 2 (some .int) rm_X12_pointsOf h sz [.ref th, .int a0] qF.2 (some (.int qF.1)) := by
  refine ct_start (by decide +kernel) [(0, .ref th), (1, .int a0)] (Nat.le_of_ble_eq_true rfl) rfl ?_
  intro p e s m args below meth c A H0 ls F hin hsz M hl
  obtain ⟨hx, hb, hr, hml, hown, hlk, hts, hK, hN, hA, hH⟩ := id F
  generalize s.heap = H at M ⊢
  generalize ([] : List Loc) = locs at M ⊢
  unfold s_X12_pointsOf at hs
  refine lv_aload_n hx hb dX12_pointsOf_0 rfl (lv_at hl 0 rfl) ?_
  obtain ⟨v1, g_v1, hs⟩ := bd hs
  refine ro_gR F M fg_12_18 t_1024 g_v1 dX12_pointsOf_1 ?_
  refine lv_iload_n hx hb dX12_pointsOf_4 rfl (lv_at hl 1 rfl) ?_
  obtain ⟨v2, g_v2, hs⟩ := bd hs
  refine ro_aI F M g_v2 dX12_pointsOf_5 ?_
  refine lv_if_ge (tgt := 11) hx hb dX12_pointsOf_6 (by decide) (fun c3 => ?_) (fun c3 => ?_)
  · rw [if_pos c3] at hs
    refine lv_aload_n hx hb dX12_pointsOf_11 rfl (lv_at hl 0 rfl) ?_
    refine lv_iload_n hx hb dX12_pointsOf_12 rfl (lv_at hl 1 rfl) ?_
    refine lv_bipush (v := 48) hx hb dX12_pointsOf_13 (by decide) ?_
    refine lv_idiv hx hb dX12_pointsOf_15 (by decide) ?_
    obtain ⟨h4, g_h4, hs⟩ := bd hs
    refine ro_pI F M fg_12_53 fp_12_53 rfl t_1059 g_h4 dX12_pointsOf_16 (fun H locs M => ?_)
    refine lv_aload_n hx hb dX12_pointsOf_19 rfl (lv_at hl 0 rfl) ?_
    refine lv_aload_n hx hb dX12_pointsOf_20 rfl (lv_at hl 0 rfl) ?_
    obtain ⟨v5, g_v5, hs⟩ := bd hs
    refine ro_gR F M fg_12_18 t_1024 g_v5 dX12_pointsOf_21 ?_
    refine lv_iload_n hx hb dX12_pointsOf_24 rfl (lv_at hl 1 rfl) ?_
    obtain ⟨v6, g_v6, hs⟩ := bd hs
    refine ro_aI F M g_v6 dX12_pointsOf_25 ?_
    obtain ⟨h7, g_h7, hs⟩ := bd hs
    refine ro_pI F M fg_12_54 fp_12_54 rfl t_1060 g_h7 dX12_pointsOf_26 (fun H locs M => ?_)
    refine lv_aload_n hx hb dX12_pointsOf_29 rfl (lv_at hl 0 rfl) ?_
    refine lv_iload_n hx hb dX12_pointsOf_30 rfl (lv_at hl 1 rfl) ?_
    refine lv_bipush (v := 16) hx hb dX12_pointsOf_31 (by decide) ?_
    refine lv_idiv hx hb dX12_pointsOf_33 (by decide) ?_
    refine lv_iconst (v := 3) hx hb dX12_pointsOf_34 (by decide) ?_
    refine lv_irem hx hb dX12_pointsOf_35 (by decide) ?_
    obtain ⟨h8, g_h8, hs⟩ := bd hs
    refine ro_pI F M fg_12_55 fp_12_55 rfl t_1061 g_h8 dX12_pointsOf_36 (fun H locs M => ?_)
    refine lv_aload_n hx hb dX12_pointsOf_39 rfl (lv_at hl 0 rfl) ?_
    refine lv_iconst (v := 0) hx hb dX12_pointsOf_40 (by decide) ?_
    obtain ⟨h9, g_h9, hs⟩ := bd hs
    refine ro_pI F M fg_12_56 fp_12_56 rfl t_1062 g_h9 dX12_pointsOf_41 (fun H locs M => ?_)
    refine lv_aload_n hx hb dX12_pointsOf_44 rfl (lv_at hl 0 rfl) ?_
    refine lv_iconst (v := 1) hx hb dX12_pointsOf_45 (by decide) ?_
    obtain ⟨v10, g_v10, hs⟩ := bd hs
    obtain ⟨a11, e_a11, k_a11, g_v10⟩ := cV_some g_v10
    obtain rfl := Option.some.inj e_a11
    refine ca_Vi (bq := th) (As := [.int 1]) (rest := []) F M (c_X12_worked 40 g_v10) mf_X12_worked t_1487 k_a11 rfl ⟨by decide, by decide⟩ ⟨rfl, rfl⟩ ⟨Nat.zero_le _, Nat.zero_le _⟩ hl.1 rfl (by decide) dX12_pointsOf_46 (fun H locs M => ?_)
    obtain rfl := Option.some.inj hs
    exact re_i F M dX12_pointsOf_49
  · rw [if_neg c3] at hs
    refine lv_iconst (v := 0) hx hb dX12_pointsOf_9 (by decide) ?_
    obtain rfl := Option.some.inj hs
    exact re_i F M dX12_pointsOf_10
abbrev rm_X12_points : Room := { frames := 44, cells := 0, slots := 0, locals := 1096 }
theorem mf_X12_points : MV 12 yX12_points cX12_points 6 (some .int) 3 RX12 := ⟨t_1482, t_1480, t_1481, t_12, ⟨by decide +kernel, by decide +kernel, by decide +kernel⟩, rfl, by decide⟩
def s_X12_points (N : Nat) (h : IH) (th : Nat) (a0 : Int32) (a1 : Int32) (a2 : Int32) : Option (Int32 × IH) := (cV h 12 (some th) fun a16 => s_X12_begin N h a16 a0).bind fun v1 => (cV v1 12 (some th) fun a15 => s_X12_reasonOfContact v1 a15 a0 a1 a2).bind fun v2 => if v2 ≤ 0 then (pZ v1 12 52 (some th) 0).bind fun h4 => (s_X12_entryAt h4 a0 a1 a2).bind fun v5 => (cV h4 12 (some th) fun a12 => s_X12_pointsOf N h4 a12 v5).bind fun v6 => (gI v6.2 12 52 (some th)).bind fun v7 => ((if v7 = 0 then some (v6.1, v6.2) else (cV v6.2 12 (some th) fun a10 => s_X12_found v6.2 a10 5).bind fun v9 => some (v9.1, v9.2)) : Option (Int32 × IH)).bind fun q11 => some (q11.1, q11.2) else (cV v1 12 (some th) fun a14 => s_X12_found v1 a14 v2).bind fun v13 => some (v13.1, v13.2)
set_option maxHeartbeats 4000000 in
set_option maxRecDepth 100000 in
theorem c_X12_points {l : Launch} {D : va_G} {cy : Nat → ClassId} {sz N : Nat} {h : IH} {th : Nat} {a0 : Int32} {a1 : Int32} {a2 : Int32} {qF : Int32 × IH} (hs : s_X12_points N h th a0 a1 a2 = some qF) : Ct l D cy yX12_points cX12_points 6 (some .int) rm_X12_points h sz [.ref th, .int a0, .int a1, .int a2] qF.2 (some (.int qF.1)) := by
  refine ct_start (by decide +kernel) [(0, .ref th), (1, .int a0), (2, .int a1), (3, .int a2)] (Nat.le_of_ble_eq_true rfl) rfl ?_
  intro p e s m args below meth c A H0 ls F hin hsz M hl
  obtain ⟨hx, hb, hr, hml, hown, hlk, hts, hK, hN, hA, hH⟩ := id F
  generalize s.heap = H at M ⊢
  generalize ([] : List Loc) = locs at M ⊢
  unfold s_X12_points at hs
  refine lv_aload_n hx hb dX12_points_0 rfl (lv_at hl 0 rfl) ?_
  refine lv_iload_n hx hb dX12_points_1 rfl (lv_at hl 1 rfl) ?_
  obtain ⟨v1, g_v1, hs⟩ := bd hs
  obtain ⟨a16, e_a16, k_a16, g_v1⟩ := cV_some g_v1
  obtain rfl := Option.some.inj e_a16
  refine ca_Vv (bq := th) (As := [.int a0]) (rest := []) F M (c_X12_begin g_v1) mf_X12_begin t_1340 k_a16 rfl ⟨by decide, by decide⟩ ⟨rfl, rfl⟩ ⟨Nat.zero_le _, Nat.zero_le _⟩ hl.1 rfl (by decide) dX12_points_2 (fun H locs M => ?_)
  refine lv_aload_n hx hb dX12_points_5 rfl (lv_at hl 0 rfl) ?_
  refine lv_iload_n hx hb dX12_points_6 rfl (lv_at hl 1 rfl) ?_
  refine lv_iload_n hx hb dX12_points_7 rfl (lv_at hl 2 rfl) ?_
  refine lv_iload_n hx hb dX12_points_8 rfl (lv_at hl 3 rfl) ?_
  obtain ⟨v2, g_v2, hs⟩ := bd hs
  obtain ⟨a15, e_a15, k_a15, g_v2⟩ := cV_some g_v2
  obtain rfl := Option.some.inj e_a15
  refine ca_Vi (bq := th) (As := [.int a0, .int a1, .int a2]) (rest := []) F M (c_X12_reasonOfContact g_v2) mf_X12_reasonOfContact t_1431 k_a15 rfl ⟨by decide, by decide⟩ ⟨rfl, rfl⟩ ⟨Nat.zero_le _, Nat.zero_le _⟩ hl.1 rfl (by decide) dX12_points_9 (fun H locs M => ?_)
  refine lv_istore (i := 4) (lv' := [(4, .int v2), (0, .ref th), (1, .int a0), (2, .int a1), (3, .int a2)]) hx hb dX12_points_12 hl (by decide) rfl (fun ls hl => ?_)
  refine lv_iload hx hb dX12_points_14 (lv_at hl 0 rfl) ?_
  refine lv_if_le (tgt := 26) hx hb dX12_points_16 (by decide) (fun c3 => ?_) (fun c3 => ?_)
  · rw [if_pos c3] at hs
    refine lv_aload_n hx hb dX12_points_26 rfl (lv_at hl 1 rfl) ?_
    refine lv_iconst (v := 0) hx hb dX12_points_27 (by decide) ?_
    obtain ⟨h4, g_h4, hs⟩ := bd hs
    refine ro_pZ F M fg_12_52 fp_12_52 rfl t_1058 g_h4 dX12_points_28 (fun H locs M => ?_)
    refine lv_aload_n hx hb dX12_points_31 rfl (lv_at hl 1 rfl) ?_
    refine lv_iload_n hx hb dX12_points_32 rfl (lv_at hl 2 rfl) ?_
    refine lv_iload_n hx hb dX12_points_33 rfl (lv_at hl 3 rfl) ?_
    refine lv_iload_n hx hb dX12_points_34 rfl (lv_at hl 4 rfl) ?_
    obtain ⟨v5, g_v5, hs⟩ := bd hs
    refine ca_Si (As := [.int a0, .int a1, .int a2]) (rest := [.ref th]) F M (c_X12_entryAt g_v5) mf_X12_entryAt t_1420 rfl ⟨by decide, by decide⟩ ⟨rfl, rfl⟩ ⟨Nat.zero_le _, Nat.zero_le _⟩ hl.1 rfl (by simp [cat_rf, cat_i, cat_j, cat_r]) dX12_points_35 (fun H locs M => ?_)
    obtain ⟨v6, g_v6, hs⟩ := bd hs
    obtain ⟨a12, e_a12, k_a12, g_v6⟩ := cV_some g_v6
    obtain rfl := Option.some.inj e_a12
    refine ca_Vi (bq := th) (As := [.int v5]) (rest := []) F M (c_X12_pointsOf g_v6) mf_X12_pointsOf t_1483 k_a12 rfl ⟨by decide, by decide⟩ ⟨rfl, rfl⟩ ⟨Nat.zero_le _, Nat.zero_le _⟩ hl.1 rfl (by decide) dX12_points_38 (fun H locs M => ?_)
    refine lv_istore (i := 5) (lv' := [(5, .int v6.1), (4, .int v2), (0, .ref th), (1, .int a0), (2, .int a1), (3, .int a2)]) hx hb dX12_points_41 hl (by decide) rfl (fun ls hl => ?_)
    refine lv_aload_n hx hb dX12_points_43 rfl (lv_at hl 2 rfl) ?_
    obtain ⟨v7, g_v7, hs⟩ := bd hs
    refine ro_gI F M fg_12_52 t_1058 g_v7 dX12_points_44 ?_
    obtain ⟨q11, hsq11, hs⟩ := bd hs
    have KJ60 : ∀ (ls : Array Slot) (H : Heap) (locs : List Loc), lv_has ls 6 [] → Mo D cy A H0 q11.2 H locs → W p l e rm_X12_points s m args below meth c H locs 0 0 (MQ below (QR D cy qF.2 A (some (.int qF.1))) args s 0 0 A) (F0 m 60 ls [.int q11.1]) := by
      intro ls H locs hl M
      obtain rfl := Option.some.inj hs
      exact re_i F M dX12_points_60
    clear hs
    have hs := hsq11
    refine lv_if_eq (tgt := 58) hx hb dX12_points_47 (by decide) (fun c8 => ?_) (fun c8 => ?_)
    · rw [if_pos c8] at hs
      refine lv_iload hx hb dX12_points_58 (lv_at hl 0 rfl) ?_
      obtain rfl := Option.some.inj hs
      exact KJ60 _ _ _ (lv_sub hl [] rfl) M
    · rw [if_neg c8] at hs
      refine lv_aload_n hx hb dX12_points_50 rfl (lv_at hl 2 rfl) ?_
      refine lv_iconst (v := 5) hx hb dX12_points_51 (by decide) ?_
      obtain ⟨v9, g_v9, hs⟩ := bd hs
      obtain ⟨a10, e_a10, k_a10, g_v9⟩ := cV_some g_v9
      obtain rfl := Option.some.inj e_a10
      refine ca_Vi (bq := th) (As := [.int 5]) (rest := []) F M (c_X12_found g_v9) mf_X12_found t_1408 k_a10 rfl ⟨by decide, by decide⟩ ⟨rfl, rfl⟩ ⟨Nat.zero_le _, Nat.zero_le _⟩ hl.1 rfl (by decide) dX12_points_52 (fun H locs M => ?_)
      refine lv_goto (tgt := 60) hx hb dX12_points_55 (by decide) ?_
      obtain rfl := Option.some.inj hs
      exact KJ60 _ _ _ (lv_sub hl [] rfl) M
  · rw [if_neg c3] at hs
    refine lv_aload_n hx hb dX12_points_19 rfl (lv_at hl 1 rfl) ?_
    refine lv_iload hx hb dX12_points_20 (lv_at hl 0 rfl) ?_
    obtain ⟨v13, g_v13, hs⟩ := bd hs
    obtain ⟨a14, e_a14, k_a14, g_v13⟩ := cV_some g_v13
    obtain rfl := Option.some.inj e_a14
    refine ca_Vi (bq := th) (As := [.int v2]) (rest := []) F M (c_X12_found g_v13) mf_X12_found t_1408 k_a14 rfl ⟨by decide, by decide⟩ ⟨rfl, rfl⟩ ⟨Nat.zero_le _, Nat.zero_le _⟩ hl.1 rfl (by decide) dX12_points_22 (fun H locs M => ?_)
    obtain rfl := Option.some.inj hs
    exact re_i F M dX12_points_25
abbrev rm_X12_checkedSum : Room := { frames := 44, cells := 0, slots := 0, locals := 1096 }
theorem mf_X12_checkedSum : MV 12 yX12_checkedSum cX12_checkedSum 9 (some .int) 2 RX12 := ⟨t_1510, t_1509, tS_120, t_12, ⟨by decide +kernel, by decide +kernel, by decide +kernel⟩, rfl, by decide⟩
def s_X12_checkedSum_L2 (N : Nat) : Nat → Nat → Int32 → Int32 → Int32 → IH → Option (IH)
  | 0, _, _, _, _, _ => none
  | n + 1, th, x1, x2, x3, h => if 120 ≤ x3 then some h else (gR h 12 69 (some th)).bind fun v2 => (sZ h v2 x3 0).bind fun h3 => s_X12_checkedSum_L2 N n th x1 x2 (x3 + 1) h3
def s_X12_checkedSum_L35 (N : Nat) : Nat → Nat → Int32 → Int32 → Int32 → Int32 → Int32 → Int32 → IH → Option (Int32 × Int32 × Int32 × IH)
  | 0, _, _, _, _, _, _, _, _ => none
  | n + 1, th, x1, x2, x3, x4, x5, x6, h => if ((48 * x1) + 48) ≤ x6 then some (x3, x4, x5, h) else (cV h 12 (some th) fun a27 => s_X12_isContactAt h a27 x6).bind fun v6 => ((if v6 = 0 then some (-1) else (cV h 12 (some th) fun a9 => s_X12_whyOf N h a9 x6).bind fun v8 => some v8) : Option (Int32)).bind fun q10 => ((if q10 = 3 then some 1 else some 0) : Option (Int32)).bind fun q12 => ((if q10 = 0 then (cV h 12 (some th) fun a25 => s_X12_pointsOf N h a25 x6).bind fun v14 => (gR v14.2 12 3 (some th)).bind fun v15 => (gR v14.2 12 18 (some th)).bind fun v16 => (aI v14.2 v16 x6).bind fun v17 => (aI v14.2 v15 v17).bind fun v18 => (gR v14.2 12 69 (some th)).bind fun v19 => (aZ v14.2 v19 ((((x6 / 16) - (x6 / 16) / 3 * 3) * 40) + v18)).bind fun v20 => ((if v20 = 0 then some 1 else some 0) : Option (Int32)).bind fun q22 => (gR v14.2 12 69 (some th)).bind fun v23 => (sZ v14.2 v23 ((((x6 / 16) - (x6 / 16) / 3 * 3) * 40) + v18) 1).bind fun h24 => some (x3 + (x2 * v14.1), x4 + q22, h24) else some (x3, x4, h)) : Option (Int32 × Int32 × IH)).bind fun q26 => s_X12_checkedSum_L35 N n th x1 x2 q26.1 q26.2.1 (x5 + q12) (x6 + 1) q26.2.2
def s_X12_checkedSum (N : Nat) (h : IH) (th : Nat) (a0 : Int32) (a1 : Int32) : Option (Int32 × IH) := (s_X12_checkedSum_L2 N N th a0 a1 0 h).bind fun q4 => (s_X12_checkedSum_L35 N N th a0 a1 0 0 0 (48 * a0) q4).bind fun q28 => (gI q28.2.2.2 12 22 (some th)).bind fun v29 => some ((q28.1 * q28.2.1) - (v29 * q28.2.2.1), q28.2.2.2)
set_option maxHeartbeats 4000000 in
set_option maxRecDepth 100000 in
theorem w_X12_checkedSum_L2 {p : Program} {l : Launch} {e : Env} {s : State} {m : MethodId} {args : Array Value} {below : List Frame} {meth : Method} {c : Code} {D : va_G} {cy : Nat → ClassId} {A : Nat → Prop} {H0 : Heap} {N th : Nat} {x1 : Int32} {x2 : Int32} {qF : Int32 × IH} (F : Fx p s m args meth c D cy A H0 yX12_checkedSum cX12_checkedSum 9 (some .int)) : ∀ (n : Nat) (x3 : Int32) (h : IH) (ls : Array Slot) (H : Heap) (locs : List Loc) (q : IH), s_X12_checkedSum_L2 N n th x1 x2 x3 h = some q → lv_has ls 9 [(0, .ref th), (1, .int x1), (2, .int x2), (3, .int x3)] → Mo D cy A H0 h H locs → (∀ (t : IH) (ls : Array Slot) (H : Heap) (locs : List Loc), q = t → lv_has ls 9 [(0, .ref th), (1, .int x1), (2, .int x2)] → Mo D cy A H0 t H locs → W p l e rm_X12_checkedSum s m args below meth c H locs 0 0 (MQ below (QR D cy qF.2 A (some (.int qF.1))) args s 0 0 A) (F0 m 21 ls [])) → (∀ v : Int32 × IH, False → v = qF) → W p l e rm_X12_checkedSum s m args below meth c H locs 0 0 (MQ below (QR D cy qF.2 A (some (.int qF.1))) args s 0 0 A) (F0 m 2 ls []) := by
  intro n
  induction n with
  | zero => intro x3 h ls H locs q hs; rw [s_X12_checkedSum_L2.eq_1] at hs; cases hs
  | succ n ih =>
    intro x3 h ls H locs q hs hl M kx kr
    obtain ⟨hx, hb, hr, hml, hown, hlk, hts, hK, hN, hA, hH⟩ := id F
    rw [s_X12_checkedSum_L2.eq_2] at hs
    refine lv_iload_n hx hb dX12_checkedSum_2 rfl (lv_at hl 3 rfl) ?_
    refine lv_bipush (v := 120) hx hb dX12_checkedSum_3 (by decide) ?_
    refine lv_icmp_ge (tgt := 21) hx hb dX12_checkedSum_5 (by decide) (fun c1 => ?_) (fun c1 => ?_)
    · rw [if_pos c1] at hs
      exact kx h _ _ _ (Option.some.inj hs).symm (lv_sub hl [0, 1, 2] rfl) M
    · rw [if_neg c1] at hs
      refine lv_aload_n hx hb dX12_checkedSum_8 rfl (lv_at hl 0 rfl) ?_
      obtain ⟨v2, g_v2, hs⟩ := bd hs
      refine ro_gR F M fg_12_69 t_1075 g_v2 dX12_checkedSum_9 ?_
      refine lv_iload_n hx hb dX12_checkedSum_12 rfl (lv_at hl 3 rfl) ?_
      refine lv_iconst (v := 0) hx hb dX12_checkedSum_13 (by decide) ?_
      obtain ⟨h3, g_h3, hs⟩ := bd hs
      refine ro_sZ F M g_h3 dX12_checkedSum_14 (fun H locs M => ?_)
      refine lv_iinc (v := x3 + 1) (lv' := [(3, .int (x3 + 1)), (0, .ref th), (1, .int x1), (2, .int x2)]) hx hb dX12_checkedSum_15 hl (k := 3) rfl rfl (by decide) rfl (fun ls hl => ?_)
      refine lv_goto (tgt := 2) hx hb dX12_checkedSum_18 (by decide) ?_
      exact ih (x3 + 1) h3 _ _ _ _ hs (lv_sub hl [1, 2, 3, 0] rfl) M kx kr
set_option maxHeartbeats 4000000 in
set_option maxRecDepth 100000 in
theorem w_X12_checkedSum_L35 {p : Program} {l : Launch} {e : Env} {s : State} {m : MethodId} {args : Array Value} {below : List Frame} {meth : Method} {c : Code} {D : va_G} {cy : Nat → ClassId} {A : Nat → Prop} {H0 : Heap} {N th : Nat} {x1 : Int32} {x2 : Int32} {qF : Int32 × IH} (F : Fx p s m args meth c D cy A H0 yX12_checkedSum cX12_checkedSum 9 (some .int)) : ∀ (n : Nat) (x3 : Int32) (x4 : Int32) (x5 : Int32) (x6 : Int32) (h : IH) (ls : Array Slot) (H : Heap) (locs : List Loc) (q : Int32 × Int32 × Int32 × IH), s_X12_checkedSum_L35 N n th x1 x2 x3 x4 x5 x6 h = some q → lv_has ls 9 [(0, .ref th), (1, .int x1), (2, .int x2), (3, .int x3), (4, .int x4), (5, .int x5), (6, .int x6)] → Mo D cy A H0 h H locs → (∀ (t : Int32 × Int32 × Int32 × IH) (ls : Array Slot) (H : Heap) (locs : List Loc), q = t → lv_has ls 9 [(0, .ref th), (3, .int t.1), (4, .int t.2.1), (5, .int t.2.2.1)] → Mo D cy A H0 t.2.2.2 H locs → W p l e rm_X12_checkedSum s m args below meth c H locs 0 0 (MQ below (QR D cy qF.2 A (some (.int qF.1))) args s 0 0 A) (F0 m 162 ls [])) → (∀ v : Int32 × IH, False → v = qF) → W p l e rm_X12_checkedSum s m args below meth c H locs 0 0 (MQ below (QR D cy qF.2 A (some (.int qF.1))) args s 0 0 A) (F0 m 35 ls []) := by
  intro n
  induction n with
  | zero => intro x3 x4 x5 x6 h ls H locs q hs; rw [s_X12_checkedSum_L35.eq_1] at hs; cases hs
  | succ n ih =>
    intro x3 x4 x5 x6 h ls H locs q hs hl M kx kr
    obtain ⟨hx, hb, hr, hml, hown, hlk, hts, hK, hN, hA, hH⟩ := id F
    rw [s_X12_checkedSum_L35.eq_2] at hs
    refine lv_iload hx hb dX12_checkedSum_35 (lv_at hl 6 rfl) ?_
    refine lv_bipush (v := 48) hx hb dX12_checkedSum_37 (by decide) ?_
    refine lv_iload_n hx hb dX12_checkedSum_39 rfl (lv_at hl 1 rfl) ?_
    refine lv_imul hx hb dX12_checkedSum_40 ?_
    refine lv_bipush (v := 48) hx hb dX12_checkedSum_41 (by decide) ?_
    refine lv_iadd hx hb dX12_checkedSum_43 ?_
    refine lv_icmp_ge (tgt := 162) hx hb dX12_checkedSum_44 (by decide) (fun c5 => ?_) (fun c5 => ?_)
    · rw [if_pos c5] at hs
      exact kx (x3, x4, x5, h) _ _ _ (Option.some.inj hs).symm (lv_sub hl [0, 3, 4, 5] rfl) M
    · rw [if_neg c5] at hs
      refine lv_aload_n hx hb dX12_checkedSum_47 rfl (lv_at hl 0 rfl) ?_
      refine lv_iload hx hb dX12_checkedSum_48 (lv_at hl 6 rfl) ?_
      obtain ⟨v6, g_v6, hs⟩ := bd hs
      obtain ⟨a27, e_a27, k_a27, g_v6⟩ := cV_some g_v6
      obtain rfl := Option.some.inj e_a27
      refine ca_Vi (bq := th) (As := [.int x6]) (rest := []) F M (c_X12_isContactAt g_v6) mf_X12_isContactAt t_1352 k_a27 rfl ⟨by decide, by decide⟩ ⟨rfl, rfl⟩ ⟨Nat.zero_le _, Nat.zero_le _⟩ hl.1 rfl (by decide) dX12_checkedSum_50 (fun H locs M => ?_)
      obtain ⟨q10, hsq10, hs⟩ := bd hs
      have KJ66 : ∀ (ls : Array Slot) (H : Heap) (locs : List Loc), lv_has ls 9 [(0, .ref th), (1, .int x1), (2, .int x2), (3, .int x3), (4, .int x4), (5, .int x5), (6, .int x6)] → Mo D cy A H0 h H locs → W p l e rm_X12_checkedSum s m args below meth c H locs 0 0 (MQ below (QR D cy qF.2 A (some (.int qF.1))) args s 0 0 A) (F0 m 66 ls [.int q10]) := by
        intro ls H locs hl M
        refine lv_istore (i := 7) (lv' := [(7, .int q10), (0, .ref th), (1, .int x1), (2, .int x2), (3, .int x3), (4, .int x4), (5, .int x5), (6, .int x6)]) hx hb dX12_checkedSum_66 hl (by decide) rfl (fun ls hl => ?_)
        refine lv_iload hx hb dX12_checkedSum_68 (lv_at hl 6 rfl) ?_
        refine lv_iload hx hb dX12_checkedSum_70 (lv_at hl 0 rfl) ?_
        refine lv_iconst (v := 3) hx hb dX12_checkedSum_72 (by decide) ?_
        obtain ⟨q12, hsq12, hs⟩ := bd hs
        have KJ81 : ∀ (ls : Array Slot) (H : Heap) (locs : List Loc), lv_has ls 9 [(0, .ref th), (1, .int x1), (2, .int x2), (3, .int x3), (4, .int x4), (6, .int x6), (7, .int q10)] → Mo D cy A H0 h H locs → W p l e rm_X12_checkedSum s m args below meth c H locs 0 0 (MQ below (QR D cy qF.2 A (some (.int qF.1))) args s 0 0 A) (F0 m 81 ls [.int q12, .int x5]) := by
          intro ls H locs hl M
          refine lv_iadd hx hb dX12_checkedSum_81 ?_
          refine lv_istore (i := 5) (lv' := [(5, .int (x5 + q12)), (0, .ref th), (1, .int x1), (2, .int x2), (3, .int x3), (4, .int x4), (6, .int x6), (7, .int q10)]) hx hb dX12_checkedSum_82 hl (by decide) rfl (fun ls hl => ?_)
          refine lv_iload hx hb dX12_checkedSum_84 (lv_at hl 7 rfl) ?_
          obtain ⟨q26, hsq26, hs⟩ := bd hs
          have KJ156 : ∀ (ls : Array Slot) (H : Heap) (locs : List Loc), lv_has ls 9 [(0, .ref th), (1, .int x1), (2, .int x2), (3, .int q26.1), (4, .int q26.2.1), (5, .int (x5 + q12)), (6, .int x6)] → Mo D cy A H0 q26.2.2 H locs → W p l e rm_X12_checkedSum s m args below meth c H locs 0 0 (MQ below (QR D cy qF.2 A (some (.int qF.1))) args s 0 0 A) (F0 m 156 ls []) := by
            intro ls H locs hl M
            refine lv_iinc (v := x6 + 1) (lv' := [(6, .int (x6 + 1)), (0, .ref th), (1, .int x1), (2, .int x2), (3, .int q26.1), (4, .int q26.2.1), (5, .int (x5 + q12))]) hx hb dX12_checkedSum_156 hl (k := 6) rfl rfl (by decide) rfl (fun ls hl => ?_)
            refine lv_goto (tgt := 35) hx hb dX12_checkedSum_159 (by decide) ?_
            exact ih q26.1 q26.2.1 (x5 + q12) (x6 + 1) q26.2.2 _ _ _ _ hs (lv_sub hl [1, 2, 3, 4, 5, 6, 0] rfl) M kx kr
          clear hs
          have hs := hsq26
          refine lv_if_eq (tgt := 92) hx hb dX12_checkedSum_86 (by decide) (fun c13 => ?_) (fun c13 => ?_)
          · rw [if_pos c13] at hs
            refine lv_iload_n hx hb dX12_checkedSum_92 rfl (lv_at hl 4 rfl) ?_
            refine lv_iload_n hx hb dX12_checkedSum_93 rfl (lv_at hl 3 rfl) ?_
            refine lv_aload_n hx hb dX12_checkedSum_94 rfl (lv_at hl 1 rfl) ?_
            refine lv_iload hx hb dX12_checkedSum_95 (lv_at hl 6 rfl) ?_
            obtain ⟨v14, g_v14, hs⟩ := bd hs
            obtain ⟨a25, e_a25, k_a25, g_v14⟩ := cV_some g_v14
            obtain rfl := Option.some.inj e_a25
            refine ca_Vi (bq := th) (As := [.int x6]) (rest := [.int x2, .int x3]) F M (c_X12_pointsOf g_v14) mf_X12_pointsOf t_1483 k_a25 rfl ⟨by decide, by decide⟩ ⟨rfl, rfl⟩ ⟨Nat.zero_le _, Nat.zero_le _⟩ hl.1 rfl (by simp [cat_rf, cat_i, cat_j, cat_r]) dX12_checkedSum_97 (fun H locs M => ?_)
            refine lv_imul hx hb dX12_checkedSum_100 ?_
            refine lv_iadd hx hb dX12_checkedSum_101 ?_
            refine lv_istore_n (i := 3) (lv' := [(3, .int (x3 + (x2 * v14.1))), (5, .int (x5 + q12)), (0, .ref th), (1, .int x1), (2, .int x2), (4, .int x4), (6, .int x6), (7, .int q10)]) hx hb dX12_checkedSum_102 rfl hl (by decide) rfl (fun ls hl => ?_)
            refine lv_iload hx hb dX12_checkedSum_103 (lv_at hl 6 rfl) ?_
            refine lv_bipush (v := 16) hx hb dX12_checkedSum_105 (by decide) ?_
            refine lv_idiv hx hb dX12_checkedSum_107 (by decide) ?_
            refine lv_iconst (v := 3) hx hb dX12_checkedSum_108 (by decide) ?_
            refine lv_irem hx hb dX12_checkedSum_109 (by decide) ?_
            refine lv_bipush (v := 40) hx hb dX12_checkedSum_110 (by decide) ?_
            refine lv_imul hx hb dX12_checkedSum_112 ?_
            refine lv_aload_n hx hb dX12_checkedSum_113 rfl (lv_at hl 2 rfl) ?_
            obtain ⟨v15, g_v15, hs⟩ := bd hs
            refine ro_gR F M fg_12_3 t_1009 g_v15 dX12_checkedSum_114 ?_
            refine lv_aload_n hx hb dX12_checkedSum_117 rfl (lv_at hl 2 rfl) ?_
            obtain ⟨v16, g_v16, hs⟩ := bd hs
            refine ro_gR F M fg_12_18 t_1024 g_v16 dX12_checkedSum_118 ?_
            refine lv_iload hx hb dX12_checkedSum_121 (lv_at hl 6 rfl) ?_
            obtain ⟨v17, g_v17, hs⟩ := bd hs
            refine ro_aI F M g_v17 dX12_checkedSum_123 ?_
            obtain ⟨v18, g_v18, hs⟩ := bd hs
            refine ro_aI F M g_v18 dX12_checkedSum_124 ?_
            refine lv_iadd hx hb dX12_checkedSum_125 ?_
            refine lv_istore (i := 8) (lv' := [(8, .int ((((x6 / 16) - (x6 / 16) / 3 * 3) * 40) + v18)), (3, .int (x3 + (x2 * v14.1))), (5, .int (x5 + q12)), (0, .ref th), (1, .int x1), (2, .int x2), (4, .int x4), (6, .int x6), (7, .int q10)]) hx hb dX12_checkedSum_126 hl (by decide) rfl (fun ls hl => ?_)
            refine lv_iload hx hb dX12_checkedSum_128 (lv_at hl 6 rfl) ?_
            refine lv_aload_n hx hb dX12_checkedSum_130 rfl (lv_at hl 3 rfl) ?_
            obtain ⟨v19, g_v19, hs⟩ := bd hs
            refine ro_gR F M fg_12_69 t_1075 g_v19 dX12_checkedSum_131 ?_
            refine lv_iload hx hb dX12_checkedSum_134 (lv_at hl 0 rfl) ?_
            obtain ⟨v20, g_v20, hs⟩ := bd hs
            refine ro_aZ F M g_v20 dX12_checkedSum_136 ?_
            obtain ⟨q22, hsq22, hs⟩ := bd hs
            have KJ145 : ∀ (ls : Array Slot) (H : Heap) (locs : List Loc), lv_has ls 9 [(0, .ref th), (1, .int x1), (2, .int x2), (3, .int (x3 + (x2 * v14.1))), (5, .int (x5 + q12)), (6, .int x6), (8, .int ((((x6 / 16) - (x6 / 16) / 3 * 3) * 40) + v18))] → Mo D cy A H0 v14.2 H locs → W p l e rm_X12_checkedSum s m args below meth c H locs 0 0 (MQ below (QR D cy qF.2 A (some (.int qF.1))) args s 0 0 A) (F0 m 145 ls [.int q22, .int x4]) := by
              intro ls H locs hl M
              refine lv_iadd hx hb dX12_checkedSum_145 ?_
              refine lv_istore (i := 4) (lv' := [(4, .int (x4 + q22)), (0, .ref th), (1, .int x1), (2, .int x2), (3, .int (x3 + (x2 * v14.1))), (5, .int (x5 + q12)), (6, .int x6), (8, .int ((((x6 / 16) - (x6 / 16) / 3 * 3) * 40) + v18))]) hx hb dX12_checkedSum_146 hl (by decide) rfl (fun ls hl => ?_)
              refine lv_aload_n hx hb dX12_checkedSum_148 rfl (lv_at hl 1 rfl) ?_
              obtain ⟨v23, g_v23, hs⟩ := bd hs
              refine ro_gR F M fg_12_69 t_1075 g_v23 dX12_checkedSum_149 ?_
              refine lv_iload hx hb dX12_checkedSum_152 (lv_at hl 7 rfl) ?_
              refine lv_iconst (v := 1) hx hb dX12_checkedSum_154 (by decide) ?_
              obtain ⟨h24, g_h24, hs⟩ := bd hs
              refine ro_sZ F M g_h24 dX12_checkedSum_155 (fun H locs M => ?_)
              obtain rfl := Option.some.inj hs
              exact KJ156 _ _ _ (lv_sub hl [1, 2, 3, 4, 0, 5, 6] rfl) M
            clear hs
            have hs := hsq22
            refine lv_if_eq (tgt := 144) hx hb dX12_checkedSum_137 (by decide) (fun c21 => ?_) (fun c21 => ?_)
            · rw [if_pos c21] at hs
              refine lv_iconst (v := 1) hx hb dX12_checkedSum_144 (by decide) ?_
              obtain rfl := Option.some.inj hs
              exact KJ145 _ _ _ (lv_sub hl [3, 4, 5, 1, 2, 7, 0] rfl) M
            · rw [if_neg c21] at hs
              refine lv_iconst (v := 0) hx hb dX12_checkedSum_140 (by decide) ?_
              refine lv_goto (tgt := 145) hx hb dX12_checkedSum_141 (by decide) ?_
              obtain rfl := Option.some.inj hs
              exact KJ145 _ _ _ (lv_sub hl [3, 4, 5, 1, 2, 7, 0] rfl) M
          · rw [if_neg c13] at hs
            refine lv_goto (tgt := 156) hx hb dX12_checkedSum_89 (by decide) ?_
            obtain rfl := Option.some.inj hs
            exact KJ156 _ _ _ (lv_sub hl [1, 2, 3, 4, 5, 0, 6] rfl) M
        clear hs
        have hs := hsq12
        refine lv_icmp_ne (tgt := 80) hx hb dX12_checkedSum_73 (by decide) (fun c11 => ?_) (fun c11 => ?_)
        · rw [if_neg c11] at hs
          refine lv_iconst (v := 0) hx hb dX12_checkedSum_80 (by decide) ?_
          obtain rfl := Option.some.inj hs
          exact KJ81 _ _ _ (lv_sub hl [1, 2, 3, 4, 5, 7, 0] rfl) M
        · rw [if_pos c11] at hs
          refine lv_iconst (v := 1) hx hb dX12_checkedSum_76 (by decide) ?_
          refine lv_goto (tgt := 81) hx hb dX12_checkedSum_77 (by decide) ?_
          obtain rfl := Option.some.inj hs
          exact KJ81 _ _ _ (lv_sub hl [1, 2, 3, 4, 5, 7, 0] rfl) M
      clear hs
      have hs := hsq10
      refine lv_if_eq (tgt := 65) hx hb dX12_checkedSum_53 (by decide) (fun c7 => ?_) (fun c7 => ?_)
      · rw [if_pos c7] at hs
        refine lv_iconst (v := (-1)) hx hb dX12_checkedSum_65 (by decide) ?_
        obtain rfl := Option.some.inj hs
        exact KJ66 _ _ _ (lv_sub hl [0, 1, 2, 3, 4, 5, 6] rfl) M
      · rw [if_neg c7] at hs
        refine lv_aload_n hx hb dX12_checkedSum_56 rfl (lv_at hl 0 rfl) ?_
        refine lv_iload hx hb dX12_checkedSum_57 (lv_at hl 6 rfl) ?_
        obtain ⟨v8, g_v8, hs⟩ := bd hs
        obtain ⟨a9, e_a9, k_a9, g_v8⟩ := cV_some g_v8
        obtain rfl := Option.some.inj e_a9
        refine ca_Vi (bq := th) (As := [.int x6]) (rest := []) F M (c_X12_whyOf g_v8) mf_X12_whyOf t_1451 k_a9 rfl ⟨by decide, by decide⟩ ⟨rfl, rfl⟩ ⟨Nat.zero_le _, Nat.zero_le _⟩ hl.1 rfl (by decide) dX12_checkedSum_59 (fun H locs M => ?_)
        refine lv_goto (tgt := 66) hx hb dX12_checkedSum_62 (by decide) ?_
        obtain rfl := Option.some.inj hs
        exact KJ66 _ _ _ (lv_sub hl [0, 1, 2, 3, 4, 5, 6] rfl) M
set_option maxHeartbeats 4000000 in
set_option maxRecDepth 100000 in
theorem c_X12_checkedSum {l : Launch} {D : va_G} {cy : Nat → ClassId} {sz N : Nat} {h : IH} {th : Nat} {a0 : Int32} {a1 : Int32} {qF : Int32 × IH} (hs : s_X12_checkedSum N h th a0 a1 = some qF) : Ct l D cy yX12_checkedSum cX12_checkedSum 9 (some .int) rm_X12_checkedSum h sz [.ref th, .int a0, .int a1] qF.2 (some (.int qF.1)) := by
  refine ct_start (by decide +kernel) [(0, .ref th), (1, .int a0), (2, .int a1)] (Nat.le_of_ble_eq_true rfl) rfl ?_
  intro p e s m args below meth c A H0 ls F hin hsz M hl
  obtain ⟨hx, hb, hr, hml, hown, hlk, hts, hK, hN, hA, hH⟩ := id F
  generalize s.heap = H at M ⊢
  generalize ([] : List Loc) = locs at M ⊢
  unfold s_X12_checkedSum at hs
  refine lv_iconst (v := 0) hx hb dX12_checkedSum_0 (by decide) ?_
  refine lv_istore_n (i := 3) (lv' := [(3, .int 0), (0, .ref th), (1, .int a0), (2, .int a1)]) hx hb dX12_checkedSum_1 rfl hl (by decide) rfl (fun ls hl => ?_)
  obtain ⟨q4, g_q4, hs⟩ := bd hs
  refine w_X12_checkedSum_L2 F N 0 h _ _ _ q4 g_q4 (lv_sub hl [1, 2, 3, 0] rfl) M (fun t_ ls H locs eq_ hl M => ?_) (fun v eq_ => eq_.elim)
  subst eq_
  refine lv_iconst (v := 0) hx hb dX12_checkedSum_21 (by decide) ?_
  refine lv_istore_n (i := 3) (lv' := [(3, .int 0), (0, .ref th), (1, .int a0), (2, .int a1)]) hx hb dX12_checkedSum_22 rfl hl (by decide) rfl (fun ls hl => ?_)
  refine lv_iconst (v := 0) hx hb dX12_checkedSum_23 (by decide) ?_
  refine lv_istore (i := 4) (lv' := [(4, .int 0), (3, .int 0), (0, .ref th), (1, .int a0), (2, .int a1)]) hx hb dX12_checkedSum_24 hl (by decide) rfl (fun ls hl => ?_)
  refine lv_iconst (v := 0) hx hb dX12_checkedSum_26 (by decide) ?_
  refine lv_istore (i := 5) (lv' := [(5, .int 0), (4, .int 0), (3, .int 0), (0, .ref th), (1, .int a0), (2, .int a1)]) hx hb dX12_checkedSum_27 hl (by decide) rfl (fun ls hl => ?_)
  refine lv_bipush (v := 48) hx hb dX12_checkedSum_29 (by decide) ?_
  refine lv_iload_n hx hb dX12_checkedSum_31 rfl (lv_at hl 4 rfl) ?_
  refine lv_imul hx hb dX12_checkedSum_32 ?_
  refine lv_istore (i := 6) (lv' := [(6, .int (48 * a0)), (5, .int 0), (4, .int 0), (3, .int 0), (0, .ref th), (1, .int a0), (2, .int a1)]) hx hb dX12_checkedSum_33 hl (by decide) rfl (fun ls hl => ?_)
  obtain ⟨q28, g_q28, hs⟩ := bd hs
  refine w_X12_checkedSum_L35 F N 0 0 0 (48 * a0) q4 _ _ _ q28 g_q28 (lv_sub hl [4, 5, 6, 3, 2, 1, 0] rfl) M (fun t_ ls H locs eq_ hl M => ?_) (fun v eq_ => eq_.elim)
  subst eq_
  refine lv_iload_n hx hb dX12_checkedSum_162 rfl (lv_at hl 1 rfl) ?_
  refine lv_iload hx hb dX12_checkedSum_163 (lv_at hl 2 rfl) ?_
  refine lv_imul hx hb dX12_checkedSum_165 ?_
  refine lv_aload_n hx hb dX12_checkedSum_166 rfl (lv_at hl 0 rfl) ?_
  obtain ⟨v29, g_v29, hs⟩ := bd hs
  refine ro_gI F M fg_12_22 t_1028 g_v29 dX12_checkedSum_167 ?_
  refine lv_iload hx hb dX12_checkedSum_170 (lv_at hl 3 rfl) ?_
  refine lv_imul hx hb dX12_checkedSum_172 ?_
  refine lv_isub hx hb dX12_checkedSum_173 ?_
  obtain rfl := Option.some.inj hs
  exact re_i F M dX12_checkedSum_174
abbrev rm_X12_own : Room := { frames := 45, cells := 0, slots := 0, locals := 1124 }
theorem mf_X12_own : MV 12 yX12_own cX12_own 3 (some .int) 1 RX12 := ⟨t_1506, t_1505, tS_119, t_12, ⟨by decide +kernel, by decide +kernel, by decide +kernel⟩, rfl, by decide⟩
def s_X12_own (N : Nat) (h : IH) (th : Nat) (a0 : Int32) : Option (Int32 × IH) := (gR h 12 2 (some th)).bind fun v1 => (aI h v1 a0).bind fun v2 => if v2 = 0 then (cV h 12 (some th) fun a7 => s_X12_checkedSum N h a7 a0 1).bind fun v6 => some (v6.1, v6.2) else if v2 = 1 then (cV h 12 (some th) fun a9 => s_X12_checkedSum N h a9 a0 1).bind fun v8 => some ((v8.1 * 2) / 3, v8.2) else if v2 = 2 then (cV h 12 (some th) fun a11 => s_X12_checkedSum N h a11 a0 2).bind fun v10 => some (((v10.1 * 2) / 3) + 50, v10.2) else (cV h 12 (some th) fun a13 => s_X12_checkedSum N h a13 a0 1).bind fun v12 => some (0, v12.2)
set_option maxHeartbeats 4000000 in
set_option maxRecDepth 100000 in
theorem c_X12_own {l : Launch} {D : va_G} {cy : Nat → ClassId} {sz N : Nat} {h : IH} {th : Nat} {a0 : Int32} {qF : Int32 × IH} (hs : s_X12_own N h th a0 = some qF) : Ct l D cy yX12_own cX12_own 3 (some .int) rm_X12_own h sz [.ref th, .int a0] qF.2 (some (.int qF.1)) := by
  refine ct_start (by decide +kernel) [(0, .ref th), (1, .int a0)] (Nat.le_of_ble_eq_true rfl) rfl ?_
  intro p e s m args below meth c A H0 ls F hin hsz M hl
  obtain ⟨hx, hb, hr, hml, hown, hlk, hts, hK, hN, hA, hH⟩ := id F
  generalize s.heap = H at M ⊢
  generalize ([] : List Loc) = locs at M ⊢
  unfold s_X12_own at hs
  refine lv_aload_n hx hb dX12_own_0 rfl (lv_at hl 0 rfl) ?_
  obtain ⟨v1, g_v1, hs⟩ := bd hs
  refine ro_gR F M fg_12_2 t_1008 g_v1 dX12_own_1 ?_
  refine lv_iload_n hx hb dX12_own_4 rfl (lv_at hl 1 rfl) ?_
  obtain ⟨v2, g_v2, hs⟩ := bd hs
  refine ro_aI F M g_v2 dX12_own_5 ?_
  by_cases c3 : v2 = 0
  · rw [if_pos c3] at hs
    refine lv_tableIn (tgt := 32) hx hb dX12_own_6 (by rw [c3]; decide) (by rw [c3]; decide) (by rw [c3]; rfl) (by decide) ?_
    refine lv_aload_n hx hb dX12_own_32 rfl (lv_at hl 0 rfl) ?_
    refine lv_iload_n hx hb dX12_own_33 rfl (lv_at hl 1 rfl) ?_
    refine lv_iconst (v := 1) hx hb dX12_own_34 (by decide) ?_
    obtain ⟨v6, g_v6, hs⟩ := bd hs
    obtain ⟨a7, e_a7, k_a7, g_v6⟩ := cV_some g_v6
    obtain rfl := Option.some.inj e_a7
    refine ca_Vi (bq := th) (As := [.int a0, .int 1]) (rest := []) F M (c_X12_checkedSum g_v6) mf_X12_checkedSum t_1507 k_a7 rfl ⟨by decide, by decide⟩ ⟨rfl, rfl⟩ ⟨Nat.zero_le _, Nat.zero_le _⟩ hl.1 rfl (by decide) dX12_own_35 (fun H locs M => ?_)
    obtain rfl := Option.some.inj hs
    exact re_i F M dX12_own_38
  rw [if_neg c3] at hs
  by_cases c4 : v2 = 1
  · rw [if_pos c4] at hs
    refine lv_tableIn (tgt := 39) hx hb dX12_own_6 (by rw [c4]; decide) (by rw [c4]; decide) (by rw [c4]; rfl) (by decide) ?_
    refine lv_aload_n hx hb dX12_own_39 rfl (lv_at hl 0 rfl) ?_
    refine lv_iload_n hx hb dX12_own_40 rfl (lv_at hl 1 rfl) ?_
    refine lv_iconst (v := 1) hx hb dX12_own_41 (by decide) ?_
    obtain ⟨v8, g_v8, hs⟩ := bd hs
    obtain ⟨a9, e_a9, k_a9, g_v8⟩ := cV_some g_v8
    obtain rfl := Option.some.inj e_a9
    refine ca_Vi (bq := th) (As := [.int a0, .int 1]) (rest := []) F M (c_X12_checkedSum g_v8) mf_X12_checkedSum t_1507 k_a9 rfl ⟨by decide, by decide⟩ ⟨rfl, rfl⟩ ⟨Nat.zero_le _, Nat.zero_le _⟩ hl.1 rfl (by decide) dX12_own_42 (fun H locs M => ?_)
    refine lv_iconst (v := 2) hx hb dX12_own_45 (by decide) ?_
    refine lv_imul hx hb dX12_own_46 ?_
    refine lv_iconst (v := 3) hx hb dX12_own_47 (by decide) ?_
    refine lv_idiv hx hb dX12_own_48 (by decide) ?_
    obtain rfl := Option.some.inj hs
    exact re_i F M dX12_own_49
  rw [if_neg c4] at hs
  by_cases c5 : v2 = 2
  · rw [if_pos c5] at hs
    refine lv_tableIn (tgt := 50) hx hb dX12_own_6 (by rw [c5]; decide) (by rw [c5]; decide) (by rw [c5]; rfl) (by decide) ?_
    refine lv_aload_n hx hb dX12_own_50 rfl (lv_at hl 0 rfl) ?_
    refine lv_iload_n hx hb dX12_own_51 rfl (lv_at hl 1 rfl) ?_
    refine lv_iconst (v := 2) hx hb dX12_own_52 (by decide) ?_
    obtain ⟨v10, g_v10, hs⟩ := bd hs
    obtain ⟨a11, e_a11, k_a11, g_v10⟩ := cV_some g_v10
    obtain rfl := Option.some.inj e_a11
    refine ca_Vi (bq := th) (As := [.int a0, .int 2]) (rest := []) F M (c_X12_checkedSum g_v10) mf_X12_checkedSum t_1507 k_a11 rfl ⟨by decide, by decide⟩ ⟨rfl, rfl⟩ ⟨Nat.zero_le _, Nat.zero_le _⟩ hl.1 rfl (by decide) dX12_own_53 (fun H locs M => ?_)
    refine lv_iconst (v := 2) hx hb dX12_own_56 (by decide) ?_
    refine lv_imul hx hb dX12_own_57 ?_
    refine lv_iconst (v := 3) hx hb dX12_own_58 (by decide) ?_
    refine lv_idiv hx hb dX12_own_59 (by decide) ?_
    refine lv_bipush (v := 50) hx hb dX12_own_60 (by decide) ?_
    refine lv_iadd hx hb dX12_own_62 ?_
    obtain rfl := Option.some.inj hs
    exact re_i F M dX12_own_63
  rw [if_neg c5] at hs
  refine lv_tableOut (tgt := 64) hx hb dX12_own_6 (by have := ne_ti (k := 0) (n := 0) rfl c3; have := ne_ti (k := 1) (n := 1) rfl c4; have := ne_ti (k := 2) (n := 2) rfl c5; omega) (by decide) ?_
  refine lv_aload_n hx hb dX12_own_64 rfl (lv_at hl 0 rfl) ?_
  refine lv_iload_n hx hb dX12_own_65 rfl (lv_at hl 1 rfl) ?_
  refine lv_iconst (v := 1) hx hb dX12_own_66 (by decide) ?_
  obtain ⟨v12, g_v12, hs⟩ := bd hs
  obtain ⟨a13, e_a13, k_a13, g_v12⟩ := cV_some g_v12
  obtain rfl := Option.some.inj e_a13
  refine ca_Vi (bq := th) (As := [.int a0, .int 1]) (rest := []) F M (c_X12_checkedSum g_v12) mf_X12_checkedSum t_1507 k_a13 rfl ⟨by decide, by decide⟩ ⟨rfl, rfl⟩ ⟨Nat.zero_le _, Nat.zero_le _⟩ hl.1 rfl (by decide) dX12_own_67 (fun H locs M => ?_)
  refine lv_istore_n (i := 2) (lv' := [(2, .int v12.1), (0, .ref th), (1, .int a0)]) hx hb dX12_own_70 rfl hl (by decide) rfl (fun ls hl => ?_)
  refine lv_iconst (v := 0) hx hb dX12_own_71 (by decide) ?_
  obtain rfl := Option.some.inj hs
  exact re_i F M dX12_own_72
abbrev rm_X12_totalOf : Room := { frames := 46, cells := 0, slots := 0, locals := 1146 }
theorem mf_X12_totalOf : MV 12 yX12_totalOf cX12_totalOf 4 (some .int) 1 RX12 := ⟨t_1502, t_1501, tS_118, t_12, ⟨by decide +kernel, by decide +kernel, by decide +kernel⟩, rfl, by decide⟩
def s_X12_totalOf_L25 (N : Nat) : Nat → Nat → Int32 → Int32 → Int32 → IH → Option (Int32 × IH)
  | 0, _, _, _, _, _ => none
  | n + 1, th, x1, x2, x3, h => (gI h 12 1 (some th)).bind fun v5 => if v5 ≤ x3 then some (x2, h) else (gR h 12 8 (some th)).bind fun v7 => (aI h v7 x3).bind fun v8 => ((if v8 = (x1 + 1) then (cV h 12 (some th) fun a11 => s_X12_own N h a11 x3).bind fun v10 => some (v10.1, v10.2) else some (0, h)) : Option (Int32 × IH)).bind fun q12 => s_X12_totalOf_L25 N n th x1 (x2 + q12.1) (x3 + 1) q12.2
def s_X12_totalOf (N : Nat) (h : IH) (th : Nat) (a0 : Int32) : Option (Int32 × IH) := (pZ h 12 52 (some th) 0).bind fun h1 => (gR h1 12 2 (some th)).bind fun v2 => (aI h1 v2 a0).bind fun v3 => if v3 = 4 then (s_X12_totalOf_L25 N N th a0 0 0 h1).bind fun q13 => some (q13.1, q13.2) else (cV h1 12 (some th) fun a15 => s_X12_own N h1 a15 a0).bind fun v14 => some (v14.1, v14.2)
set_option maxHeartbeats 4000000 in
set_option maxRecDepth 100000 in
theorem w_X12_totalOf_L25 {p : Program} {l : Launch} {e : Env} {s : State} {m : MethodId} {args : Array Value} {below : List Frame} {meth : Method} {c : Code} {D : va_G} {cy : Nat → ClassId} {A : Nat → Prop} {H0 : Heap} {N th : Nat} {x1 : Int32} {qF : Int32 × IH} (F : Fx p s m args meth c D cy A H0 yX12_totalOf cX12_totalOf 4 (some .int)) : ∀ (n : Nat) (x2 : Int32) (x3 : Int32) (h : IH) (ls : Array Slot) (H : Heap) (locs : List Loc) (q : Int32 × IH), s_X12_totalOf_L25 N n th x1 x2 x3 h = some q → lv_has ls 4 [(0, .ref th), (1, .int x1), (2, .int x2), (3, .int x3)] → Mo D cy A H0 h H locs → (∀ (t : Int32 × IH) (ls : Array Slot) (H : Heap) (locs : List Loc), q = t → lv_has ls 4 [(2, .int t.1)] → Mo D cy A H0 t.2 H locs → W p l e rm_X12_totalOf s m args below meth c H locs 0 0 (MQ below (QR D cy qF.2 A (some (.int qF.1))) args s 0 0 A) (F0 m 63 ls [])) → (∀ v : Int32 × IH, False → v = qF) → W p l e rm_X12_totalOf s m args below meth c H locs 0 0 (MQ below (QR D cy qF.2 A (some (.int qF.1))) args s 0 0 A) (F0 m 25 ls []) := by
  intro n
  induction n with
  | zero => intro x2 x3 h ls H locs q hs; rw [s_X12_totalOf_L25.eq_1] at hs; cases hs
  | succ n ih =>
    intro x2 x3 h ls H locs q hs hl M kx kr
    obtain ⟨hx, hb, hr, hml, hown, hlk, hts, hK, hN, hA, hH⟩ := id F
    rw [s_X12_totalOf_L25.eq_2] at hs
    refine lv_iload_n hx hb dX12_totalOf_25 rfl (lv_at hl 3 rfl) ?_
    refine lv_aload_n hx hb dX12_totalOf_26 rfl (lv_at hl 0 rfl) ?_
    obtain ⟨v5, g_v5, hs⟩ := bd hs
    refine ro_gI F M fg_12_1 t_1007 g_v5 dX12_totalOf_27 ?_
    refine lv_icmp_ge (tgt := 63) hx hb dX12_totalOf_30 (by decide) (fun c6 => ?_) (fun c6 => ?_)
    · rw [if_pos c6] at hs
      exact kx (x2, h) _ _ _ (Option.some.inj hs).symm (lv_sub hl [2] rfl) M
    · rw [if_neg c6] at hs
      refine lv_iload_n hx hb dX12_totalOf_33 rfl (lv_at hl 2 rfl) ?_
      refine lv_aload_n hx hb dX12_totalOf_34 rfl (lv_at hl 0 rfl) ?_
      obtain ⟨v7, g_v7, hs⟩ := bd hs
      refine ro_gR F M fg_12_8 t_1014 g_v7 dX12_totalOf_35 ?_
      refine lv_iload_n hx hb dX12_totalOf_38 rfl (lv_at hl 3 rfl) ?_
      obtain ⟨v8, g_v8, hs⟩ := bd hs
      refine ro_aI F M g_v8 dX12_totalOf_39 ?_
      refine lv_iload_n hx hb dX12_totalOf_40 rfl (lv_at hl 1 rfl) ?_
      refine lv_iconst (v := 1) hx hb dX12_totalOf_41 (by decide) ?_
      refine lv_iadd hx hb dX12_totalOf_42 ?_
      obtain ⟨q12, hsq12, hs⟩ := bd hs
      have KJ55 : ∀ (ls : Array Slot) (H : Heap) (locs : List Loc), lv_has ls 4 [(0, .ref th), (1, .int x1), (3, .int x3)] → Mo D cy A H0 q12.2 H locs → W p l e rm_X12_totalOf s m args below meth c H locs 0 0 (MQ below (QR D cy qF.2 A (some (.int qF.1))) args s 0 0 A) (F0 m 55 ls [.int q12.1, .int x2]) := by
        intro ls H locs hl M
        refine lv_iadd hx hb dX12_totalOf_55 ?_
        refine lv_istore_n (i := 2) (lv' := [(2, .int (x2 + q12.1)), (0, .ref th), (1, .int x1), (3, .int x3)]) hx hb dX12_totalOf_56 rfl hl (by decide) rfl (fun ls hl => ?_)
        refine lv_iinc (v := x3 + 1) (lv' := [(3, .int (x3 + 1)), (2, .int (x2 + q12.1)), (0, .ref th), (1, .int x1)]) hx hb dX12_totalOf_57 hl (k := 3) rfl rfl (by decide) rfl (fun ls hl => ?_)
        refine lv_goto (tgt := 25) hx hb dX12_totalOf_60 (by decide) ?_
        exact ih (x2 + q12.1) (x3 + 1) q12.2 _ _ _ _ hs (lv_sub hl [2, 3, 1, 0] rfl) M kx kr
      clear hs
      have hs := hsq12
      refine lv_icmp_ne (tgt := 54) hx hb dX12_totalOf_43 (by decide) (fun c9 => ?_) (fun c9 => ?_)
      · rw [if_neg c9] at hs
        refine lv_iconst (v := 0) hx hb dX12_totalOf_54 (by decide) ?_
        obtain rfl := Option.some.inj hs
        exact KJ55 _ _ _ (lv_sub hl [0, 1, 3] rfl) M
      · rw [if_pos c9] at hs
        refine lv_aload_n hx hb dX12_totalOf_46 rfl (lv_at hl 0 rfl) ?_
        refine lv_iload_n hx hb dX12_totalOf_47 rfl (lv_at hl 3 rfl) ?_
        obtain ⟨v10, g_v10, hs⟩ := bd hs
        obtain ⟨a11, e_a11, k_a11, g_v10⟩ := cV_some g_v10
        obtain rfl := Option.some.inj e_a11
        refine ca_Vi (bq := th) (As := [.int x3]) (rest := [.int x2]) F M (c_X12_own g_v10) mf_X12_own t_1503 k_a11 rfl ⟨by decide, by decide⟩ ⟨rfl, rfl⟩ ⟨Nat.zero_le _, Nat.zero_le _⟩ hl.1 rfl (by simp [cat_rf, cat_i, cat_j, cat_r]) dX12_totalOf_48 (fun H locs M => ?_)
        refine lv_goto (tgt := 55) hx hb dX12_totalOf_51 (by decide) ?_
        obtain rfl := Option.some.inj hs
        exact KJ55 _ _ _ (lv_sub hl [0, 1, 3] rfl) M
set_option maxHeartbeats 4000000 in
set_option maxRecDepth 100000 in
theorem c_X12_totalOf {l : Launch} {D : va_G} {cy : Nat → ClassId} {sz N : Nat} {h : IH} {th : Nat} {a0 : Int32} {qF : Int32 × IH} (hs : s_X12_totalOf N h th a0 = some qF) : Ct l D cy yX12_totalOf cX12_totalOf 4 (some .int) rm_X12_totalOf h sz [.ref th, .int a0] qF.2 (some (.int qF.1)) := by
  refine ct_start (by decide +kernel) [(0, .ref th), (1, .int a0)] (Nat.le_of_ble_eq_true rfl) rfl ?_
  intro p e s m args below meth c A H0 ls F hin hsz M hl
  obtain ⟨hx, hb, hr, hml, hown, hlk, hts, hK, hN, hA, hH⟩ := id F
  generalize s.heap = H at M ⊢
  generalize ([] : List Loc) = locs at M ⊢
  unfold s_X12_totalOf at hs
  refine lv_aload_n hx hb dX12_totalOf_0 rfl (lv_at hl 0 rfl) ?_
  refine lv_iconst (v := 0) hx hb dX12_totalOf_1 (by decide) ?_
  obtain ⟨h1, g_h1, hs⟩ := bd hs
  refine ro_pZ F M fg_12_52 fp_12_52 rfl t_1058 g_h1 dX12_totalOf_2 (fun H locs M => ?_)
  refine lv_aload_n hx hb dX12_totalOf_5 rfl (lv_at hl 0 rfl) ?_
  obtain ⟨v2, g_v2, hs⟩ := bd hs
  refine ro_gR F M fg_12_2 t_1008 g_v2 dX12_totalOf_6 ?_
  refine lv_iload_n hx hb dX12_totalOf_9 rfl (lv_at hl 1 rfl) ?_
  obtain ⟨v3, g_v3, hs⟩ := bd hs
  refine ro_aI F M g_v3 dX12_totalOf_10 ?_
  refine lv_iconst (v := 4) hx hb dX12_totalOf_11 (by decide) ?_
  refine lv_icmp_eq (tgt := 21) hx hb dX12_totalOf_12 (by decide) (fun c4 => ?_) (fun c4 => ?_)
  · rw [if_pos c4] at hs
    refine lv_iconst (v := 0) hx hb dX12_totalOf_21 (by decide) ?_
    refine lv_istore_n (i := 2) (lv' := [(2, .int 0), (0, .ref th), (1, .int a0)]) hx hb dX12_totalOf_22 rfl hl (by decide) rfl (fun ls hl => ?_)
    refine lv_iconst (v := 0) hx hb dX12_totalOf_23 (by decide) ?_
    refine lv_istore_n (i := 3) (lv' := [(3, .int 0), (2, .int 0), (0, .ref th), (1, .int a0)]) hx hb dX12_totalOf_24 rfl hl (by decide) rfl (fun ls hl => ?_)
    obtain ⟨q13, g_q13, hs⟩ := bd hs
    refine w_X12_totalOf_L25 F N 0 0 h1 _ _ _ q13 g_q13 (lv_sub hl [2, 3, 1, 0] rfl) M (fun t_ ls H locs eq_ hl M => ?_) (fun v eq_ => eq_.elim)
    subst eq_
    refine lv_iload_n hx hb dX12_totalOf_63 rfl (lv_at hl 0 rfl) ?_
    obtain rfl := Option.some.inj hs
    exact re_i F M dX12_totalOf_64
  · rw [if_neg c4] at hs
    refine lv_aload_n hx hb dX12_totalOf_15 rfl (lv_at hl 0 rfl) ?_
    refine lv_iload_n hx hb dX12_totalOf_16 rfl (lv_at hl 1 rfl) ?_
    obtain ⟨v14, g_v14, hs⟩ := bd hs
    obtain ⟨a15, e_a15, k_a15, g_v14⟩ := cV_some g_v14
    obtain rfl := Option.some.inj e_a15
    refine ca_Vi (bq := th) (As := [.int a0]) (rest := []) F M (c_X12_own g_v14) mf_X12_own t_1503 k_a15 rfl ⟨by decide, by decide⟩ ⟨rfl, rfl⟩ ⟨Nat.zero_le _, Nat.zero_le _⟩ hl.1 rfl (by decide) dX12_totalOf_17 (fun H locs M => ?_)
    obtain rfl := Option.some.inj hs
    exact re_i F M dX12_totalOf_20
abbrev rm_X12_total : Room := { frames := 47, cells := 0, slots := 0, locals := 1169 }
theorem mf_X12_total : MV 12 yX12_total cX12_total 3 (some .int) 1 RX12 := ⟨t_1498, t_1496, t_1497, t_12, ⟨by decide +kernel, by decide +kernel, by decide +kernel⟩, rfl, by decide⟩
def s_X12_total (N : Nat) (h : IH) (th : Nat) (a0 : Int32) : Option (Int32 × IH) := (cV h 12 (some th) fun a14 => s_X12_begin N h a14 a0).bind fun v1 => (cV v1 12 (some th) fun a13 => s_X12_isStation v1 a13 a0).bind fun v2 => if v2 = 0 then (cV v1 12 (some th) fun a5 => s_X12_found v1 a5 4).bind fun v4 => some (v4.1, v4.2) else (cV v1 12 (some th) fun a12 => s_X12_totalOf N v1 a12 a0).bind fun v6 => (gI v6.2 12 52 (some th)).bind fun v7 => ((if v7 = 0 then some (v6.1, v6.2) else (cV v6.2 12 (some th) fun a10 => s_X12_found v6.2 a10 5).bind fun v9 => some (v9.1, v9.2)) : Option (Int32 × IH)).bind fun q11 => some (q11.1, q11.2)
set_option maxHeartbeats 4000000 in
set_option maxRecDepth 100000 in
theorem c_X12_total {l : Launch} {D : va_G} {cy : Nat → ClassId} {sz N : Nat} {h : IH} {th : Nat} {a0 : Int32} {qF : Int32 × IH} (hs : s_X12_total N h th a0 = some qF) : Ct l D cy yX12_total cX12_total 3 (some .int) rm_X12_total h sz [.ref th, .int a0] qF.2 (some (.int qF.1)) := by
  refine ct_start (by decide +kernel) [(0, .ref th), (1, .int a0)] (Nat.le_of_ble_eq_true rfl) rfl ?_
  intro p e s m args below meth c A H0 ls F hin hsz M hl
  obtain ⟨hx, hb, hr, hml, hown, hlk, hts, hK, hN, hA, hH⟩ := id F
  generalize s.heap = H at M ⊢
  generalize ([] : List Loc) = locs at M ⊢
  unfold s_X12_total at hs
  refine lv_aload_n hx hb dX12_total_0 rfl (lv_at hl 0 rfl) ?_
  refine lv_iload_n hx hb dX12_total_1 rfl (lv_at hl 1 rfl) ?_
  obtain ⟨v1, g_v1, hs⟩ := bd hs
  obtain ⟨a14, e_a14, k_a14, g_v1⟩ := cV_some g_v1
  obtain rfl := Option.some.inj e_a14
  refine ca_Vv (bq := th) (As := [.int a0]) (rest := []) F M (c_X12_begin g_v1) mf_X12_begin t_1340 k_a14 rfl ⟨by decide, by decide⟩ ⟨rfl, rfl⟩ ⟨Nat.zero_le _, Nat.zero_le _⟩ hl.1 rfl (by decide) dX12_total_2 (fun H locs M => ?_)
  refine lv_aload_n hx hb dX12_total_5 rfl (lv_at hl 0 rfl) ?_
  refine lv_iload_n hx hb dX12_total_6 rfl (lv_at hl 1 rfl) ?_
  obtain ⟨v2, g_v2, hs⟩ := bd hs
  obtain ⟨a13, e_a13, k_a13, g_v2⟩ := cV_some g_v2
  obtain rfl := Option.some.inj e_a13
  refine ca_Vi (bq := th) (As := [.int a0]) (rest := []) F M (c_X12_isStation g_v2) mf_X12_isStation t_1259 k_a13 rfl ⟨by decide, by decide⟩ ⟨rfl, rfl⟩ ⟨Nat.zero_le _, Nat.zero_le _⟩ hl.1 rfl (by decide) dX12_total_7 (fun H locs M => ?_)
  refine lv_if_ne (tgt := 19) hx hb dX12_total_10 (by decide) (fun c3 => ?_) (fun c3 => ?_)
  · rw [if_neg c3] at hs
    refine lv_aload_n hx hb dX12_total_19 rfl (lv_at hl 0 rfl) ?_
    refine lv_iload_n hx hb dX12_total_20 rfl (lv_at hl 1 rfl) ?_
    obtain ⟨v6, g_v6, hs⟩ := bd hs
    obtain ⟨a12, e_a12, k_a12, g_v6⟩ := cV_some g_v6
    obtain rfl := Option.some.inj e_a12
    refine ca_Vi (bq := th) (As := [.int a0]) (rest := []) F M (c_X12_totalOf g_v6) mf_X12_totalOf t_1499 k_a12 rfl ⟨by decide, by decide⟩ ⟨rfl, rfl⟩ ⟨Nat.zero_le _, Nat.zero_le _⟩ hl.1 rfl (by decide) dX12_total_21 (fun H locs M => ?_)
    refine lv_istore_n (i := 2) (lv' := [(2, .int v6.1), (0, .ref th), (1, .int a0)]) hx hb dX12_total_24 rfl hl (by decide) rfl (fun ls hl => ?_)
    refine lv_aload_n hx hb dX12_total_25 rfl (lv_at hl 1 rfl) ?_
    obtain ⟨v7, g_v7, hs⟩ := bd hs
    refine ro_gI F M fg_12_52 t_1058 g_v7 dX12_total_26 ?_
    obtain ⟨q11, hsq11, hs⟩ := bd hs
    have KJ41 : ∀ (ls : Array Slot) (H : Heap) (locs : List Loc), lv_has ls 3 [] → Mo D cy A H0 q11.2 H locs → W p l e rm_X12_total s m args below meth c H locs 0 0 (MQ below (QR D cy qF.2 A (some (.int qF.1))) args s 0 0 A) (F0 m 41 ls [.int q11.1]) := by
      intro ls H locs hl M
      obtain rfl := Option.some.inj hs
      exact re_i F M dX12_total_41
    clear hs
    have hs := hsq11
    refine lv_if_eq (tgt := 40) hx hb dX12_total_29 (by decide) (fun c8 => ?_) (fun c8 => ?_)
    · rw [if_pos c8] at hs
      refine lv_iload_n hx hb dX12_total_40 rfl (lv_at hl 0 rfl) ?_
      obtain rfl := Option.some.inj hs
      exact KJ41 _ _ _ (lv_sub hl [] rfl) M
    · rw [if_neg c8] at hs
      refine lv_aload_n hx hb dX12_total_32 rfl (lv_at hl 1 rfl) ?_
      refine lv_iconst (v := 5) hx hb dX12_total_33 (by decide) ?_
      obtain ⟨v9, g_v9, hs⟩ := bd hs
      obtain ⟨a10, e_a10, k_a10, g_v9⟩ := cV_some g_v9
      obtain rfl := Option.some.inj e_a10
      refine ca_Vi (bq := th) (As := [.int 5]) (rest := []) F M (c_X12_found g_v9) mf_X12_found t_1408 k_a10 rfl ⟨by decide, by decide⟩ ⟨rfl, rfl⟩ ⟨Nat.zero_le _, Nat.zero_le _⟩ hl.1 rfl (by decide) dX12_total_34 (fun H locs M => ?_)
      refine lv_goto (tgt := 41) hx hb dX12_total_37 (by decide) ?_
      obtain rfl := Option.some.inj hs
      exact KJ41 _ _ _ (lv_sub hl [] rfl) M
  · rw [if_pos c3] at hs
    refine lv_aload_n hx hb dX12_total_13 rfl (lv_at hl 0 rfl) ?_
    refine lv_iconst (v := 4) hx hb dX12_total_14 (by decide) ?_
    obtain ⟨v4, g_v4, hs⟩ := bd hs
    obtain ⟨a5, e_a5, k_a5, g_v4⟩ := cV_some g_v4
    obtain rfl := Option.some.inj e_a5
    refine ca_Vi (bq := th) (As := [.int 4]) (rest := []) F M (c_X12_found g_v4) mf_X12_found t_1408 k_a5 rfl ⟨by decide, by decide⟩ ⟨rfl, rfl⟩ ⟨Nat.zero_le _, Nat.zero_le _⟩ hl.1 rfl (by decide) dX12_total_15 (fun H locs M => ?_)
    obtain rfl := Option.some.inj hs
    exact re_i F M dX12_total_18
abbrev rm_X12_totalOrNone : Room := { frames := 47, cells := 0, slots := 0, locals := 1169 }
theorem mf_X12_totalOrNone : MV 12 yX12_totalOrNone cX12_totalOrNone 3 (some .int) 1 RX12 := ⟨t_1526, t_1525, tS_122, t_12, ⟨by decide +kernel, by decide +kernel, by decide +kernel⟩, rfl, by decide⟩
def s_X12_totalOrNone (N : Nat) (h : IH) (th : Nat) (a0 : Int32) : Option (Int32 × IH) := (cV h 12 (some th) fun a5 => s_X12_totalOf N h a5 a0).bind fun v1 => (gI v1.2 12 52 (some th)).bind fun v2 => ((if v2 = 0 then some v1.1 else some 0) : Option (Int32)).bind fun q4 => some (q4, v1.2)
set_option maxHeartbeats 4000000 in
set_option maxRecDepth 100000 in
theorem c_X12_totalOrNone {l : Launch} {D : va_G} {cy : Nat → ClassId} {sz N : Nat} {h : IH} {th : Nat} {a0 : Int32} {qF : Int32 × IH} (hs : s_X12_totalOrNone N h th a0 = some qF) : Ct l D cy yX12_totalOrNone cX12_totalOrNone 3 (some .int) rm_X12_totalOrNone h sz [.ref th, .int a0] qF.2 (some (.int qF.1)) := by
  refine ct_start (by decide +kernel) [(0, .ref th), (1, .int a0)] (Nat.le_of_ble_eq_true rfl) rfl ?_
  intro p e s m args below meth c A H0 ls F hin hsz M hl
  obtain ⟨hx, hb, hr, hml, hown, hlk, hts, hK, hN, hA, hH⟩ := id F
  generalize s.heap = H at M ⊢
  generalize ([] : List Loc) = locs at M ⊢
  unfold s_X12_totalOrNone at hs
  refine lv_aload_n hx hb dX12_totalOrNone_0 rfl (lv_at hl 0 rfl) ?_
  refine lv_iload_n hx hb dX12_totalOrNone_1 rfl (lv_at hl 1 rfl) ?_
  obtain ⟨v1, g_v1, hs⟩ := bd hs
  obtain ⟨a5, e_a5, k_a5, g_v1⟩ := cV_some g_v1
  obtain rfl := Option.some.inj e_a5
  refine ca_Vi (bq := th) (As := [.int a0]) (rest := []) F M (c_X12_totalOf g_v1) mf_X12_totalOf t_1499 k_a5 rfl ⟨by decide, by decide⟩ ⟨rfl, rfl⟩ ⟨Nat.zero_le _, Nat.zero_le _⟩ hl.1 rfl (by decide) dX12_totalOrNone_2 (fun H locs M => ?_)
  refine lv_istore_n (i := 2) (lv' := [(2, .int v1.1), (0, .ref th), (1, .int a0)]) hx hb dX12_totalOrNone_5 rfl hl (by decide) rfl (fun ls hl => ?_)
  refine lv_aload_n hx hb dX12_totalOrNone_6 rfl (lv_at hl 1 rfl) ?_
  obtain ⟨v2, g_v2, hs⟩ := bd hs
  refine ro_gI F M fg_12_52 t_1058 g_v2 dX12_totalOrNone_7 ?_
  obtain ⟨q4, hsq4, hs⟩ := bd hs
  have KJ18 : ∀ (ls : Array Slot) (H : Heap) (locs : List Loc), lv_has ls 3 [] → Mo D cy A H0 v1.2 H locs → W p l e rm_X12_totalOrNone s m args below meth c H locs 0 0 (MQ below (QR D cy qF.2 A (some (.int qF.1))) args s 0 0 A) (F0 m 18 ls [.int q4]) := by
    intro ls H locs hl M
    obtain rfl := Option.some.inj hs
    exact re_i F M dX12_totalOrNone_18
  clear hs
  have hs := hsq4
  refine lv_if_eq (tgt := 17) hx hb dX12_totalOrNone_10 (by decide) (fun c3 => ?_) (fun c3 => ?_)
  · rw [if_pos c3] at hs
    refine lv_iload_n hx hb dX12_totalOrNone_17 rfl (lv_at hl 0 rfl) ?_
    obtain rfl := Option.some.inj hs
    exact KJ18 _ _ _ (lv_sub hl [] rfl) M
  · rw [if_neg c3] at hs
    refine lv_iconst (v := 0) hx hb dX12_totalOrNone_13 (by decide) ?_
    refine lv_goto (tgt := 18) hx hb dX12_totalOrNone_14 (by decide) ?_
    obtain rfl := Option.some.inj hs
    exact KJ18 _ _ _ (lv_sub hl [] rfl) M
abbrev rm_X12_place : Room := { frames := 48, cells := 0, slots := 0, locals := 1191 }
theorem mf_X12_place : MV 12 yX12_place cX12_place 5 (some .int) 1 RX12 := ⟨t_1518, t_1516, t_1517, t_12, ⟨by decide +kernel, by decide +kernel, by decide +kernel⟩, rfl, by decide⟩
def s_X12_place_L45 (N : Nat) : Nat → Nat → Int32 → Int32 → Int32 → IH → Option (Int32 × IH)
  | 0, _, _, _, _, _ => none
  | n + 1, th, x2, x3, x4, h => (gI h 12 1 (some th)).bind fun v11 => if v11 ≤ x4 then some (x3, h) else (cV h 12 (some th) fun a19 => s_X12_isPlaced h a19 x4).bind fun v13 => ((if v13 = 0 then some (0, h) else (cV h 12 (some th) fun a17 => s_X12_totalOrNone N h a17 x4).bind fun v15 => if v15.1 ≤ x2 then some (0, v15.2) else some (1, v15.2)) : Option (Int32 × IH)).bind fun q18 => s_X12_place_L45 N n th x2 (x3 + q18.1) (x4 + 1) q18.2
def s_X12_place (N : Nat) (h : IH) (th : Nat) (a0 : Int32) : Option (Int32 × IH) := (cV h 12 (some th) fun a24 => s_X12_begin N h a24 a0).bind fun v1 => (cV v1 12 (some th) fun a23 => s_X12_isStation v1 a23 a0).bind fun v2 => if v2 = 0 then (cV v1 12 (some th) fun a5 => s_X12_found v1 a5 4).bind fun v4 => some (v4.1, v4.2) else (cV v1 12 (some th) fun a22 => s_X12_isPlaced v1 a22 a0).bind fun v6 => if v6 = 0 then (cV v1 12 (some th) fun a9 => s_X12_found v1 a9 7).bind fun v8 => some (v8.1, v8.2) else (cV v1 12 (some th) fun a21 => s_X12_totalOrNone N v1 a21 a0).bind fun v10 => (s_X12_place_L45 N N th v10.1 1 0 v10.2).bind fun q20 => some (q20.1, q20.2)
set_option maxHeartbeats 4000000 in
set_option maxRecDepth 100000 in
theorem w_X12_place_L45 {p : Program} {l : Launch} {e : Env} {s : State} {m : MethodId} {args : Array Value} {below : List Frame} {meth : Method} {c : Code} {D : va_G} {cy : Nat → ClassId} {A : Nat → Prop} {H0 : Heap} {N th : Nat} {x2 : Int32} {qF : Int32 × IH} (F : Fx p s m args meth c D cy A H0 yX12_place cX12_place 5 (some .int)) : ∀ (n : Nat) (x3 : Int32) (x4 : Int32) (h : IH) (ls : Array Slot) (H : Heap) (locs : List Loc) (q : Int32 × IH), s_X12_place_L45 N n th x2 x3 x4 h = some q → lv_has ls 5 [(0, .ref th), (2, .int x2), (3, .int x3), (4, .int x4)] → Mo D cy A H0 h H locs → (∀ (t : Int32 × IH) (ls : Array Slot) (H : Heap) (locs : List Loc), q = t → lv_has ls 5 [(3, .int t.1)] → Mo D cy A H0 t.2 H locs → W p l e rm_X12_place s m args below meth c H locs 0 0 (MQ below (QR D cy qF.2 A (some (.int qF.1))) args s 0 0 A) (F0 m 87 ls [])) → (∀ v : Int32 × IH, False → v = qF) → W p l e rm_X12_place s m args below meth c H locs 0 0 (MQ below (QR D cy qF.2 A (some (.int qF.1))) args s 0 0 A) (F0 m 45 ls []) := by
  intro n
  induction n with
  | zero => intro x3 x4 h ls H locs q hs; rw [s_X12_place_L45.eq_1] at hs; cases hs
  | succ n ih =>
    intro x3 x4 h ls H locs q hs hl M kx kr
    obtain ⟨hx, hb, hr, hml, hown, hlk, hts, hK, hN, hA, hH⟩ := id F
    rw [s_X12_place_L45.eq_2] at hs
    refine lv_iload hx hb dX12_place_45 (lv_at hl 3 rfl) ?_
    refine lv_aload_n hx hb dX12_place_47 rfl (lv_at hl 0 rfl) ?_
    obtain ⟨v11, g_v11, hs⟩ := bd hs
    refine ro_gI F M fg_12_1 t_1007 g_v11 dX12_place_48 ?_
    refine lv_icmp_ge (tgt := 87) hx hb dX12_place_51 (by decide) (fun c12 => ?_) (fun c12 => ?_)
    · rw [if_pos c12] at hs
      exact kx (x3, h) _ _ _ (Option.some.inj hs).symm (lv_sub hl [2] rfl) M
    · rw [if_neg c12] at hs
      refine lv_iload_n hx hb dX12_place_54 rfl (lv_at hl 2 rfl) ?_
      refine lv_aload_n hx hb dX12_place_55 rfl (lv_at hl 0 rfl) ?_
      refine lv_iload hx hb dX12_place_56 (lv_at hl 3 rfl) ?_
      obtain ⟨v13, g_v13, hs⟩ := bd hs
      obtain ⟨a19, e_a19, k_a19, g_v13⟩ := cV_some g_v13
      obtain rfl := Option.some.inj e_a19
      refine ca_Vi (bq := th) (As := [.int x4]) (rest := [.int x3]) F M (c_X12_isPlaced g_v13) mf_X12_isPlaced t_1519 k_a19 rfl ⟨by decide, by decide⟩ ⟨rfl, rfl⟩ ⟨Nat.zero_le _, Nat.zero_le _⟩ hl.1 rfl (by simp [cat_rf, cat_i, cat_j, cat_r]) dX12_place_58 (fun H locs M => ?_)
      obtain ⟨q18, hsq18, hs⟩ := bd hs
      have KJ79 : ∀ (ls : Array Slot) (H : Heap) (locs : List Loc), lv_has ls 5 [(0, .ref th), (2, .int x2), (4, .int x4)] → Mo D cy A H0 q18.2 H locs → W p l e rm_X12_place s m args below meth c H locs 0 0 (MQ below (QR D cy qF.2 A (some (.int qF.1))) args s 0 0 A) (F0 m 79 ls [.int q18.1, .int x3]) := by
        intro ls H locs hl M
        refine lv_iadd hx hb dX12_place_79 ?_
        refine lv_istore_n (i := 3) (lv' := [(3, .int (x3 + q18.1)), (0, .ref th), (2, .int x2), (4, .int x4)]) hx hb dX12_place_80 rfl hl (by decide) rfl (fun ls hl => ?_)
        refine lv_iinc (v := x4 + 1) (lv' := [(4, .int (x4 + 1)), (3, .int (x3 + q18.1)), (0, .ref th), (2, .int x2)]) hx hb dX12_place_81 hl (k := 3) rfl rfl (by decide) rfl (fun ls hl => ?_)
        refine lv_goto (tgt := 45) hx hb dX12_place_84 (by decide) ?_
        exact ih (x3 + q18.1) (x4 + 1) q18.2 _ _ _ _ hs (lv_sub hl [2, 3, 1, 0] rfl) M kx kr
      clear hs
      have hs := hsq18
      refine lv_if_eq (tgt := 78) hx hb dX12_place_61 (by decide) (fun c14 => ?_) (fun c14 => ?_)
      · rw [if_pos c14] at hs
        refine lv_iconst (v := 0) hx hb dX12_place_78 (by decide) ?_
        obtain rfl := Option.some.inj hs
        exact KJ79 _ _ _ (lv_sub hl [0, 1, 3] rfl) M
      · rw [if_neg c14] at hs
        refine lv_aload_n hx hb dX12_place_64 rfl (lv_at hl 0 rfl) ?_
        refine lv_iload hx hb dX12_place_65 (lv_at hl 3 rfl) ?_
        obtain ⟨v15, g_v15, hs⟩ := bd hs
        obtain ⟨a17, e_a17, k_a17, g_v15⟩ := cV_some g_v15
        obtain rfl := Option.some.inj e_a17
        refine ca_Vi (bq := th) (As := [.int x4]) (rest := [.int x3]) F M (c_X12_totalOrNone g_v15) mf_X12_totalOrNone t_1523 k_a17 rfl ⟨by decide, by decide⟩ ⟨rfl, rfl⟩ ⟨Nat.zero_le _, Nat.zero_le _⟩ hl.1 rfl (by simp [cat_rf, cat_i, cat_j, cat_r]) dX12_place_67 (fun H locs M => ?_)
        refine lv_iload_n hx hb dX12_place_70 rfl (lv_at hl 1 rfl) ?_
        refine lv_icmp_le (tgt := 78) hx hb dX12_place_71 (by decide) (fun c16 => ?_) (fun c16 => ?_)
        · rw [if_pos c16] at hs
          refine lv_iconst (v := 0) hx hb dX12_place_78 (by decide) ?_
          obtain rfl := Option.some.inj hs
          exact KJ79 _ _ _ (lv_sub hl [0, 1, 3] rfl) M
        · rw [if_neg c16] at hs
          refine lv_iconst (v := 1) hx hb dX12_place_74 (by decide) ?_
          refine lv_goto (tgt := 79) hx hb dX12_place_75 (by decide) ?_
          obtain rfl := Option.some.inj hs
          exact KJ79 _ _ _ (lv_sub hl [0, 1, 3] rfl) M
set_option maxHeartbeats 4000000 in
set_option maxRecDepth 100000 in
theorem c_X12_place {l : Launch} {D : va_G} {cy : Nat → ClassId} {sz N : Nat} {h : IH} {th : Nat} {a0 : Int32} {qF : Int32 × IH} (hs : s_X12_place N h th a0 = some qF) : Ct l D cy yX12_place cX12_place 5 (some .int) rm_X12_place h sz [.ref th, .int a0] qF.2 (some (.int qF.1)) := by
  refine ct_start (by decide +kernel) [(0, .ref th), (1, .int a0)] (Nat.le_of_ble_eq_true rfl) rfl ?_
  intro p e s m args below meth c A H0 ls F hin hsz M hl
  obtain ⟨hx, hb, hr, hml, hown, hlk, hts, hK, hN, hA, hH⟩ := id F
  generalize s.heap = H at M ⊢
  generalize ([] : List Loc) = locs at M ⊢
  unfold s_X12_place at hs
  refine lv_aload_n hx hb dX12_place_0 rfl (lv_at hl 0 rfl) ?_
  refine lv_iload_n hx hb dX12_place_1 rfl (lv_at hl 1 rfl) ?_
  obtain ⟨v1, g_v1, hs⟩ := bd hs
  obtain ⟨a24, e_a24, k_a24, g_v1⟩ := cV_some g_v1
  obtain rfl := Option.some.inj e_a24
  refine ca_Vv (bq := th) (As := [.int a0]) (rest := []) F M (c_X12_begin g_v1) mf_X12_begin t_1340 k_a24 rfl ⟨by decide, by decide⟩ ⟨rfl, rfl⟩ ⟨Nat.zero_le _, Nat.zero_le _⟩ hl.1 rfl (by decide) dX12_place_2 (fun H locs M => ?_)
  refine lv_aload_n hx hb dX12_place_5 rfl (lv_at hl 0 rfl) ?_
  refine lv_iload_n hx hb dX12_place_6 rfl (lv_at hl 1 rfl) ?_
  obtain ⟨v2, g_v2, hs⟩ := bd hs
  obtain ⟨a23, e_a23, k_a23, g_v2⟩ := cV_some g_v2
  obtain rfl := Option.some.inj e_a23
  refine ca_Vi (bq := th) (As := [.int a0]) (rest := []) F M (c_X12_isStation g_v2) mf_X12_isStation t_1259 k_a23 rfl ⟨by decide, by decide⟩ ⟨rfl, rfl⟩ ⟨Nat.zero_le _, Nat.zero_le _⟩ hl.1 rfl (by decide) dX12_place_7 (fun H locs M => ?_)
  refine lv_if_ne (tgt := 19) hx hb dX12_place_10 (by decide) (fun c3 => ?_) (fun c3 => ?_)
  · rw [if_neg c3] at hs
    refine lv_aload_n hx hb dX12_place_19 rfl (lv_at hl 0 rfl) ?_
    refine lv_iload_n hx hb dX12_place_20 rfl (lv_at hl 1 rfl) ?_
    obtain ⟨v6, g_v6, hs⟩ := bd hs
    obtain ⟨a22, e_a22, k_a22, g_v6⟩ := cV_some g_v6
    obtain rfl := Option.some.inj e_a22
    refine ca_Vi (bq := th) (As := [.int a0]) (rest := []) F M (c_X12_isPlaced g_v6) mf_X12_isPlaced t_1519 k_a22 rfl ⟨by decide, by decide⟩ ⟨rfl, rfl⟩ ⟨Nat.zero_le _, Nat.zero_le _⟩ hl.1 rfl (by decide) dX12_place_21 (fun H locs M => ?_)
    refine lv_if_ne (tgt := 34) hx hb dX12_place_24 (by decide) (fun c7 => ?_) (fun c7 => ?_)
    · rw [if_neg c7] at hs
      refine lv_aload_n hx hb dX12_place_34 rfl (lv_at hl 0 rfl) ?_
      refine lv_iload_n hx hb dX12_place_35 rfl (lv_at hl 1 rfl) ?_
      obtain ⟨v10, g_v10, hs⟩ := bd hs
      obtain ⟨a21, e_a21, k_a21, g_v10⟩ := cV_some g_v10
      obtain rfl := Option.some.inj e_a21
      refine ca_Vi (bq := th) (As := [.int a0]) (rest := []) F M (c_X12_totalOrNone g_v10) mf_X12_totalOrNone t_1523 k_a21 rfl ⟨by decide, by decide⟩ ⟨rfl, rfl⟩ ⟨Nat.zero_le _, Nat.zero_le _⟩ hl.1 rfl (by decide) dX12_place_36 (fun H locs M => ?_)
      refine lv_istore_n (i := 2) (lv' := [(2, .int v10.1), (0, .ref th), (1, .int a0)]) hx hb dX12_place_39 rfl hl (by decide) rfl (fun ls hl => ?_)
      refine lv_iconst (v := 1) hx hb dX12_place_40 (by decide) ?_
      refine lv_istore_n (i := 3) (lv' := [(3, .int 1), (2, .int v10.1), (0, .ref th), (1, .int a0)]) hx hb dX12_place_41 rfl hl (by decide) rfl (fun ls hl => ?_)
      refine lv_iconst (v := 0) hx hb dX12_place_42 (by decide) ?_
      refine lv_istore (i := 4) (lv' := [(4, .int 0), (3, .int 1), (2, .int v10.1), (0, .ref th), (1, .int a0)]) hx hb dX12_place_43 hl (by decide) rfl (fun ls hl => ?_)
      obtain ⟨q20, g_q20, hs⟩ := bd hs
      refine w_X12_place_L45 F N 1 0 v10.2 _ _ _ q20 g_q20 (lv_sub hl [3, 2, 1, 0] rfl) M (fun t_ ls H locs eq_ hl M => ?_) (fun v eq_ => eq_.elim)
      subst eq_
      refine lv_iload_n hx hb dX12_place_87 rfl (lv_at hl 0 rfl) ?_
      obtain rfl := Option.some.inj hs
      exact re_i F M dX12_place_88
    · rw [if_pos c7] at hs
      refine lv_aload_n hx hb dX12_place_27 rfl (lv_at hl 0 rfl) ?_
      refine lv_bipush (v := 7) hx hb dX12_place_28 (by decide) ?_
      obtain ⟨v8, g_v8, hs⟩ := bd hs
      obtain ⟨a9, e_a9, k_a9, g_v8⟩ := cV_some g_v8
      obtain rfl := Option.some.inj e_a9
      refine ca_Vi (bq := th) (As := [.int 7]) (rest := []) F M (c_X12_found g_v8) mf_X12_found t_1408 k_a9 rfl ⟨by decide, by decide⟩ ⟨rfl, rfl⟩ ⟨Nat.zero_le _, Nat.zero_le _⟩ hl.1 rfl (by decide) dX12_place_30 (fun H locs M => ?_)
      obtain rfl := Option.some.inj hs
      exact re_i F M dX12_place_33
  · rw [if_pos c3] at hs
    refine lv_aload_n hx hb dX12_place_13 rfl (lv_at hl 0 rfl) ?_
    refine lv_iconst (v := 4) hx hb dX12_place_14 (by decide) ?_
    obtain ⟨v4, g_v4, hs⟩ := bd hs
    obtain ⟨a5, e_a5, k_a5, g_v4⟩ := cV_some g_v4
    obtain rfl := Option.some.inj e_a5
    refine ca_Vi (bq := th) (As := [.int 4]) (rest := []) F M (c_X12_found g_v4) mf_X12_found t_1408 k_a5 rfl ⟨by decide, by decide⟩ ⟨rfl, rfl⟩ ⟨Nat.zero_le _, Nat.zero_le _⟩ hl.1 rfl (by decide) dX12_place_15 (fun H locs M => ?_)
    obtain rfl := Option.some.inj hs
    exact re_i F M dX12_place_18
abbrev rm_X12_publish : Room := { frames := 48, cells := 0, slots := 0, locals := 1191 }
theorem mf_X12_publish : MV 12 yX12_publish cX12_publish 2 (some .int) 0 RX12 := ⟨t_1530, t_1528, t_1529, t_12, ⟨by decide +kernel, by decide +kernel, by decide +kernel⟩, rfl, by decide⟩
def s_X12_publish_L53 (N : Nat) : Nat → Nat → Int32 → IH → Option (IH)
  | 0, _, _, _ => none
  | n + 1, th, x1, h => (gI h 12 1 (some th)).bind fun v14 => if v14 ≤ x1 then some h else (gR h 12 35 (some th)).bind fun v16 => (gI h 12 32 (some th)).bind fun v17 => (cV h 12 (some th) fun a20 => s_X12_totalOrNone N h a20 x1).bind fun v18 => (sI v18.2 v16 ((12 * v17) + x1) v18.1).bind fun h19 => s_X12_publish_L53 N n th (x1 + 1) h19
def s_X12_publish (N : Nat) (h : IH) (th : Nat) : Option (Int32 × IH) := (gI h 12 32 (some th)).bind fun v1 => if v1 = 20 then some ((-1), h) else (cV h 12 (some th) fun a25 => s_X12_check N h a25 ).bind fun v3 => (gI v3 12 0 (some th)).bind fun v4 => (pI v3 12 0 (some th) (v4 + 1)).bind fun h5 => (gR h5 12 33 (some th)).bind fun v6 => (gI h5 12 32 (some th)).bind fun v7 => (gI h5 12 0 (some th)).bind fun v8 => (sI h5 v6 v7 v8).bind fun h9 => (gR h9 12 34 (some th)).bind fun v10 => (gI h9 12 32 (some th)).bind fun v11 => (gI h9 12 1 (some th)).bind fun v12 => (sI h9 v10 v11 v12).bind fun h13 => (s_X12_publish_L53 N N th 0 h13).bind fun q21 => (gI q21 12 32 (some th)).bind fun v22 => (pI q21 12 32 (some th) (v22 + 1)).bind fun h23 => (gI h23 12 0 (some th)).bind fun v24 => some (v24, h23)
set_option maxHeartbeats 4000000 in
set_option maxRecDepth 100000 in
theorem w_X12_publish_L53 {p : Program} {l : Launch} {e : Env} {s : State} {m : MethodId} {args : Array Value} {below : List Frame} {meth : Method} {c : Code} {D : va_G} {cy : Nat → ClassId} {A : Nat → Prop} {H0 : Heap} {N th : Nat} {qF : Int32 × IH} (F : Fx p s m args meth c D cy A H0 yX12_publish cX12_publish 2 (some .int)) : ∀ (n : Nat) (x1 : Int32) (h : IH) (ls : Array Slot) (H : Heap) (locs : List Loc) (q : IH), s_X12_publish_L53 N n th x1 h = some q → lv_has ls 2 [(0, .ref th), (1, .int x1)] → Mo D cy A H0 h H locs → (∀ (t : IH) (ls : Array Slot) (H : Heap) (locs : List Loc), q = t → lv_has ls 2 [(0, .ref th)] → Mo D cy A H0 t H locs → W p l e rm_X12_publish s m args below meth c H locs 0 0 (MQ below (QR D cy qF.2 A (some (.int qF.1))) args s 0 0 A) (F0 m 86 ls [])) → (∀ v : Int32 × IH, False → v = qF) → W p l e rm_X12_publish s m args below meth c H locs 0 0 (MQ below (QR D cy qF.2 A (some (.int qF.1))) args s 0 0 A) (F0 m 53 ls []) := by
  intro n
  induction n with
  | zero => intro x1 h ls H locs q hs; rw [s_X12_publish_L53.eq_1] at hs; cases hs
  | succ n ih =>
    intro x1 h ls H locs q hs hl M kx kr
    obtain ⟨hx, hb, hr, hml, hown, hlk, hts, hK, hN, hA, hH⟩ := id F
    rw [s_X12_publish_L53.eq_2] at hs
    refine lv_iload_n hx hb dX12_publish_53 rfl (lv_at hl 1 rfl) ?_
    refine lv_aload_n hx hb dX12_publish_54 rfl (lv_at hl 0 rfl) ?_
    obtain ⟨v14, g_v14, hs⟩ := bd hs
    refine ro_gI F M fg_12_1 t_1007 g_v14 dX12_publish_55 ?_
    refine lv_icmp_ge (tgt := 86) hx hb dX12_publish_58 (by decide) (fun c15 => ?_) (fun c15 => ?_)
    · rw [if_pos c15] at hs
      exact kx h _ _ _ (Option.some.inj hs).symm (lv_sub hl [0] rfl) M
    · rw [if_neg c15] at hs
      refine lv_aload_n hx hb dX12_publish_61 rfl (lv_at hl 0 rfl) ?_
      obtain ⟨v16, g_v16, hs⟩ := bd hs
      refine ro_gR F M fg_12_35 t_1041 g_v16 dX12_publish_62 ?_
      refine lv_bipush (v := 12) hx hb dX12_publish_65 (by decide) ?_
      refine lv_aload_n hx hb dX12_publish_67 rfl (lv_at hl 0 rfl) ?_
      obtain ⟨v17, g_v17, hs⟩ := bd hs
      refine ro_gI F M fg_12_32 t_1038 g_v17 dX12_publish_68 ?_
      refine lv_imul hx hb dX12_publish_71 ?_
      refine lv_iload_n hx hb dX12_publish_72 rfl (lv_at hl 1 rfl) ?_
      refine lv_iadd hx hb dX12_publish_73 ?_
      refine lv_aload_n hx hb dX12_publish_74 rfl (lv_at hl 0 rfl) ?_
      refine lv_iload_n hx hb dX12_publish_75 rfl (lv_at hl 1 rfl) ?_
      obtain ⟨v18, g_v18, hs⟩ := bd hs
      obtain ⟨a20, e_a20, k_a20, g_v18⟩ := cV_some g_v18
      obtain rfl := Option.some.inj e_a20
      refine ca_Vi (bq := th) (As := [.int x1]) (rest := [.int ((12 * v17) + x1), va_rf v16]) F M (c_X12_totalOrNone g_v18) mf_X12_totalOrNone t_1523 k_a20 rfl ⟨by decide, by decide⟩ ⟨rfl, rfl⟩ ⟨Nat.zero_le _, Nat.zero_le _⟩ hl.1 rfl (by simp [cat_rf, cat_i, cat_j, cat_r]) dX12_publish_76 (fun H locs M => ?_)
      obtain ⟨h19, g_h19, hs⟩ := bd hs
      refine ro_sI F M g_h19 dX12_publish_79 (fun H locs M => ?_)
      refine lv_iinc (v := x1 + 1) (lv' := [(1, .int (x1 + 1)), (0, .ref th)]) hx hb dX12_publish_80 hl (k := 1) rfl rfl (by decide) rfl (fun ls hl => ?_)
      refine lv_goto (tgt := 53) hx hb dX12_publish_83 (by decide) ?_
      exact ih (x1 + 1) h19 _ _ _ _ hs (lv_sub hl [1, 0] rfl) M kx kr
set_option maxHeartbeats 4000000 in
set_option maxRecDepth 100000 in
theorem c_X12_publish {l : Launch} {D : va_G} {cy : Nat → ClassId} {sz N : Nat} {h : IH} {th : Nat} {qF : Int32 × IH} (hs : s_X12_publish N h th = some qF) : Ct l D cy yX12_publish cX12_publish 2 (some .int) rm_X12_publish h sz [.ref th] qF.2 (some (.int qF.1)) := by
  refine ct_start (by decide +kernel) [(0, .ref th)] (Nat.le_of_ble_eq_true rfl) rfl ?_
  intro p e s m args below meth c A H0 ls F hin hsz M hl
  obtain ⟨hx, hb, hr, hml, hown, hlk, hts, hK, hN, hA, hH⟩ := id F
  generalize s.heap = H at M ⊢
  generalize ([] : List Loc) = locs at M ⊢
  unfold s_X12_publish at hs
  refine lv_aload_n hx hb dX12_publish_0 rfl (lv_at hl 0 rfl) ?_
  obtain ⟨v1, g_v1, hs⟩ := bd hs
  refine ro_gI F M fg_12_32 t_1038 g_v1 dX12_publish_1 ?_
  refine lv_bipush (v := 20) hx hb dX12_publish_4 (by decide) ?_
  refine lv_icmp_ne (tgt := 11) hx hb dX12_publish_6 (by decide) (fun c2 => ?_) (fun c2 => ?_)
  · rw [if_neg c2] at hs
    refine lv_aload_n hx hb dX12_publish_11 rfl (lv_at hl 0 rfl) ?_
    obtain ⟨v3, g_v3, hs⟩ := bd hs
    obtain ⟨a25, e_a25, k_a25, g_v3⟩ := cV_some g_v3
    obtain rfl := Option.some.inj e_a25
    refine ca_Vv (bq := th) (As := []) (rest := []) F M (c_X12_check g_v3) mf_X12_check t_1344 k_a25 rfl ⟨by decide, by decide⟩ ⟨rfl, rfl⟩ ⟨Nat.zero_le _, Nat.zero_le _⟩ hl.1 rfl (by decide) dX12_publish_12 (fun H locs M => ?_)
    refine lv_aload_n hx hb dX12_publish_15 rfl (lv_at hl 0 rfl) ?_
    refine lv_dup hx hb dX12_publish_16 rfl ?_
    obtain ⟨v4, g_v4, hs⟩ := bd hs
    refine ro_gI F M fg_12_0 t_1006 g_v4 dX12_publish_17 ?_
    refine lv_iconst (v := 1) hx hb dX12_publish_20 (by decide) ?_
    refine lv_iadd hx hb dX12_publish_21 ?_
    obtain ⟨h5, g_h5, hs⟩ := bd hs
    refine ro_pI F M fg_12_0 fp_12_0 rfl t_1006 g_h5 dX12_publish_22 (fun H locs M => ?_)
    refine lv_aload_n hx hb dX12_publish_25 rfl (lv_at hl 0 rfl) ?_
    obtain ⟨v6, g_v6, hs⟩ := bd hs
    refine ro_gR F M fg_12_33 t_1039 g_v6 dX12_publish_26 ?_
    refine lv_aload_n hx hb dX12_publish_29 rfl (lv_at hl 0 rfl) ?_
    obtain ⟨v7, g_v7, hs⟩ := bd hs
    refine ro_gI F M fg_12_32 t_1038 g_v7 dX12_publish_30 ?_
    refine lv_aload_n hx hb dX12_publish_33 rfl (lv_at hl 0 rfl) ?_
    obtain ⟨v8, g_v8, hs⟩ := bd hs
    refine ro_gI F M fg_12_0 t_1006 g_v8 dX12_publish_34 ?_
    obtain ⟨h9, g_h9, hs⟩ := bd hs
    refine ro_sI F M g_h9 dX12_publish_37 (fun H locs M => ?_)
    refine lv_aload_n hx hb dX12_publish_38 rfl (lv_at hl 0 rfl) ?_
    obtain ⟨v10, g_v10, hs⟩ := bd hs
    refine ro_gR F M fg_12_34 t_1040 g_v10 dX12_publish_39 ?_
    refine lv_aload_n hx hb dX12_publish_42 rfl (lv_at hl 0 rfl) ?_
    obtain ⟨v11, g_v11, hs⟩ := bd hs
    refine ro_gI F M fg_12_32 t_1038 g_v11 dX12_publish_43 ?_
    refine lv_aload_n hx hb dX12_publish_46 rfl (lv_at hl 0 rfl) ?_
    obtain ⟨v12, g_v12, hs⟩ := bd hs
    refine ro_gI F M fg_12_1 t_1007 g_v12 dX12_publish_47 ?_
    obtain ⟨h13, g_h13, hs⟩ := bd hs
    refine ro_sI F M g_h13 dX12_publish_50 (fun H locs M => ?_)
    refine lv_iconst (v := 0) hx hb dX12_publish_51 (by decide) ?_
    refine lv_istore_n (i := 1) (lv' := [(1, .int 0), (0, .ref th)]) hx hb dX12_publish_52 rfl hl (by decide) rfl (fun ls hl => ?_)
    obtain ⟨q21, g_q21, hs⟩ := bd hs
    refine w_X12_publish_L53 F N 0 h13 _ _ _ q21 g_q21 (lv_sub hl [1, 0] rfl) M (fun t_ ls H locs eq_ hl M => ?_) (fun v eq_ => eq_.elim)
    subst eq_
    refine lv_aload_n hx hb dX12_publish_86 rfl (lv_at hl 0 rfl) ?_
    refine lv_dup hx hb dX12_publish_87 rfl ?_
    obtain ⟨v22, g_v22, hs⟩ := bd hs
    refine ro_gI F M fg_12_32 t_1038 g_v22 dX12_publish_88 ?_
    refine lv_iconst (v := 1) hx hb dX12_publish_91 (by decide) ?_
    refine lv_iadd hx hb dX12_publish_92 ?_
    obtain ⟨h23, g_h23, hs⟩ := bd hs
    refine ro_pI F M fg_12_32 fp_12_32 rfl t_1038 g_h23 dX12_publish_93 (fun H locs M => ?_)
    refine lv_aload_n hx hb dX12_publish_96 rfl (lv_at hl 0 rfl) ?_
    obtain ⟨v24, g_v24, hs⟩ := bd hs
    refine ro_gI F M fg_12_0 t_1006 g_v24 dX12_publish_97 ?_
    obtain rfl := Option.some.inj hs
    exact re_i F M dX12_publish_100
  · rw [if_pos c2] at hs
    refine lv_iconst (v := (-1)) hx hb dX12_publish_9 (by decide) ?_
    obtain rfl := Option.some.inj hs
    exact re_i F M dX12_publish_10
