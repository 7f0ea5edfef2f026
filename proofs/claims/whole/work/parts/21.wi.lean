abbrev rm_X12_rule : Room := { frames := 3, cells := 0, slots := 0, locals := 68 }
theorem mf_X12_rule : MV 12 yX12_rule cX12_rule 4 (some .int) 0 RX12 := ⟨t_1312, t_1310, t_1311, t_12, ⟨by decide +kernel, by decide +kernel, by decide +kernel⟩, rfl, by decide⟩
def s_X12_rule_L148 (N : Nat) : Nat → Nat → Int32 → Int32 → IH → Option (Int32 × IH)
  | 0, _, _, _, _ => none
  | n + 1, th, x1, x2, h => if x2 ≤ 0 then some (x2, h) else (gR h 12 51 (some th)).bind fun v32 => (aI h v32 x2).bind fun v33 => if v33 = 0 then (gR h 12 51 (some th)).bind fun v35 => (aI h v35 (x2 + (-1))).bind fun v36 => (sI h v35 (x2 + (-1)) (v36 - 1)).bind fun h37 => s_X12_rule_L148 N n th x1 (x2 + (-1)) h37 else some (x2, h)
def s_X12_rule_L29 (N : Nat) : Nat → Nat → Int32 → Int32 → IH → Option ((Int32 × IH) ⊕ (Int32 × IH))
  | 0, _, _, _, _ => none
  | n + 1, th, x1, x2, h => (gR h 12 51 (some th)).bind fun v7 => (aI h v7 0).bind fun v8 => if v8 ≤ 0 then some (.inr (x1, h)) else (cV h 12 (some th) fun a66 => s_X12_next N h a66 ).bind fun v10 => (cV v10 12 (some th) fun a65 => s_X12_wordHere N v10 a65 ).bind fun v11 => if v11 < 0 then (gI v10 12 42 (some th)).bind fun v13 => some (.inl ((-1) - v13, v10)) else if x1 = 30 then (gI v10 12 42 (some th)).bind fun v15 => some (.inl ((-1) - v15, v10)) else (s_X12_isOperator v10 v11).bind fun v16 => if v16 = 0 then (gR v10 12 26 (some th)).bind fun v18 => (sI v10 v18 x1 v11).bind fun h19 => (gR h19 12 27 (some th)).bind fun v20 => ((if v11 = 10 then (cV h19 12 (some th) fun a23 => s_X12_numberHere N h19 a23 ).bind fun v22 => some v22.toInt32 else some 0) : Option (Int32)).bind fun q24 => (sI h19 v20 x1 q24).bind fun h25 => (s_X12_isOperator h25 v11).bind fun v26 => ((if v26 = 0 then (gR h25 12 51 (some th)).bind fun v28 => (aI h25 v28 x2).bind fun v29 => (sI h25 v28 x2 (v29 - 1)).bind fun h30 => (s_X12_rule_L148 N N th (x1 + 1) x2 h30).bind fun q38 => some (q38.1, q38.2) else (gR h25 12 51 (some th)).bind fun v39 => ((if v11 = 9 then some 3 else some 2) : Option (Int32)).bind fun q41 => (sI h25 v39 (x2 + 1) q41).bind fun h42 => some (x2 + 1, h42)) : Option (Int32 × IH)).bind fun q43 => s_X12_rule_L29 N n th (x1 + 1) q43.1 q43.2 else if x2 = 8 then (gI v10 12 42 (some th)).bind fun v45 => some (.inl ((-1) - v45, v10)) else (gR v10 12 26 (some th)).bind fun v46 => (sI v10 v46 x1 v11).bind fun h47 => (gR h47 12 27 (some th)).bind fun v48 => ((if v11 = 10 then (cV h47 12 (some th) fun a51 => s_X12_numberHere N h47 a51 ).bind fun v50 => some v50.toInt32 else some 0) : Option (Int32)).bind fun q52 => (sI h47 v48 x1 q52).bind fun h53 => (s_X12_isOperator h53 v11).bind fun v54 => ((if v54 = 0 then (gR h53 12 51 (some th)).bind fun v56 => (aI h53 v56 x2).bind fun v57 => (sI h53 v56 x2 (v57 - 1)).bind fun h58 => (s_X12_rule_L148 N N th (x1 + 1) x2 h58).bind fun q59 => some (q59.1, q59.2) else (gR h53 12 51 (some th)).bind fun v60 => ((if v11 = 9 then some 3 else some 2) : Option (Int32)).bind fun q62 => (sI h53 v60 (x2 + 1) q62).bind fun h63 => some (x2 + 1, h63)) : Option (Int32 × IH)).bind fun q64 => s_X12_rule_L29 N n th (x1 + 1) q64.1 q64.2
def s_X12_rule_L205 (N : Nat) : Nat → Nat → Int32 → Int32 → IH → Option (IH)
  | 0, _, _, _, _ => none
  | n + 1, th, x1, x3, h => if x1 ≤ x3 then some h else (gR h 12 24 (some th)).bind fun v74 => (gR h 12 26 (some th)).bind fun v75 => (aI h v75 x3).bind fun v76 => (sI h v74 x3 v76).bind fun h77 => (gR h77 12 25 (some th)).bind fun v78 => (gR h77 12 27 (some th)).bind fun v79 => (aI h77 v79 x3).bind fun v80 => (sI h77 v78 x3 v80).bind fun h81 => s_X12_rule_L205 N n th x1 (x3 + 1) h81
def s_X12_rule (N : Nat) (h : IH) (th : Nat) : Option (Int32 × IH) := (pI h 12 40 (some th) 0).bind fun h1 => (gI h1 12 29 (some th)).bind fun v2 => (pI h1 12 41 (some th) v2).bind fun h3 => (pI h3 12 29 (some th) 0).bind fun h4 => (gR h4 12 51 (some th)).bind fun v5 => (sI h4 v5 0 1).bind fun h6 => (s_X12_rule_L29 N N th 0 0 h6).bind fun q67 => Sum.elim (fun v => some v) (fun t68 => (cV t68.2 12 (some th) fun a84 => s_X12_next N t68.2 a84 ).bind fun v69 => (gI v69 12 43 (some th)).bind fun v70 => if v70 ≤ 0 then (pI v69 12 23 (some th) t68.1).bind fun h72 => (s_X12_rule_L205 N N th t68.1 0 h72).bind fun q82 => some (t68.1, q82) else (gI v69 12 42 (some th)).bind fun v83 => some ((-1) - v83, v69)) q67
set_option maxHeartbeats 4000000 in
set_option maxRecDepth 100000 in
theorem w_X12_rule_L148 {p : Program} {l : Launch} {e : Env} {s : State} {m : MethodId} {args : Array Value} {below : List Frame} {meth : Method} {c : Code} {D : va_G} {cy : Nat → ClassId} {A : Nat → Prop} {H0 : Heap} {N th : Nat} {x1 : Int32} {qF : Int32 × IH} (F : Fx p s m args meth c D cy A H0 yX12_rule cX12_rule 4 (some .int)) : ∀ (n : Nat) (x2 : Int32) (h : IH) (ls : Array Slot) (H : Heap) (locs : List Loc) (q : Int32 × IH), s_X12_rule_L148 N n th x1 x2 h = some q → lv_has ls 4 [(0, .ref th), (1, .int x1), (2, .int x2)] → Mo D cy A H0 h H locs → (∀ (t : Int32 × IH) (ls : Array Slot) (H : Heap) (locs : List Loc), q = t → lv_has ls 4 [(0, .ref th), (1, .int x1), (2, .int t.1)] → Mo D cy A H0 t.2 H locs → W p l e rm_X12_rule s m args below meth c H locs 0 0 (MQ below (QR D cy qF.2 A (some (.int qF.1))) args s 0 0 A) (F0 m 177 ls [])) → (∀ v : Int32 × IH, False → v = qF) → W p l e rm_X12_rule s m args below meth c H locs 0 0 (MQ below (QR D cy qF.2 A (some (.int qF.1))) args s 0 0 A) (F0 m 148 ls []) := by
  intro n
  induction n with
  | zero => intro x2 h ls H locs q hs; rw [s_X12_rule_L148.eq_1] at hs; cases hs
  | succ n ih =>
    intro x2 h ls H locs q hs hl M kx kr
    obtain ⟨hx, hb, hr, hml, hown, hlk, hts, hK, hN, hA, hH⟩ := id F
    rw [s_X12_rule_L148.eq_2] at hs
    refine lv_iload_n hx hb dX12_rule_148 rfl (lv_at hl 2 rfl) ?_
    refine lv_if_le (tgt := 177) hx hb dX12_rule_149 (by decide) (fun c31 => ?_) (fun c31 => ?_)
    · rw [if_pos c31] at hs
      exact kx (x2, h) _ _ _ (Option.some.inj hs).symm (lv_sub hl [0, 1, 2] rfl) M
    · rw [if_neg c31] at hs
      refine lv_aload_n hx hb dX12_rule_152 rfl (lv_at hl 0 rfl) ?_
      obtain ⟨v32, g_v32, hs⟩ := bd hs
      refine ro_gR F M fg_12_51 t_1057 g_v32 dX12_rule_153 ?_
      refine lv_iload_n hx hb dX12_rule_156 rfl (lv_at hl 2 rfl) ?_
      obtain ⟨v33, g_v33, hs⟩ := bd hs
      refine ro_aI F M g_v33 dX12_rule_157 ?_
      refine lv_if_ne (tgt := 177) hx hb dX12_rule_158 (by decide) (fun c34 => ?_) (fun c34 => ?_)
      · rw [if_neg c34] at hs
        exact kx (x2, h) _ _ _ (Option.some.inj hs).symm (lv_sub hl [0, 1, 2] rfl) M
      · rw [if_pos c34] at hs
        refine lv_iinc (v := x2 + (-1)) (lv' := [(2, .int (x2 + (-1))), (0, .ref th), (1, .int x1)]) hx hb dX12_rule_161 hl (k := 2) rfl rfl (by decide) rfl (fun ls hl => ?_)
        refine lv_aload_n hx hb dX12_rule_164 rfl (lv_at hl 1 rfl) ?_
        obtain ⟨v35, g_v35, hs⟩ := bd hs
        refine ro_gR F M fg_12_51 t_1057 g_v35 dX12_rule_165 ?_
        refine lv_iload_n hx hb dX12_rule_168 rfl (lv_at hl 0 rfl) ?_
        refine lv_dup2_11 hx hb dX12_rule_169 rfl (cat_rf _) ?_
        obtain ⟨v36, g_v36, hs⟩ := bd hs
        refine ro_aI F M g_v36 dX12_rule_170 ?_
        refine lv_iconst (v := 1) hx hb dX12_rule_171 (by decide) ?_
        refine lv_isub hx hb dX12_rule_172 ?_
        obtain ⟨h37, g_h37, hs⟩ := bd hs
        refine ro_sI F M g_h37 dX12_rule_173 (fun H locs M => ?_)
        refine lv_goto (tgt := 148) hx hb dX12_rule_174 (by decide) ?_
        exact ih (x2 + (-1)) h37 _ _ _ _ hs (lv_sub hl [1, 2, 0] rfl) M kx kr
set_option maxHeartbeats 4000000 in
set_option maxRecDepth 100000 in
theorem w_X12_rule_L29 {p : Program} {l : Launch} {e : Env} {s : State} {m : MethodId} {args : Array Value} {below : List Frame} {meth : Method} {c : Code} {D : va_G} {cy : Nat → ClassId} {A : Nat → Prop} {H0 : Heap} {N th : Nat} {qF : Int32 × IH} (F : Fx p s m args meth c D cy A H0 yX12_rule cX12_rule 4 (some .int)) : ∀ (n : Nat) (x1 : Int32) (x2 : Int32) (h : IH) (ls : Array Slot) (H : Heap) (locs : List Loc) (q : (Int32 × IH) ⊕ (Int32 × IH)), s_X12_rule_L29 N n th x1 x2 h = some q → lv_has ls 4 [(0, .ref th), (1, .int x1), (2, .int x2)] → Mo D cy A H0 h H locs → (∀ (t : Int32 × IH) (ls : Array Slot) (H : Heap) (locs : List Loc), q = .inr t → lv_has ls 4 [(0, .ref th), (1, .int t.1)] → Mo D cy A H0 t.2 H locs → W p l e rm_X12_rule s m args below meth c H locs 0 0 (MQ below (QR D cy qF.2 A (some (.int qF.1))) args s 0 0 A) (F0 m 180 ls [])) → (∀ v, q = .inl v → v = qF) → W p l e rm_X12_rule s m args below meth c H locs 0 0 (MQ below (QR D cy qF.2 A (some (.int qF.1))) args s 0 0 A) (F0 m 29 ls []) := by
  intro n
  induction n with
  | zero => intro x1 x2 h ls H locs q hs; rw [s_X12_rule_L29.eq_1] at hs; cases hs
  | succ n ih =>
    intro x1 x2 h ls H locs q hs hl M kx kr
    obtain ⟨hx, hb, hr, hml, hown, hlk, hts, hK, hN, hA, hH⟩ := id F
    rw [s_X12_rule_L29.eq_2] at hs
    refine lv_aload_n hx hb dX12_rule_29 rfl (lv_at hl 0 rfl) ?_
    obtain ⟨v7, g_v7, hs⟩ := bd hs
    refine ro_gR F M fg_12_51 t_1057 g_v7 dX12_rule_30 ?_
    refine lv_iconst (v := 0) hx hb dX12_rule_33 (by decide) ?_
    obtain ⟨v8, g_v8, hs⟩ := bd hs
    refine ro_aI F M g_v8 dX12_rule_34 ?_
    refine lv_if_le (tgt := 180) hx hb dX12_rule_35 (by decide) (fun c9 => ?_) (fun c9 => ?_)
    · rw [if_pos c9] at hs
      exact kx (x1, h) _ _ _ (Option.some.inj hs).symm (lv_sub hl [0, 1] rfl) M
    · rw [if_neg c9] at hs
      refine lv_aload_n hx hb dX12_rule_38 rfl (lv_at hl 0 rfl) ?_
      obtain ⟨v10, g_v10, hs⟩ := bd hs
      obtain ⟨a66, e_a66, k_a66, g_v10⟩ := cV_some g_v10
      obtain rfl := Option.some.inj e_a66
      refine ca_Vv (bq := th) (As := []) (rest := []) F M (c_X12_next g_v10) mf_X12_next t_1276 k_a66 rfl ⟨by decide, by decide⟩ ⟨rfl, rfl⟩ ⟨Nat.zero_le _, Nat.zero_le _⟩ hl.1 rfl (by decide) dX12_rule_39 (fun H locs M => ?_)
      refine lv_aload_n hx hb dX12_rule_42 rfl (lv_at hl 0 rfl) ?_
      obtain ⟨v11, g_v11, hs⟩ := bd hs
      obtain ⟨a65, e_a65, k_a65, g_v11⟩ := cV_some g_v11
      obtain rfl := Option.some.inj e_a65
      refine ca_Vi (bq := th) (As := []) (rest := []) F M (c_X12_wordHere g_v11) mf_X12_wordHere t_1313 k_a65 rfl ⟨by decide, by decide⟩ ⟨rfl, rfl⟩ ⟨Nat.zero_le _, Nat.zero_le _⟩ hl.1 rfl (by decide) dX12_rule_43 (fun H locs M => ?_)
      refine lv_istore_n (i := 3) (lv' := [(3, .int v11), (0, .ref th), (1, .int x1), (2, .int x2)]) hx hb dX12_rule_46 rfl hl (by decide) rfl (fun ls hl => ?_)
      refine lv_iload_n hx hb dX12_rule_47 rfl (lv_at hl 0 rfl) ?_
      refine lv_if_lt (tgt := 70) hx hb dX12_rule_48 (by decide) (fun c12 => ?_) (fun c12 => ?_)
      · rw [if_pos c12] at hs
        refine lv_iconst (v := (-1)) hx hb dX12_rule_70 (by decide) ?_
        refine lv_aload_n hx hb dX12_rule_71 rfl (lv_at hl 1 rfl) ?_
        obtain ⟨v13, g_v13, hs⟩ := bd hs
        refine ro_gI F M fg_12_42 t_1048 g_v13 dX12_rule_72 ?_
        refine lv_isub hx hb dX12_rule_75 ?_
        obtain rfl := kr _ (Option.some.inj hs).symm
        exact re_i F M dX12_rule_76
      · rw [if_neg c12] at hs
        refine lv_iload_n hx hb dX12_rule_51 rfl (lv_at hl 2 rfl) ?_
        refine lv_bipush (v := 30) hx hb dX12_rule_52 (by decide) ?_
        refine lv_icmp_eq (tgt := 70) hx hb dX12_rule_54 (by decide) (fun c14 => ?_) (fun c14 => ?_)
        · rw [if_pos c14] at hs
          refine lv_iconst (v := (-1)) hx hb dX12_rule_70 (by decide) ?_
          refine lv_aload_n hx hb dX12_rule_71 rfl (lv_at hl 1 rfl) ?_
          obtain ⟨v15, g_v15, hs⟩ := bd hs
          refine ro_gI F M fg_12_42 t_1048 g_v15 dX12_rule_72 ?_
          refine lv_isub hx hb dX12_rule_75 ?_
          obtain rfl := kr _ (Option.some.inj hs).symm
          exact re_i F M dX12_rule_76
        · rw [if_neg c14] at hs
          refine lv_iload_n hx hb dX12_rule_57 rfl (lv_at hl 0 rfl) ?_
          obtain ⟨v16, g_v16, hs⟩ := bd hs
          refine ca_Si (As := [.int v11]) (rest := []) F M (c_X12_isOperator g_v16) mf_X12_isOperator t_1321 rfl ⟨by decide, by decide⟩ ⟨rfl, rfl⟩ ⟨Nat.zero_le _, Nat.zero_le _⟩ hl.1 rfl (by decide) dX12_rule_58 (fun H locs M => ?_)
          refine lv_if_eq (tgt := 77) hx hb dX12_rule_61 (by decide) (fun c17 => ?_) (fun c17 => ?_)
          · rw [if_pos c17] at hs
            refine lv_aload_n hx hb dX12_rule_77 rfl (lv_at hl 1 rfl) ?_
            obtain ⟨v18, g_v18, hs⟩ := bd hs
            refine ro_gR F M fg_12_26 t_1032 g_v18 dX12_rule_78 ?_
            refine lv_iload_n hx hb dX12_rule_81 rfl (lv_at hl 2 rfl) ?_
            refine lv_iload_n hx hb dX12_rule_82 rfl (lv_at hl 0 rfl) ?_
            obtain ⟨h19, g_h19, hs⟩ := bd hs
            refine ro_sI F M g_h19 dX12_rule_83 (fun H locs M => ?_)
            refine lv_aload_n hx hb dX12_rule_84 rfl (lv_at hl 1 rfl) ?_
            obtain ⟨v20, g_v20, hs⟩ := bd hs
            refine ro_gR F M fg_12_27 t_1033 g_v20 dX12_rule_85 ?_
            refine lv_iload_n hx hb dX12_rule_88 rfl (lv_at hl 2 rfl) ?_
            refine lv_iload_n hx hb dX12_rule_89 rfl (lv_at hl 0 rfl) ?_
            refine lv_bipush (v := 10) hx hb dX12_rule_90 (by decide) ?_
            obtain ⟨q24, hsq24, hs⟩ := bd hs
            have KJ104 : ∀ (ls : Array Slot) (H : Heap) (locs : List Loc), lv_has ls 4 [(0, .ref th), (1, .int x1), (2, .int x2), (3, .int v11)] → Mo D cy A H0 h19 H locs → W p l e rm_X12_rule s m args below meth c H locs 0 0 (MQ below (QR D cy qF.2 A (some (.int qF.1))) args s 0 0 A) (F0 m 104 ls [.int q24, .int x1, va_rf v20]) := by
              intro ls H locs hl M
              obtain ⟨h25, g_h25, hs⟩ := bd hs
              refine ro_sI F M g_h25 dX12_rule_104 (fun H locs M => ?_)
              refine lv_iinc (v := x1 + 1) (lv' := [(1, .int (x1 + 1)), (0, .ref th), (2, .int x2), (3, .int v11)]) hx hb dX12_rule_105 hl (k := 1) rfl rfl (by decide) rfl (fun ls hl => ?_)
              refine lv_iload_n hx hb dX12_rule_108 rfl (lv_at hl 3 rfl) ?_
              obtain ⟨v26, g_v26, hs⟩ := bd hs
              refine ca_Si (As := [.int v11]) (rest := []) F M (c_X12_isOperator g_v26) mf_X12_isOperator t_1321 rfl ⟨by decide, by decide⟩ ⟨rfl, rfl⟩ ⟨Nat.zero_le _, Nat.zero_le _⟩ hl.1 rfl (by decide) dX12_rule_109 (fun H locs M => ?_)
              obtain ⟨q43, hsq43, hs⟩ := bd hs
              have KJ177 : ∀ (ls : Array Slot) (H : Heap) (locs : List Loc), lv_has ls 4 [(0, .ref th), (1, .int (x1 + 1)), (2, .int q43.1)] → Mo D cy A H0 q43.2 H locs → W p l e rm_X12_rule s m args below meth c H locs 0 0 (MQ below (QR D cy qF.2 A (some (.int qF.1))) args s 0 0 A) (F0 m 177 ls []) := by
                intro ls H locs hl M
                refine lv_goto (tgt := 29) hx hb dX12_rule_177 (by decide) ?_
                exact ih (x1 + 1) q43.1 q43.2 _ _ _ _ hs (lv_sub hl [0, 1, 2] rfl) M kx kr
              clear hs
              have hs := hsq43
              refine lv_if_eq (tgt := 138) hx hb dX12_rule_112 (by decide) (fun c27 => ?_) (fun c27 => ?_)
              · rw [if_pos c27] at hs
                refine lv_aload_n hx hb dX12_rule_138 rfl (lv_at hl 1 rfl) ?_
                obtain ⟨v28, g_v28, hs⟩ := bd hs
                refine ro_gR F M fg_12_51 t_1057 g_v28 dX12_rule_139 ?_
                refine lv_iload_n hx hb dX12_rule_142 rfl (lv_at hl 2 rfl) ?_
                refine lv_dup2_11 hx hb dX12_rule_143 rfl (cat_rf _) ?_
                obtain ⟨v29, g_v29, hs⟩ := bd hs
                refine ro_aI F M g_v29 dX12_rule_144 ?_
                refine lv_iconst (v := 1) hx hb dX12_rule_145 (by decide) ?_
                refine lv_isub hx hb dX12_rule_146 ?_
                obtain ⟨h30, g_h30, hs⟩ := bd hs
                refine ro_sI F M g_h30 dX12_rule_147 (fun H locs M => ?_)
                obtain ⟨q38, g_q38, hs⟩ := bd hs
                refine w_X12_rule_L148 F N x2 h30 _ _ _ q38 g_q38 (lv_sub hl [1, 0, 2] rfl) M (fun t_ ls H locs eq_ hl M => ?_) (fun v eq_ => eq_.elim)
                subst eq_
                obtain rfl := Option.some.inj hs
                exact KJ177 _ _ _ (lv_sub hl [0, 1, 2] rfl) M
              · rw [if_neg c27] at hs
                refine lv_iinc (v := x2 + 1) (lv' := [(2, .int (x2 + 1)), (1, .int (x1 + 1)), (0, .ref th), (3, .int v11)]) hx hb dX12_rule_115 hl (k := 2) rfl rfl (by decide) rfl (fun ls hl => ?_)
                refine lv_aload_n hx hb dX12_rule_118 rfl (lv_at hl 2 rfl) ?_
                obtain ⟨v39, g_v39, hs⟩ := bd hs
                refine ro_gR F M fg_12_51 t_1057 g_v39 dX12_rule_119 ?_
                refine lv_iload_n hx hb dX12_rule_122 rfl (lv_at hl 0 rfl) ?_
                refine lv_iload_n hx hb dX12_rule_123 rfl (lv_at hl 3 rfl) ?_
                refine lv_bipush (v := 9) hx hb dX12_rule_124 (by decide) ?_
                obtain ⟨q41, hsq41, hs⟩ := bd hs
                have KJ134 : ∀ (ls : Array Slot) (H : Heap) (locs : List Loc), lv_has ls 4 [(0, .ref th), (1, .int (x1 + 1)), (2, .int (x2 + 1))] → Mo D cy A H0 h25 H locs → W p l e rm_X12_rule s m args below meth c H locs 0 0 (MQ below (QR D cy qF.2 A (some (.int qF.1))) args s 0 0 A) (F0 m 134 ls [.int q41, .int (x2 + 1), va_rf v39]) := by
                  intro ls H locs hl M
                  obtain ⟨h42, g_h42, hs⟩ := bd hs
                  refine ro_sI F M g_h42 dX12_rule_134 (fun H locs M => ?_)
                  refine lv_goto (tgt := 177) hx hb dX12_rule_135 (by decide) ?_
                  obtain rfl := Option.some.inj hs
                  exact KJ177 _ _ _ (lv_sub hl [0, 1, 2] rfl) M
                clear hs
                have hs := hsq41
                refine lv_icmp_ne (tgt := 133) hx hb dX12_rule_126 (by decide) (fun c40 => ?_) (fun c40 => ?_)
                · rw [if_neg c40] at hs
                  refine lv_iconst (v := 2) hx hb dX12_rule_133 (by decide) ?_
                  obtain rfl := Option.some.inj hs
                  exact KJ134 _ _ _ (lv_sub hl [2, 1, 0] rfl) M
                · rw [if_pos c40] at hs
                  refine lv_iconst (v := 3) hx hb dX12_rule_129 (by decide) ?_
                  refine lv_goto (tgt := 134) hx hb dX12_rule_130 (by decide) ?_
                  obtain rfl := Option.some.inj hs
                  exact KJ134 _ _ _ (lv_sub hl [2, 1, 0] rfl) M
            clear hs
            have hs := hsq24
            refine lv_icmp_ne (tgt := 103) hx hb dX12_rule_92 (by decide) (fun c21 => ?_) (fun c21 => ?_)
            · rw [if_neg c21] at hs
              refine lv_iconst (v := 0) hx hb dX12_rule_103 (by decide) ?_
              obtain rfl := Option.some.inj hs
              exact KJ104 _ _ _ (lv_sub hl [1, 2, 3, 0] rfl) M
            · rw [if_pos c21] at hs
              refine lv_aload_n hx hb dX12_rule_95 rfl (lv_at hl 1 rfl) ?_
              obtain ⟨v22, g_v22, hs⟩ := bd hs
              obtain ⟨a23, e_a23, k_a23, g_v22⟩ := cV_some g_v22
              obtain rfl := Option.some.inj e_a23
              refine ca_Vl (bq := th) (As := []) (rest := [.int x1, va_rf v20]) F M (c_X12_numberHere g_v22) mf_X12_numberHere t_1292 k_a23 rfl ⟨by decide, by decide⟩ ⟨rfl, rfl⟩ ⟨Nat.zero_le _, Nat.zero_le _⟩ hl.1 rfl (by simp [cat_rf, cat_i, cat_j, cat_r]) dX12_rule_96 (fun H locs M => ?_)
              refine lv_l2i hx hb dX12_rule_99 rfl ?_
              refine lv_goto (tgt := 104) hx hb dX12_rule_100 (by decide) ?_
              obtain rfl := Option.some.inj hs
              exact KJ104 _ _ _ (lv_sub hl [1, 2, 3, 0] rfl) M
          · rw [if_neg c17] at hs
            refine lv_iload_n hx hb dX12_rule_64 rfl (lv_at hl 3 rfl) ?_
            refine lv_bipush (v := 8) hx hb dX12_rule_65 (by decide) ?_
            refine lv_icmp_ne (tgt := 77) hx hb dX12_rule_67 (by decide) (fun c44 => ?_) (fun c44 => ?_)
            · rw [if_neg c44] at hs
              refine lv_aload_n hx hb dX12_rule_77 rfl (lv_at hl 1 rfl) ?_
              obtain ⟨v46, g_v46, hs⟩ := bd hs
              refine ro_gR F M fg_12_26 t_1032 g_v46 dX12_rule_78 ?_
              refine lv_iload_n hx hb dX12_rule_81 rfl (lv_at hl 2 rfl) ?_
              refine lv_iload_n hx hb dX12_rule_82 rfl (lv_at hl 0 rfl) ?_
              obtain ⟨h47, g_h47, hs⟩ := bd hs
              refine ro_sI F M g_h47 dX12_rule_83 (fun H locs M => ?_)
              refine lv_aload_n hx hb dX12_rule_84 rfl (lv_at hl 1 rfl) ?_
              obtain ⟨v48, g_v48, hs⟩ := bd hs
              refine ro_gR F M fg_12_27 t_1033 g_v48 dX12_rule_85 ?_
              refine lv_iload_n hx hb dX12_rule_88 rfl (lv_at hl 2 rfl) ?_
              refine lv_iload_n hx hb dX12_rule_89 rfl (lv_at hl 0 rfl) ?_
              refine lv_bipush (v := 10) hx hb dX12_rule_90 (by decide) ?_
              obtain ⟨q52, hsq52, hs⟩ := bd hs
              have KJ104 : ∀ (ls : Array Slot) (H : Heap) (locs : List Loc), lv_has ls 4 [(0, .ref th), (1, .int x1), (2, .int x2), (3, .int v11)] → Mo D cy A H0 h47 H locs → W p l e rm_X12_rule s m args below meth c H locs 0 0 (MQ below (QR D cy qF.2 A (some (.int qF.1))) args s 0 0 A) (F0 m 104 ls [.int q52, .int x1, va_rf v48]) := by
                intro ls H locs hl M
                obtain ⟨h53, g_h53, hs⟩ := bd hs
                refine ro_sI F M g_h53 dX12_rule_104 (fun H locs M => ?_)
                refine lv_iinc (v := x1 + 1) (lv' := [(1, .int (x1 + 1)), (0, .ref th), (2, .int x2), (3, .int v11)]) hx hb dX12_rule_105 hl (k := 1) rfl rfl (by decide) rfl (fun ls hl => ?_)
                refine lv_iload_n hx hb dX12_rule_108 rfl (lv_at hl 3 rfl) ?_
                obtain ⟨v54, g_v54, hs⟩ := bd hs
                refine ca_Si (As := [.int v11]) (rest := []) F M (c_X12_isOperator g_v54) mf_X12_isOperator t_1321 rfl ⟨by decide, by decide⟩ ⟨rfl, rfl⟩ ⟨Nat.zero_le _, Nat.zero_le _⟩ hl.1 rfl (by decide) dX12_rule_109 (fun H locs M => ?_)
                obtain ⟨q64, hsq64, hs⟩ := bd hs
                have KJ177 : ∀ (ls : Array Slot) (H : Heap) (locs : List Loc), lv_has ls 4 [(0, .ref th), (1, .int (x1 + 1)), (2, .int q64.1)] → Mo D cy A H0 q64.2 H locs → W p l e rm_X12_rule s m args below meth c H locs 0 0 (MQ below (QR D cy qF.2 A (some (.int qF.1))) args s 0 0 A) (F0 m 177 ls []) := by
                  intro ls H locs hl M
                  refine lv_goto (tgt := 29) hx hb dX12_rule_177 (by decide) ?_
                  exact ih (x1 + 1) q64.1 q64.2 _ _ _ _ hs (lv_sub hl [0, 1, 2] rfl) M kx kr
                clear hs
                have hs := hsq64
                refine lv_if_eq (tgt := 138) hx hb dX12_rule_112 (by decide) (fun c55 => ?_) (fun c55 => ?_)
                · rw [if_pos c55] at hs
                  refine lv_aload_n hx hb dX12_rule_138 rfl (lv_at hl 1 rfl) ?_
                  obtain ⟨v56, g_v56, hs⟩ := bd hs
                  refine ro_gR F M fg_12_51 t_1057 g_v56 dX12_rule_139 ?_
                  refine lv_iload_n hx hb dX12_rule_142 rfl (lv_at hl 2 rfl) ?_
                  refine lv_dup2_11 hx hb dX12_rule_143 rfl (cat_rf _) ?_
                  obtain ⟨v57, g_v57, hs⟩ := bd hs
                  refine ro_aI F M g_v57 dX12_rule_144 ?_
                  refine lv_iconst (v := 1) hx hb dX12_rule_145 (by decide) ?_
                  refine lv_isub hx hb dX12_rule_146 ?_
                  obtain ⟨h58, g_h58, hs⟩ := bd hs
                  refine ro_sI F M g_h58 dX12_rule_147 (fun H locs M => ?_)
                  obtain ⟨q59, g_q59, hs⟩ := bd hs
                  refine w_X12_rule_L148 F N x2 h58 _ _ _ q59 g_q59 (lv_sub hl [1, 0, 2] rfl) M (fun t_ ls H locs eq_ hl M => ?_) (fun v eq_ => eq_.elim)
                  subst eq_
                  obtain rfl := Option.some.inj hs
                  exact KJ177 _ _ _ (lv_sub hl [0, 1, 2] rfl) M
                · rw [if_neg c55] at hs
                  refine lv_iinc (v := x2 + 1) (lv' := [(2, .int (x2 + 1)), (1, .int (x1 + 1)), (0, .ref th), (3, .int v11)]) hx hb dX12_rule_115 hl (k := 2) rfl rfl (by decide) rfl (fun ls hl => ?_)
                  refine lv_aload_n hx hb dX12_rule_118 rfl (lv_at hl 2 rfl) ?_
                  obtain ⟨v60, g_v60, hs⟩ := bd hs
                  refine ro_gR F M fg_12_51 t_1057 g_v60 dX12_rule_119 ?_
                  refine lv_iload_n hx hb dX12_rule_122 rfl (lv_at hl 0 rfl) ?_
                  refine lv_iload_n hx hb dX12_rule_123 rfl (lv_at hl 3 rfl) ?_
                  refine lv_bipush (v := 9) hx hb dX12_rule_124 (by decide) ?_
                  obtain ⟨q62, hsq62, hs⟩ := bd hs
                  have KJ134 : ∀ (ls : Array Slot) (H : Heap) (locs : List Loc), lv_has ls 4 [(0, .ref th), (1, .int (x1 + 1)), (2, .int (x2 + 1))] → Mo D cy A H0 h53 H locs → W p l e rm_X12_rule s m args below meth c H locs 0 0 (MQ below (QR D cy qF.2 A (some (.int qF.1))) args s 0 0 A) (F0 m 134 ls [.int q62, .int (x2 + 1), va_rf v60]) := by
                    intro ls H locs hl M
                    obtain ⟨h63, g_h63, hs⟩ := bd hs
                    refine ro_sI F M g_h63 dX12_rule_134 (fun H locs M => ?_)
                    refine lv_goto (tgt := 177) hx hb dX12_rule_135 (by decide) ?_
                    obtain rfl := Option.some.inj hs
                    exact KJ177 _ _ _ (lv_sub hl [0, 1, 2] rfl) M
                  clear hs
                  have hs := hsq62
                  refine lv_icmp_ne (tgt := 133) hx hb dX12_rule_126 (by decide) (fun c61 => ?_) (fun c61 => ?_)
                  · rw [if_neg c61] at hs
                    refine lv_iconst (v := 2) hx hb dX12_rule_133 (by decide) ?_
                    obtain rfl := Option.some.inj hs
                    exact KJ134 _ _ _ (lv_sub hl [2, 1, 0] rfl) M
                  · rw [if_pos c61] at hs
                    refine lv_iconst (v := 3) hx hb dX12_rule_129 (by decide) ?_
                    refine lv_goto (tgt := 134) hx hb dX12_rule_130 (by decide) ?_
                    obtain rfl := Option.some.inj hs
                    exact KJ134 _ _ _ (lv_sub hl [2, 1, 0] rfl) M
              clear hs
              have hs := hsq52
              refine lv_icmp_ne (tgt := 103) hx hb dX12_rule_92 (by decide) (fun c49 => ?_) (fun c49 => ?_)
              · rw [if_neg c49] at hs
                refine lv_iconst (v := 0) hx hb dX12_rule_103 (by decide) ?_
                obtain rfl := Option.some.inj hs
                exact KJ104 _ _ _ (lv_sub hl [1, 2, 3, 0] rfl) M
              · rw [if_pos c49] at hs
                refine lv_aload_n hx hb dX12_rule_95 rfl (lv_at hl 1 rfl) ?_
                obtain ⟨v50, g_v50, hs⟩ := bd hs
                obtain ⟨a51, e_a51, k_a51, g_v50⟩ := cV_some g_v50
                obtain rfl := Option.some.inj e_a51
                refine ca_Vl (bq := th) (As := []) (rest := [.int x1, va_rf v48]) F M (c_X12_numberHere g_v50) mf_X12_numberHere t_1292 k_a51 rfl ⟨by decide, by decide⟩ ⟨rfl, rfl⟩ ⟨Nat.zero_le _, Nat.zero_le _⟩ hl.1 rfl (by simp [cat_rf, cat_i, cat_j, cat_r]) dX12_rule_96 (fun H locs M => ?_)
                refine lv_l2i hx hb dX12_rule_99 rfl ?_
                refine lv_goto (tgt := 104) hx hb dX12_rule_100 (by decide) ?_
                obtain rfl := Option.some.inj hs
                exact KJ104 _ _ _ (lv_sub hl [1, 2, 3, 0] rfl) M
            · rw [if_pos c44] at hs
              refine lv_iconst (v := (-1)) hx hb dX12_rule_70 (by decide) ?_
              refine lv_aload_n hx hb dX12_rule_71 rfl (lv_at hl 1 rfl) ?_
              obtain ⟨v45, g_v45, hs⟩ := bd hs
              refine ro_gI F M fg_12_42 t_1048 g_v45 dX12_rule_72 ?_
              refine lv_isub hx hb dX12_rule_75 ?_
              obtain rfl := kr _ (Option.some.inj hs).symm
              exact re_i F M dX12_rule_76
set_option maxHeartbeats 4000000 in
set_option maxRecDepth 100000 in
theorem w_X12_rule_L205 {p : Program} {l : Launch} {e : Env} {s : State} {m : MethodId} {args : Array Value} {below : List Frame} {meth : Method} {c : Code} {D : va_G} {cy : Nat → ClassId} {A : Nat → Prop} {H0 : Heap} {N th : Nat} {x1 : Int32} {qF : Int32 × IH} (F : Fx p s m args meth c D cy A H0 yX12_rule cX12_rule 4 (some .int)) : ∀ (n : Nat) (x3 : Int32) (h : IH) (ls : Array Slot) (H : Heap) (locs : List Loc) (q : IH), s_X12_rule_L205 N n th x1 x3 h = some q → lv_has ls 4 [(0, .ref th), (1, .int x1), (3, .int x3)] → Mo D cy A H0 h H locs → (∀ (t : IH) (ls : Array Slot) (H : Heap) (locs : List Loc), q = t → lv_has ls 4 [(1, .int x1)] → Mo D cy A H0 t H locs → W p l e rm_X12_rule s m args below meth c H locs 0 0 (MQ below (QR D cy qF.2 A (some (.int qF.1))) args s 0 0 A) (F0 m 240 ls [])) → (∀ v : Int32 × IH, False → v = qF) → W p l e rm_X12_rule s m args below meth c H locs 0 0 (MQ below (QR D cy qF.2 A (some (.int qF.1))) args s 0 0 A) (F0 m 205 ls []) := by
  intro n
  induction n with
  | zero => intro x3 h ls H locs q hs; rw [s_X12_rule_L205.eq_1] at hs; cases hs
  | succ n ih =>
    intro x3 h ls H locs q hs hl M kx kr
    obtain ⟨hx, hb, hr, hml, hown, hlk, hts, hK, hN, hA, hH⟩ := id F
    rw [s_X12_rule_L205.eq_2] at hs
    refine lv_iload_n hx hb dX12_rule_205 rfl (lv_at hl 2 rfl) ?_
    refine lv_iload_n hx hb dX12_rule_206 rfl (lv_at hl 1 rfl) ?_
    refine lv_icmp_ge (tgt := 240) hx hb dX12_rule_207 (by decide) (fun c73 => ?_) (fun c73 => ?_)
    · rw [if_pos c73] at hs
      exact kx h _ _ _ (Option.some.inj hs).symm (lv_sub hl [1] rfl) M
    · rw [if_neg c73] at hs
      refine lv_aload_n hx hb dX12_rule_210 rfl (lv_at hl 0 rfl) ?_
      obtain ⟨v74, g_v74, hs⟩ := bd hs
      refine ro_gR F M fg_12_24 t_1030 g_v74 dX12_rule_211 ?_
      refine lv_iload_n hx hb dX12_rule_214 rfl (lv_at hl 2 rfl) ?_
      refine lv_aload_n hx hb dX12_rule_215 rfl (lv_at hl 0 rfl) ?_
      obtain ⟨v75, g_v75, hs⟩ := bd hs
      refine ro_gR F M fg_12_26 t_1032 g_v75 dX12_rule_216 ?_
      refine lv_iload_n hx hb dX12_rule_219 rfl (lv_at hl 2 rfl) ?_
      obtain ⟨v76, g_v76, hs⟩ := bd hs
      refine ro_aI F M g_v76 dX12_rule_220 ?_
      obtain ⟨h77, g_h77, hs⟩ := bd hs
      refine ro_sI F M g_h77 dX12_rule_221 (fun H locs M => ?_)
      refine lv_aload_n hx hb dX12_rule_222 rfl (lv_at hl 0 rfl) ?_
      obtain ⟨v78, g_v78, hs⟩ := bd hs
      refine ro_gR F M fg_12_25 t_1031 g_v78 dX12_rule_223 ?_
      refine lv_iload_n hx hb dX12_rule_226 rfl (lv_at hl 2 rfl) ?_
      refine lv_aload_n hx hb dX12_rule_227 rfl (lv_at hl 0 rfl) ?_
      obtain ⟨v79, g_v79, hs⟩ := bd hs
      refine ro_gR F M fg_12_27 t_1033 g_v79 dX12_rule_228 ?_
      refine lv_iload_n hx hb dX12_rule_231 rfl (lv_at hl 2 rfl) ?_
      obtain ⟨v80, g_v80, hs⟩ := bd hs
      refine ro_aI F M g_v80 dX12_rule_232 ?_
      obtain ⟨h81, g_h81, hs⟩ := bd hs
      refine ro_sI F M g_h81 dX12_rule_233 (fun H locs M => ?_)
      refine lv_iinc (v := x3 + 1) (lv' := [(3, .int (x3 + 1)), (0, .ref th), (1, .int x1)]) hx hb dX12_rule_234 hl (k := 2) rfl rfl (by decide) rfl (fun ls hl => ?_)
      refine lv_goto (tgt := 205) hx hb dX12_rule_237 (by decide) ?_
      exact ih (x3 + 1) h81 _ _ _ _ hs (lv_sub hl [1, 2, 0] rfl) M kx kr
set_option maxHeartbeats 4000000 in
set_option maxRecDepth 100000 in
theorem c_X12_rule {l : Launch} {D : va_G} {cy : Nat → ClassId} {sz N : Nat} {h : IH} {th : Nat} {qF : Int32 × IH} (hs : s_X12_rule N h th = some qF) : Ct l D cy yX12_rule cX12_rule 4 (some .int) rm_X12_rule h sz [.ref th] qF.2 (some (.int qF.1)) := by
  refine ct_start (by decide +kernel) [(0, .ref th)] (Nat.le_of_ble_eq_true rfl) rfl ?_
  intro p e s m args below meth c A H0 ls F hin hsz M hl
  obtain ⟨hx, hb, hr, hml, hown, hlk, hts, hK, hN, hA, hH⟩ := id F
  generalize s.heap = H at M ⊢
  generalize ([] : List Loc) = locs at M ⊢
  unfold s_X12_rule at hs
  refine lv_aload_n hx hb dX12_rule_0 rfl (lv_at hl 0 rfl) ?_
  refine lv_iconst (v := 0) hx hb dX12_rule_1 (by decide) ?_
  obtain ⟨h1, g_h1, hs⟩ := bd hs
  refine ro_pI F M fg_12_40 fp_12_40 rfl t_1046 g_h1 dX12_rule_2 (fun H locs M => ?_)
  refine lv_aload_n hx hb dX12_rule_5 rfl (lv_at hl 0 rfl) ?_
  refine lv_aload_n hx hb dX12_rule_6 rfl (lv_at hl 0 rfl) ?_
  obtain ⟨v2, g_v2, hs⟩ := bd hs
  refine ro_gI F M fg_12_29 t_1035 g_v2 dX12_rule_7 ?_
  obtain ⟨h3, g_h3, hs⟩ := bd hs
  refine ro_pI F M fg_12_41 fp_12_41 rfl t_1047 g_h3 dX12_rule_10 (fun H locs M => ?_)
  refine lv_aload_n hx hb dX12_rule_13 rfl (lv_at hl 0 rfl) ?_
  refine lv_iconst (v := 0) hx hb dX12_rule_14 (by decide) ?_
  obtain ⟨h4, g_h4, hs⟩ := bd hs
  refine ro_pI F M fg_12_29 fp_12_29 rfl t_1035 g_h4 dX12_rule_15 (fun H locs M => ?_)
  refine lv_iconst (v := 0) hx hb dX12_rule_18 (by decide) ?_
  refine lv_istore_n (i := 1) (lv' := [(1, .int 0), (0, .ref th)]) hx hb dX12_rule_19 rfl hl (by decide) rfl (fun ls hl => ?_)
  refine lv_iconst (v := 0) hx hb dX12_rule_20 (by decide) ?_
  refine lv_istore_n (i := 2) (lv' := [(2, .int 0), (1, .int 0), (0, .ref th)]) hx hb dX12_rule_21 rfl hl (by decide) rfl (fun ls hl => ?_)
  refine lv_aload_n hx hb dX12_rule_22 rfl (lv_at hl 2 rfl) ?_
  obtain ⟨v5, g_v5, hs⟩ := bd hs
  refine ro_gR F M fg_12_51 t_1057 g_v5 dX12_rule_23 ?_
  refine lv_iconst (v := 0) hx hb dX12_rule_26 (by decide) ?_
  refine lv_iconst (v := 1) hx hb dX12_rule_27 (by decide) ?_
  obtain ⟨h6, g_h6, hs⟩ := bd hs
  refine ro_sI F M g_h6 dX12_rule_28 (fun H locs M => ?_)
  obtain ⟨q67, g_q67, hs⟩ := bd hs
  refine w_X12_rule_L29 F N 0 0 h6 _ _ _ q67 g_q67 (lv_sub hl [2, 1, 0] rfl) M (fun t68 ls H locs eq_ hl M => ?_) (fun v eq_ => ?_)
  · subst eq_
    have hs := se_r hs
    refine lv_aload_n hx hb dX12_rule_180 rfl (lv_at hl 0 rfl) ?_
    obtain ⟨v69, g_v69, hs⟩ := bd hs
    obtain ⟨a84, e_a84, k_a84, g_v69⟩ := cV_some g_v69
    obtain rfl := Option.some.inj e_a84
    refine ca_Vv (bq := th) (As := []) (rest := []) F M (c_X12_next g_v69) mf_X12_next t_1276 k_a84 rfl ⟨by decide, by decide⟩ ⟨rfl, rfl⟩ ⟨Nat.zero_le _, Nat.zero_le _⟩ hl.1 rfl (by decide) dX12_rule_181 (fun H locs M => ?_)
    refine lv_aload_n hx hb dX12_rule_184 rfl (lv_at hl 0 rfl) ?_
    obtain ⟨v70, g_v70, hs⟩ := bd hs
    refine ro_gI F M fg_12_43 t_1049 g_v70 dX12_rule_185 ?_
    refine lv_if_le (tgt := 198) hx hb dX12_rule_188 (by decide) (fun c71 => ?_) (fun c71 => ?_)
    · rw [if_pos c71] at hs
      refine lv_aload_n hx hb dX12_rule_198 rfl (lv_at hl 0 rfl) ?_
      refine lv_iload_n hx hb dX12_rule_199 rfl (lv_at hl 1 rfl) ?_
      obtain ⟨h72, g_h72, hs⟩ := bd hs
      refine ro_pI F M fg_12_23 fp_12_23 rfl t_1029 g_h72 dX12_rule_200 (fun H locs M => ?_)
      refine lv_iconst (v := 0) hx hb dX12_rule_203 (by decide) ?_
      refine lv_istore_n (i := 3) (lv' := [(3, .int 0), (0, .ref th), (1, .int t68.1)]) hx hb dX12_rule_204 rfl hl (by decide) rfl (fun ls hl => ?_)
      obtain ⟨q82, g_q82, hs⟩ := bd hs
      refine w_X12_rule_L205 F N 0 h72 _ _ _ q82 g_q82 (lv_sub hl [1, 2, 0] rfl) M (fun t_ ls H locs eq_ hl M => ?_) (fun v eq_ => eq_.elim)
      subst eq_
      refine lv_iload_n hx hb dX12_rule_240 rfl (lv_at hl 0 rfl) ?_
      obtain rfl := Option.some.inj hs
      exact re_i F M dX12_rule_241
    · rw [if_neg c71] at hs
      refine lv_iconst (v := (-1)) hx hb dX12_rule_191 (by decide) ?_
      refine lv_aload_n hx hb dX12_rule_192 rfl (lv_at hl 0 rfl) ?_
      obtain ⟨v83, g_v83, hs⟩ := bd hs
      refine ro_gI F M fg_12_42 t_1048 g_v83 dX12_rule_193 ?_
      refine lv_isub hx hb dX12_rule_196 ?_
      obtain rfl := Option.some.inj hs
      exact re_i F M dX12_rule_197
  · subst eq_
    have hs := se_l hs
    exact (Option.some.inj hs)
abbrev rm_X12_window : Room := { frames := 1, cells := 0, slots := 0, locals := 25 }
theorem mf_X12_window : MV 12 yX12_window cX12_window 2 (some .int) 1 RX12 := ⟨t_1329, t_1327, t_1328, t_12, ⟨by decide +kernel, by decide +kernel, by decide +kernel⟩, rfl, by decide⟩
def s_X12_window (h : IH) (th : Nat) (a0 : Int32) : Option (Int32 × IH) := (s_X12_isIn h a0.toInt64 0 3600).bind fun v1 => if v1 = 0 then some ((-1), h) else (pI h 12 21 (some th) a0).bind fun h3 => (pZ h3 12 17 (some th) 0).bind fun h4 => some (1, h4)
set_option maxHeartbeats 4000000 in
set_option maxRecDepth 100000 in
theorem c_X12_window {l : Launch} {D : va_G} {cy : Nat → ClassId} {sz : Nat} {h : IH} {th : Nat} {a0 : Int32} {qF : Int32 × IH} (hs : s_X12_window h th a0 = some qF) : Ct l D cy yX12_window cX12_window 2 (some .int) rm_X12_window h sz [.ref th, .int a0] qF.2 (some (.int qF.1)) := by
  refine ct_start (by decide +kernel) [(0, .ref th), (1, .int a0)] (Nat.le_of_ble_eq_true rfl) rfl ?_
  intro p e s m args below meth c A H0 ls F hin hsz M hl
  obtain ⟨hx, hb, hr, hml, hown, hlk, hts, hK, hN, hA, hH⟩ := id F
  generalize s.heap = H at M ⊢
  generalize ([] : List Loc) = locs at M ⊢
  unfold s_X12_window at hs
  refine lv_iload_n hx hb dX12_window_0 rfl (lv_at hl 1 rfl) ?_
  refine lv_i2l hx hb dX12_window_1 rfl ?_
  refine lv_lconst (v := 0) hx hb dX12_window_2 (by decide) ?_
  refine lv_ldc2 (v := 3600) hx hb hown (hts _ (List.mem_cons_of_mem _ t_1330)) dX12_window_3 ?_
  obtain ⟨v1, g_v1, hs⟩ := bd hs
  refine ca_Si (As := [.long a0.toInt64, .long 0, .long 3600]) (rest := []) F M (c_X12_isIn g_v1) mf_X12_isIn t_1225 rfl ⟨by decide, by decide⟩ ⟨rfl, rfl⟩ ⟨Nat.zero_le _, Nat.zero_le _⟩ hl.1 rfl (by decide) dX12_window_6 (fun H locs M => ?_)
  refine lv_if_ne (tgt := 14) hx hb dX12_window_9 (by decide) (fun c2 => ?_) (fun c2 => ?_)
  · rw [if_neg c2] at hs
    refine lv_aload_n hx hb dX12_window_14 rfl (lv_at hl 0 rfl) ?_
    refine lv_iload_n hx hb dX12_window_15 rfl (lv_at hl 1 rfl) ?_
    obtain ⟨h3, g_h3, hs⟩ := bd hs
    refine ro_pI F M fg_12_21 fp_12_21 rfl t_1027 g_h3 dX12_window_16 (fun H locs M => ?_)
    refine lv_aload_n hx hb dX12_window_19 rfl (lv_at hl 0 rfl) ?_
    refine lv_iconst (v := 0) hx hb dX12_window_20 (by decide) ?_
    obtain ⟨h4, g_h4, hs⟩ := bd hs
    refine ro_pZ F M fg_12_17 fp_12_17 rfl t_1023 g_h4 dX12_window_21 (fun H locs M => ?_)
    refine lv_iconst (v := 1) hx hb dX12_window_24 (by decide) ?_
    obtain rfl := Option.some.inj hs
    exact re_i F M dX12_window_25
  · rw [if_pos c2] at hs
    refine lv_iconst (v := (-1)) hx hb dX12_window_12 (by decide) ?_
    obtain rfl := Option.some.inj hs
    exact re_i F M dX12_window_13
abbrev rm_X12_penalty : Room := { frames := 1, cells := 0, slots := 0, locals := 25 }
theorem mf_X12_penalty : MV 12 yX12_penalty cX12_penalty 2 (some .int) 1 RX12 := ⟨t_1334, t_1332, t_1333, t_12, ⟨by decide +kernel, by decide +kernel, by decide +kernel⟩, rfl, by decide⟩
def s_X12_penalty (h : IH) (th : Nat) (a0 : Int32) : Option (Int32 × IH) := (s_X12_isIn h a0.toInt64 0 1000).bind fun v1 => if v1 = 0 then some ((-1), h) else (pI h 12 22 (some th) a0).bind fun h3 => some (1, h3)
set_option maxHeartbeats 4000000 in
set_option maxRecDepth 100000 in
theorem c_X12_penalty {l : Launch} {D : va_G} {cy : Nat → ClassId} {sz : Nat} {h : IH} {th : Nat} {a0 : Int32} {qF : Int32 × IH} (hs : s_X12_penalty h th a0 = some qF) : Ct l D cy yX12_penalty cX12_penalty 2 (some .int) rm_X12_penalty h sz [.ref th, .int a0] qF.2 (some (.int qF.1)) := by
  refine ct_start (by decide +kernel) [(0, .ref th), (1, .int a0)] (Nat.le_of_ble_eq_true rfl) rfl ?_
  intro p e s m args below meth c A H0 ls F hin hsz M hl
  obtain ⟨hx, hb, hr, hml, hown, hlk, hts, hK, hN, hA, hH⟩ := id F
  generalize s.heap = H at M ⊢
  generalize ([] : List Loc) = locs at M ⊢
  unfold s_X12_penalty at hs
  refine lv_iload_n hx hb dX12_penalty_0 rfl (lv_at hl 1 rfl) ?_
  refine lv_i2l hx hb dX12_penalty_1 rfl ?_
  refine lv_lconst (v := 0) hx hb dX12_penalty_2 (by decide) ?_
  refine lv_ldc2 (v := 1000) hx hb hown (hts _ (List.mem_cons_of_mem _ t_1335)) dX12_penalty_3 ?_
  obtain ⟨v1, g_v1, hs⟩ := bd hs
  refine ca_Si (As := [.long a0.toInt64, .long 0, .long 1000]) (rest := []) F M (c_X12_isIn g_v1) mf_X12_isIn t_1225 rfl ⟨by decide, by decide⟩ ⟨rfl, rfl⟩ ⟨Nat.zero_le _, Nat.zero_le _⟩ hl.1 rfl (by decide) dX12_penalty_6 (fun H locs M => ?_)
  refine lv_if_ne (tgt := 14) hx hb dX12_penalty_9 (by decide) (fun c2 => ?_) (fun c2 => ?_)
  · rw [if_neg c2] at hs
    refine lv_aload_n hx hb dX12_penalty_14 rfl (lv_at hl 0 rfl) ?_
    refine lv_iload_n hx hb dX12_penalty_15 rfl (lv_at hl 1 rfl) ?_
    obtain ⟨h3, g_h3, hs⟩ := bd hs
    refine ro_pI F M fg_12_22 fp_12_22 rfl t_1028 g_h3 dX12_penalty_16 (fun H locs M => ?_)
    refine lv_iconst (v := 1) hx hb dX12_penalty_19 (by decide) ?_
    obtain rfl := Option.some.inj hs
    exact re_i F M dX12_penalty_20
  · rw [if_pos c2] at hs
    refine lv_iconst (v := (-1)) hx hb dX12_penalty_12 (by decide) ?_
    obtain rfl := Option.some.inj hs
    exact re_i F M dX12_penalty_13
abbrev rm_X12_isContactAt : Room := { frames := 0, cells := 0, slots := 0, locals := 0 }
theorem mf_X12_isContactAt : MV 12 yX12_isContactAt cX12_isContactAt 2 (some .boolean) 1 RX12 := ⟨t_1355, t_1354, tS_94, t_12, ⟨by decide +kernel, by decide +kernel, by decide +kernel⟩, rfl, by decide⟩
def s_X12_isContactAt (h : IH) (th : Nat) (a0 : Int32) : Option (Int32) := (gR h 12 9 (some th)).bind fun v1 => (aI h v1 (a0 / 16)).bind fun v2 => ((if v2 ≤ (a0 - a0 / 16 * 16) then some 0 else (gR h 12 10 (some th)).bind fun v4 => (aI h v4 a0).bind fun v5 => if v5 = 0 then some 1 else some 0) : Option (Int32)).bind fun q7 => if q7 = 0 ∨ q7 = 1 then some q7 else none
set_option maxHeartbeats 4000000 in
set_option maxRecDepth 100000 in
theorem c_X12_isContactAt {l : Launch} {D : va_G} {cy : Nat → ClassId} {sz : Nat} {h : IH} {th : Nat} {a0 : Int32} {qF : Int32} (hs : s_X12_isContactAt h th a0 = some qF) : Ct l D cy yX12_isContactAt cX12_isContactAt 2 (some .boolean) rm_X12_isContactAt h sz [.ref th, .int a0] h (some (.int qF)) := by
  refine ct_start (by decide +kernel) [(0, .ref th), (1, .int a0)] (Nat.le_of_ble_eq_true rfl) rfl ?_
  intro p e s m args below meth c A H0 ls F hin hsz M hl
  obtain ⟨hx, hb, hr, hml, hown, hlk, hts, hK, hN, hA, hH⟩ := id F
  generalize s.heap = H at M ⊢
  generalize ([] : List Loc) = locs at M ⊢
  unfold s_X12_isContactAt at hs
  refine lv_iload_n hx hb dX12_isContactAt_0 rfl (lv_at hl 1 rfl) ?_
  refine lv_bipush (v := 16) hx hb dX12_isContactAt_1 (by decide) ?_
  refine lv_irem hx hb dX12_isContactAt_3 (by decide) ?_
  refine lv_aload_n hx hb dX12_isContactAt_4 rfl (lv_at hl 0 rfl) ?_
  obtain ⟨v1, g_v1, hs⟩ := bd hs
  refine ro_gR F M fg_12_9 t_1015 g_v1 dX12_isContactAt_5 ?_
  refine lv_iload_n hx hb dX12_isContactAt_8 rfl (lv_at hl 1 rfl) ?_
  refine lv_bipush (v := 16) hx hb dX12_isContactAt_9 (by decide) ?_
  refine lv_idiv hx hb dX12_isContactAt_11 (by decide) ?_
  obtain ⟨v2, g_v2, hs⟩ := bd hs
  refine ro_aI F M g_v2 dX12_isContactAt_12 ?_
  obtain ⟨q7, hsq7, hs⟩ := bd hs
  have KJ30 : ∀ (ls : Array Slot) (H : Heap) (locs : List Loc), lv_has ls 2 [] → Mo D cy A H0 h H locs → W p l e rm_X12_isContactAt s m args below meth c H locs 0 0 (MQ below (QR D cy h A (some (.int qF))) args s 0 0 A) (F0 m 30 ls [.int q7]) := by
    intro ls H locs hl M
    by_cases zg : q7 = 0 ∨ q7 = 1
    · rw [if_pos zg] at hs
      obtain rfl := Option.some.inj hs
      exact re_z F M zg dX12_isContactAt_30
    · rw [if_neg zg] at hs; cases hs
  clear hs
  have hs := hsq7
  refine lv_icmp_ge (tgt := 29) hx hb dX12_isContactAt_13 (by decide) (fun c3 => ?_) (fun c3 => ?_)
  · rw [if_pos c3] at hs
    refine lv_iconst (v := 0) hx hb dX12_isContactAt_29 (by decide) ?_
    obtain rfl := Option.some.inj hs
    exact KJ30 _ _ _ (lv_sub hl [] rfl) M
  · rw [if_neg c3] at hs
    refine lv_aload_n hx hb dX12_isContactAt_16 rfl (lv_at hl 0 rfl) ?_
    obtain ⟨v4, g_v4, hs⟩ := bd hs
    refine ro_gR F M fg_12_10 t_1016 g_v4 dX12_isContactAt_17 ?_
    refine lv_iload_n hx hb dX12_isContactAt_20 rfl (lv_at hl 1 rfl) ?_
    obtain ⟨v5, g_v5, hs⟩ := bd hs
    refine ro_aI F M g_v5 dX12_isContactAt_21 ?_
    refine lv_if_ne (tgt := 29) hx hb dX12_isContactAt_22 (by decide) (fun c6 => ?_) (fun c6 => ?_)
    · rw [if_neg c6] at hs
      refine lv_iconst (v := 0) hx hb dX12_isContactAt_29 (by decide) ?_
      obtain rfl := Option.some.inj hs
      exact KJ30 _ _ _ (lv_sub hl [] rfl) M
    · rw [if_pos c6] at hs
      refine lv_iconst (v := 1) hx hb dX12_isContactAt_25 (by decide) ?_
      refine lv_goto (tgt := 30) hx hb dX12_isContactAt_26 (by decide) ?_
      obtain rfl := Option.some.inj hs
      exact KJ30 _ _ _ (lv_sub hl [] rfl) M
abbrev rm_X12_setCalled : Room := { frames := 2, cells := 0, slots := 0, locals := 51 }
theorem mf_X12_setCalled : MV 12 yX12_setCalled cX12_setCalled 3 none 0 RX12 := ⟨t_1351, t_1350, tS_93, t_12, ⟨by decide +kernel, by decide +kernel, by decide +kernel⟩, rfl, by decide⟩
def s_X12_setCalled_L2 (N : Nat) : Nat → Nat → Int32 → IH → Option (IH)
  | 0, _, _, _ => none
  | n + 1, th, x1, h => if 576 ≤ x1 then some h else (gI h 12 1 (some th)).bind fun v2 => ((if v2 ≤ (x1 / 48) then some 0 else (cV h 12 (some th) fun a6 => s_X12_isContactAt h a6 x1).bind fun v4 => if v4 = 0 then some 0 else some 1) : Option (Int32)).bind fun q7 => (gR h 12 18 (some th)).bind fun v8 => ((if q7 = 0 then some (-1) else (gR h 12 14 (some th)).bind fun v10 => (gR h 12 13 (some th)).bind fun v11 => (aI h v11 x1).bind fun v12 => (cV h 12 (some th) fun a14 => s_X12_withCall N h a14 v10 (6 * x1) v12).bind fun v13 => some v13) : Option (Int32)).bind fun q15 => (sI h v8 x1 q15).bind fun h16 => (gR h16 12 19 (some th)).bind fun v17 => (sI h16 v17 x1 (-1)).bind fun h18 => s_X12_setCalled_L2 N n th (x1 + 1) h18
def s_X12_setCalled (N : Nat) (h : IH) (th : Nat) : Option (IH) := (s_X12_setCalled_L2 N N th 0 h).bind fun q19 => some q19
set_option maxHeartbeats 4000000 in
set_option maxRecDepth 100000 in
theorem w_X12_setCalled_L2 {p : Program} {l : Launch} {e : Env} {s : State} {m : MethodId} {args : Array Value} {below : List Frame} {meth : Method} {c : Code} {D : va_G} {cy : Nat → ClassId} {A : Nat → Prop} {H0 : Heap} {N th : Nat} {qF : IH} (F : Fx p s m args meth c D cy A H0 yX12_setCalled cX12_setCalled 3 none) : ∀ (n : Nat) (x1 : Int32) (h : IH) (ls : Array Slot) (H : Heap) (locs : List Loc) (q : IH), s_X12_setCalled_L2 N n th x1 h = some q → lv_has ls 3 [(0, .ref th), (1, .int x1)] → Mo D cy A H0 h H locs → (∀ (t : IH) (ls : Array Slot) (H : Heap) (locs : List Loc), q = t → lv_has ls 3 [] → Mo D cy A H0 t H locs → W p l e rm_X12_setCalled s m args below meth c H locs 0 0 (MQ below (QR D cy qF A none) args s 0 0 A) (F0 m 79 ls [])) → (∀ v : IH, False → v = qF) → W p l e rm_X12_setCalled s m args below meth c H locs 0 0 (MQ below (QR D cy qF A none) args s 0 0 A) (F0 m 2 ls []) := by
  intro n
  induction n with
  | zero => intro x1 h ls H locs q hs; rw [s_X12_setCalled_L2.eq_1] at hs; cases hs
  | succ n ih =>
    intro x1 h ls H locs q hs hl M kx kr
    obtain ⟨hx, hb, hr, hml, hown, hlk, hts, hK, hN, hA, hH⟩ := id F
    rw [s_X12_setCalled_L2.eq_2] at hs
    refine lv_iload_n hx hb dX12_setCalled_2 rfl (lv_at hl 1 rfl) ?_
    refine lv_sipush (v := 576) hx hb dX12_setCalled_3 (by decide) ?_
    refine lv_icmp_ge (tgt := 79) hx hb dX12_setCalled_6 (by decide) (fun c1 => ?_) (fun c1 => ?_)
    · rw [if_pos c1] at hs
      exact kx h _ _ _ (Option.some.inj hs).symm (lv_sub hl [] rfl) M
    · rw [if_neg c1] at hs
      refine lv_iload_n hx hb dX12_setCalled_9 rfl (lv_at hl 1 rfl) ?_
      refine lv_bipush (v := 48) hx hb dX12_setCalled_10 (by decide) ?_
      refine lv_idiv hx hb dX12_setCalled_12 (by decide) ?_
      refine lv_aload_n hx hb dX12_setCalled_13 rfl (lv_at hl 0 rfl) ?_
      obtain ⟨v2, g_v2, hs⟩ := bd hs
      refine ro_gI F M fg_12_1 t_1007 g_v2 dX12_setCalled_14 ?_
      obtain ⟨q7, hsq7, hs⟩ := bd hs
      have KJ33 : ∀ (ls : Array Slot) (H : Heap) (locs : List Loc), lv_has ls 3 [(0, .ref th), (1, .int x1)] → Mo D cy A H0 h H locs → W p l e rm_X12_setCalled s m args below meth c H locs 0 0 (MQ below (QR D cy qF A none) args s 0 0 A) (F0 m 33 ls [.int q7]) := by
        intro ls H locs hl M
        refine lv_istore_n (i := 2) (lv' := [(2, .int q7), (0, .ref th), (1, .int x1)]) hx hb dX12_setCalled_33 rfl hl (by decide) rfl (fun ls hl => ?_)
        refine lv_aload_n hx hb dX12_setCalled_34 rfl (lv_at hl 1 rfl) ?_
        obtain ⟨v8, g_v8, hs⟩ := bd hs
        refine ro_gR F M fg_12_18 t_1024 g_v8 dX12_setCalled_35 ?_
        refine lv_iload_n hx hb dX12_setCalled_38 rfl (lv_at hl 2 rfl) ?_
        refine lv_iload_n hx hb dX12_setCalled_39 rfl (lv_at hl 0 rfl) ?_
        obtain ⟨q15, hsq15, hs⟩ := bd hs
        have KJ65 : ∀ (ls : Array Slot) (H : Heap) (locs : List Loc), lv_has ls 3 [(0, .ref th), (1, .int x1)] → Mo D cy A H0 h H locs → W p l e rm_X12_setCalled s m args below meth c H locs 0 0 (MQ below (QR D cy qF A none) args s 0 0 A) (F0 m 65 ls [.int q15, .int x1, va_rf v8]) := by
          intro ls H locs hl M
          obtain ⟨h16, g_h16, hs⟩ := bd hs
          refine ro_sI F M g_h16 dX12_setCalled_65 (fun H locs M => ?_)
          refine lv_aload_n hx hb dX12_setCalled_66 rfl (lv_at hl 0 rfl) ?_
          obtain ⟨v17, g_v17, hs⟩ := bd hs
          refine ro_gR F M fg_12_19 t_1025 g_v17 dX12_setCalled_67 ?_
          refine lv_iload_n hx hb dX12_setCalled_70 rfl (lv_at hl 1 rfl) ?_
          refine lv_iconst (v := (-1)) hx hb dX12_setCalled_71 (by decide) ?_
          obtain ⟨h18, g_h18, hs⟩ := bd hs
          refine ro_sI F M g_h18 dX12_setCalled_72 (fun H locs M => ?_)
          refine lv_iinc (v := x1 + 1) (lv' := [(1, .int (x1 + 1)), (0, .ref th)]) hx hb dX12_setCalled_73 hl (k := 1) rfl rfl (by decide) rfl (fun ls hl => ?_)
          refine lv_goto (tgt := 2) hx hb dX12_setCalled_76 (by decide) ?_
          exact ih (x1 + 1) h18 _ _ _ _ hs (lv_sub hl [1, 0] rfl) M kx kr
        clear hs
        have hs := hsq15
        refine lv_if_eq (tgt := 64) hx hb dX12_setCalled_40 (by decide) (fun c9 => ?_) (fun c9 => ?_)
        · rw [if_pos c9] at hs
          refine lv_iconst (v := (-1)) hx hb dX12_setCalled_64 (by decide) ?_
          obtain rfl := Option.some.inj hs
          exact KJ65 _ _ _ (lv_sub hl [1, 2] rfl) M
        · rw [if_neg c9] at hs
          refine lv_aload_n hx hb dX12_setCalled_43 rfl (lv_at hl 1 rfl) ?_
          refine lv_aload_n hx hb dX12_setCalled_44 rfl (lv_at hl 1 rfl) ?_
          obtain ⟨v10, g_v10, hs⟩ := bd hs
          refine ro_gR F M fg_12_14 t_1020 g_v10 dX12_setCalled_45 ?_
          refine lv_bipush (v := 6) hx hb dX12_setCalled_48 (by decide) ?_
          refine lv_iload_n hx hb dX12_setCalled_50 rfl (lv_at hl 2 rfl) ?_
          refine lv_imul hx hb dX12_setCalled_51 ?_
          refine lv_aload_n hx hb dX12_setCalled_52 rfl (lv_at hl 1 rfl) ?_
          obtain ⟨v11, g_v11, hs⟩ := bd hs
          refine ro_gR F M fg_12_13 t_1019 g_v11 dX12_setCalled_53 ?_
          refine lv_iload_n hx hb dX12_setCalled_56 rfl (lv_at hl 2 rfl) ?_
          obtain ⟨v12, g_v12, hs⟩ := bd hs
          refine ro_aI F M g_v12 dX12_setCalled_57 ?_
          obtain ⟨v13, g_v13, hs⟩ := bd hs
          obtain ⟨a14, e_a14, k_a14, g_v13⟩ := cV_some g_v13
          obtain rfl := Option.some.inj e_a14
          refine ca_Vi (bq := th) (As := [va_rf v10, .int (6 * x1), .int v12]) (rest := [.int x1, va_rf v8]) F M (c_X12_withCall g_v13) mf_X12_withCall t_1247 k_a14 rfl ⟨by decide, by decide⟩ ⟨rfl, rfl⟩ ⟨Nat.zero_le _, Nat.zero_le _⟩ hl.1 rfl (by simp [cat_rf, cat_i, cat_j, cat_r]) dX12_setCalled_58 (fun H locs M => ?_)
          refine lv_goto (tgt := 65) hx hb dX12_setCalled_61 (by decide) ?_
          obtain rfl := Option.some.inj hs
          exact KJ65 _ _ _ (lv_sub hl [1, 2] rfl) M
      clear hs
      have hs := hsq7
      refine lv_icmp_ge (tgt := 32) hx hb dX12_setCalled_17 (by decide) (fun c3 => ?_) (fun c3 => ?_)
      · rw [if_pos c3] at hs
        refine lv_iconst (v := 0) hx hb dX12_setCalled_32 (by decide) ?_
        obtain rfl := Option.some.inj hs
        exact KJ33 _ _ _ (lv_sub hl [0, 1] rfl) M
      · rw [if_neg c3] at hs
        refine lv_aload_n hx hb dX12_setCalled_20 rfl (lv_at hl 0 rfl) ?_
        refine lv_iload_n hx hb dX12_setCalled_21 rfl (lv_at hl 1 rfl) ?_
        obtain ⟨v4, g_v4, hs⟩ := bd hs
        obtain ⟨a6, e_a6, k_a6, g_v4⟩ := cV_some g_v4
        obtain rfl := Option.some.inj e_a6
        refine ca_Vi (bq := th) (As := [.int x1]) (rest := []) F M (c_X12_isContactAt g_v4) mf_X12_isContactAt t_1352 k_a6 rfl ⟨by decide, by decide⟩ ⟨rfl, rfl⟩ ⟨Nat.zero_le _, Nat.zero_le _⟩ hl.1 rfl (by decide) dX12_setCalled_22 (fun H locs M => ?_)
        refine lv_if_eq (tgt := 32) hx hb dX12_setCalled_25 (by decide) (fun c5 => ?_) (fun c5 => ?_)
        · rw [if_pos c5] at hs
          refine lv_iconst (v := 0) hx hb dX12_setCalled_32 (by decide) ?_
          obtain rfl := Option.some.inj hs
          exact KJ33 _ _ _ (lv_sub hl [0, 1] rfl) M
        · rw [if_neg c5] at hs
          refine lv_iconst (v := 1) hx hb dX12_setCalled_28 (by decide) ?_
          refine lv_goto (tgt := 33) hx hb dX12_setCalled_29 (by decide) ?_
          obtain rfl := Option.some.inj hs
          exact KJ33 _ _ _ (lv_sub hl [0, 1] rfl) M
set_option maxHeartbeats 4000000 in
set_option maxRecDepth 100000 in
theorem c_X12_setCalled {l : Launch} {D : va_G} {cy : Nat → ClassId} {sz N : Nat} {h : IH} {th : Nat} {qF : IH} (hs : s_X12_setCalled N h th = some qF) : Ct l D cy yX12_setCalled cX12_setCalled 3 none rm_X12_setCalled h sz [.ref th] qF none := by
  refine ct_start (by decide +kernel) [(0, .ref th)] (Nat.le_of_ble_eq_true rfl) rfl ?_
  intro p e s m args below meth c A H0 ls F hin hsz M hl
  obtain ⟨hx, hb, hr, hml, hown, hlk, hts, hK, hN, hA, hH⟩ := id F
  generalize s.heap = H at M ⊢
  generalize ([] : List Loc) = locs at M ⊢
  unfold s_X12_setCalled at hs
  refine lv_iconst (v := 0) hx hb dX12_setCalled_0 (by decide) ?_
  refine lv_istore_n (i := 1) (lv' := [(1, .int 0), (0, .ref th)]) hx hb dX12_setCalled_1 rfl hl (by decide) rfl (fun ls hl => ?_)
  obtain ⟨q19, g_q19, hs⟩ := bd hs
  refine w_X12_setCalled_L2 F N 0 h _ _ _ q19 g_q19 (lv_sub hl [1, 0] rfl) M (fun t_ ls H locs eq_ hl M => ?_) (fun v eq_ => eq_.elim)
  subst eq_
  obtain rfl := Option.some.inj hs
  exact re_v F M dX12_setCalled_79
abbrev rm_X12_hasLog : Room := { frames := 2, cells := 0, slots := 0, locals := 46 }
theorem mf_X12_hasLog : MV 12 yX12_hasLog cX12_hasLog 2 (some .boolean) 1 RX12 := ⟨t_1359, t_1358, tS_95, t_12, ⟨by decide +kernel, by decide +kernel, by decide +kernel⟩, rfl, by decide⟩
def s_X12_hasLog (h : IH) (th : Nat) (a0 : Int32) : Option (Int32) := (cV h 12 (some th) fun a13 => s_X12_isStation h a13 a0).bind fun v1 => ((if v1 = 0 then some 0 else (gR h 12 9 (some th)).bind fun v3 => (aI h v3 (3 * a0)).bind fun v4 => if 0 ≤ v4 then some 1 else (gR h 12 9 (some th)).bind fun v6 => (aI h v6 ((3 * a0) + 1)).bind fun v7 => if 0 ≤ v7 then some 1 else (gR h 12 9 (some th)).bind fun v9 => (aI h v9 ((3 * a0) + 2)).bind fun v10 => if v10 < 0 then some 0 else some 1) : Option (Int32)).bind fun q12 => if q12 = 0 ∨ q12 = 1 then some q12 else none
set_option maxHeartbeats 4000000 in
set_option maxRecDepth 100000 in
theorem c_X12_hasLog {l : Launch} {D : va_G} {cy : Nat → ClassId} {sz : Nat} {h : IH} {th : Nat} {a0 : Int32} {qF : Int32} (hs : s_X12_hasLog h th a0 = some qF) : Ct l D cy yX12_hasLog cX12_hasLog 2 (some .boolean) rm_X12_hasLog h sz [.ref th, .int a0] h (some (.int qF)) := by
  refine ct_start (by decide +kernel) [(0, .ref th), (1, .int a0)] (Nat.le_of_ble_eq_true rfl) rfl ?_
  intro p e s m args below meth c A H0 ls F hin hsz M hl
  obtain ⟨hx, hb, hr, hml, hown, hlk, hts, hK, hN, hA, hH⟩ := id F
  generalize s.heap = H at M ⊢
  generalize ([] : List Loc) = locs at M ⊢
  unfold s_X12_hasLog at hs
  refine lv_aload_n hx hb dX12_hasLog_0 rfl (lv_at hl 0 rfl) ?_
  refine lv_iload_n hx hb dX12_hasLog_1 rfl (lv_at hl 1 rfl) ?_
  obtain ⟨v1, g_v1, hs⟩ := bd hs
  obtain ⟨a13, e_a13, k_a13, g_v1⟩ := cV_some g_v1
  obtain rfl := Option.some.inj e_a13
  refine ca_Vi (bq := th) (As := [.int a0]) (rest := []) F M (c_X12_isStation g_v1) mf_X12_isStation t_1259 k_a13 rfl ⟨by decide, by decide⟩ ⟨rfl, rfl⟩ ⟨Nat.zero_le _, Nat.zero_le _⟩ hl.1 rfl (by decide) dX12_hasLog_2 (fun H locs M => ?_)
  obtain ⟨q12, hsq12, hs⟩ := bd hs
  have KJ50 : ∀ (ls : Array Slot) (H : Heap) (locs : List Loc), lv_has ls 2 [] → Mo D cy A H0 h H locs → W p l e rm_X12_hasLog s m args below meth c H locs 0 0 (MQ below (QR D cy h A (some (.int qF))) args s 0 0 A) (F0 m 50 ls [.int q12]) := by
    intro ls H locs hl M
    by_cases zg : q12 = 0 ∨ q12 = 1
    · rw [if_pos zg] at hs
      obtain rfl := Option.some.inj hs
      exact re_z F M zg dX12_hasLog_50
    · rw [if_neg zg] at hs; cases hs
  clear hs
  have hs := hsq12
  refine lv_if_eq (tgt := 49) hx hb dX12_hasLog_5 (by decide) (fun c2 => ?_) (fun c2 => ?_)
  · rw [if_pos c2] at hs
    refine lv_iconst (v := 0) hx hb dX12_hasLog_49 (by decide) ?_
    obtain rfl := Option.some.inj hs
    exact KJ50 _ _ _ (lv_sub hl [] rfl) M
  · rw [if_neg c2] at hs
    refine lv_aload_n hx hb dX12_hasLog_8 rfl (lv_at hl 0 rfl) ?_
    obtain ⟨v3, g_v3, hs⟩ := bd hs
    refine ro_gR F M fg_12_9 t_1015 g_v3 dX12_hasLog_9 ?_
    refine lv_iconst (v := 3) hx hb dX12_hasLog_12 (by decide) ?_
    refine lv_iload_n hx hb dX12_hasLog_13 rfl (lv_at hl 1 rfl) ?_
    refine lv_imul hx hb dX12_hasLog_14 ?_
    obtain ⟨v4, g_v4, hs⟩ := bd hs
    refine ro_aI F M g_v4 dX12_hasLog_15 ?_
    refine lv_if_ge (tgt := 45) hx hb dX12_hasLog_16 (by decide) (fun c5 => ?_) (fun c5 => ?_)
    · rw [if_pos c5] at hs
      refine lv_iconst (v := 1) hx hb dX12_hasLog_45 (by decide) ?_
      refine lv_goto (tgt := 50) hx hb dX12_hasLog_46 (by decide) ?_
      obtain rfl := Option.some.inj hs
      exact KJ50 _ _ _ (lv_sub hl [] rfl) M
    · rw [if_neg c5] at hs
      refine lv_aload_n hx hb dX12_hasLog_19 rfl (lv_at hl 0 rfl) ?_
      obtain ⟨v6, g_v6, hs⟩ := bd hs
      refine ro_gR F M fg_12_9 t_1015 g_v6 dX12_hasLog_20 ?_
      refine lv_iconst (v := 3) hx hb dX12_hasLog_23 (by decide) ?_
      refine lv_iload_n hx hb dX12_hasLog_24 rfl (lv_at hl 1 rfl) ?_
      refine lv_imul hx hb dX12_hasLog_25 ?_
      refine lv_iconst (v := 1) hx hb dX12_hasLog_26 (by decide) ?_
      refine lv_iadd hx hb dX12_hasLog_27 ?_
      obtain ⟨v7, g_v7, hs⟩ := bd hs
      refine ro_aI F M g_v7 dX12_hasLog_28 ?_
      refine lv_if_ge (tgt := 45) hx hb dX12_hasLog_29 (by decide) (fun c8 => ?_) (fun c8 => ?_)
      · rw [if_pos c8] at hs
        refine lv_iconst (v := 1) hx hb dX12_hasLog_45 (by decide) ?_
        refine lv_goto (tgt := 50) hx hb dX12_hasLog_46 (by decide) ?_
        obtain rfl := Option.some.inj hs
        exact KJ50 _ _ _ (lv_sub hl [] rfl) M
      · rw [if_neg c8] at hs
        refine lv_aload_n hx hb dX12_hasLog_32 rfl (lv_at hl 0 rfl) ?_
        obtain ⟨v9, g_v9, hs⟩ := bd hs
        refine ro_gR F M fg_12_9 t_1015 g_v9 dX12_hasLog_33 ?_
        refine lv_iconst (v := 3) hx hb dX12_hasLog_36 (by decide) ?_
        refine lv_iload_n hx hb dX12_hasLog_37 rfl (lv_at hl 1 rfl) ?_
        refine lv_imul hx hb dX12_hasLog_38 ?_
        refine lv_iconst (v := 2) hx hb dX12_hasLog_39 (by decide) ?_
        refine lv_iadd hx hb dX12_hasLog_40 ?_
        obtain ⟨v10, g_v10, hs⟩ := bd hs
        refine ro_aI F M g_v10 dX12_hasLog_41 ?_
        refine lv_if_lt (tgt := 49) hx hb dX12_hasLog_42 (by decide) (fun c11 => ?_) (fun c11 => ?_)
        · rw [if_pos c11] at hs
          refine lv_iconst (v := 0) hx hb dX12_hasLog_49 (by decide) ?_
          obtain rfl := Option.some.inj hs
          exact KJ50 _ _ _ (lv_sub hl [] rfl) M
        · rw [if_neg c11] at hs
          refine lv_iconst (v := 1) hx hb dX12_hasLog_45 (by decide) ?_
          refine lv_goto (tgt := 50) hx hb dX12_hasLog_46 (by decide) ?_
          obtain rfl := Option.some.inj hs
          exact KJ50 _ _ _ (lv_sub hl [] rfl) M
abbrev rm_X12_isWhole : Room := { frames := 0, cells := 0, slots := 0, locals := 0 }
theorem mf_X12_isWhole : MV 12 yX12_isWhole cX12_isWhole 2 (some .boolean) 1 RX12 := ⟨t_1379, t_1378, tS_100, t_12, ⟨by decide +kernel, by decide +kernel, by decide +kernel⟩, rfl, by decide⟩
def s_X12_isWhole (h : IH) (th : Nat) (a0 : Int32) : Option (Int32) := (gR h 12 15 (some th)).bind fun v1 => (aI h v1 a0).bind fun v2 => ((if v2 < 0 then some 0 else (gR h 12 16 (some th)).bind fun v4 => (aI h v4 a0).bind fun v5 => if v5 < 0 then some 0 else some 1) : Option (Int32)).bind fun q7 => if q7 = 0 ∨ q7 = 1 then some q7 else none
set_option maxHeartbeats 4000000 in
set_option maxRecDepth 100000 in
theorem c_X12_isWhole {l : Launch} {D : va_G} {cy : Nat → ClassId} {sz : Nat} {h : IH} {th : Nat} {a0 : Int32} {qF : Int32} (hs : s_X12_isWhole h th a0 = some qF) : Ct l D cy yX12_isWhole cX12_isWhole 2 (some .boolean) rm_X12_isWhole h sz [.ref th, .int a0] h (some (.int qF)) := by
  refine ct_start (by decide +kernel) [(0, .ref th), (1, .int a0)] (Nat.le_of_ble_eq_true rfl) rfl ?_
  intro p e s m args below meth c A H0 ls F hin hsz M hl
  obtain ⟨hx, hb, hr, hml, hown, hlk, hts, hK, hN, hA, hH⟩ := id F
  generalize s.heap = H at M ⊢
  generalize ([] : List Loc) = locs at M ⊢
  unfold s_X12_isWhole at hs
  refine lv_aload_n hx hb dX12_isWhole_0 rfl (lv_at hl 0 rfl) ?_
  obtain ⟨v1, g_v1, hs⟩ := bd hs
  refine ro_gR F M fg_12_15 t_1021 g_v1 dX12_isWhole_1 ?_
  refine lv_iload_n hx hb dX12_isWhole_4 rfl (lv_at hl 1 rfl) ?_
  obtain ⟨v2, g_v2, hs⟩ := bd hs
  refine ro_aI F M g_v2 dX12_isWhole_5 ?_
  obtain ⟨q7, hsq7, hs⟩ := bd hs
  have KJ23 : ∀ (ls : Array Slot) (H : Heap) (locs : List Loc), lv_has ls 2 [] → Mo D cy A H0 h H locs → W p l e rm_X12_isWhole s m args below meth c H locs 0 0 (MQ below (QR D cy h A (some (.int qF))) args s 0 0 A) (F0 m 23 ls [.int q7]) := by
    intro ls H locs hl M
    by_cases zg : q7 = 0 ∨ q7 = 1
    · rw [if_pos zg] at hs
      obtain rfl := Option.some.inj hs
      exact re_z F M zg dX12_isWhole_23
    · rw [if_neg zg] at hs; cases hs
  clear hs
  have hs := hsq7
  refine lv_if_lt (tgt := 22) hx hb dX12_isWhole_6 (by decide) (fun c3 => ?_) (fun c3 => ?_)
  · rw [if_pos c3] at hs
    refine lv_iconst (v := 0) hx hb dX12_isWhole_22 (by decide) ?_
    obtain rfl := Option.some.inj hs
    exact KJ23 _ _ _ (lv_sub hl [] rfl) M
  · rw [if_neg c3] at hs
    refine lv_aload_n hx hb dX12_isWhole_9 rfl (lv_at hl 0 rfl) ?_
    obtain ⟨v4, g_v4, hs⟩ := bd hs
    refine ro_gR F M fg_12_16 t_1022 g_v4 dX12_isWhole_10 ?_
    refine lv_iload_n hx hb dX12_isWhole_13 rfl (lv_at hl 1 rfl) ?_
    obtain ⟨v5, g_v5, hs⟩ := bd hs
    refine ro_aI F M g_v5 dX12_isWhole_14 ?_
    refine lv_if_lt (tgt := 22) hx hb dX12_isWhole_15 (by decide) (fun c6 => ?_) (fun c6 => ?_)
    · rw [if_pos c6] at hs
      refine lv_iconst (v := 0) hx hb dX12_isWhole_22 (by decide) ?_
      obtain rfl := Option.some.inj hs
      exact KJ23 _ _ _ (lv_sub hl [] rfl) M
    · rw [if_neg c6] at hs
      refine lv_iconst (v := 1) hx hb dX12_isWhole_18 (by decide) ?_
      refine lv_goto (tgt := 23) hx hb dX12_isWhole_19 (by decide) ?_
      obtain rfl := Option.some.inj hs
      exact KJ23 _ _ _ (lv_sub hl [] rfl) M
abbrev rm_X12_fit : Room := { frames := 1, cells := 0, slots := 0, locals := 21 }
theorem mf_X12_fit : MV 12 yX12_fit cX12_fit 3 (some .boolean) 2 RX12 := ⟨t_1375, t_1374, tS_99, t_12, ⟨by decide +kernel, by decide +kernel, by decide +kernel⟩, rfl, by decide⟩
def s_X12_fit (h : IH) (th : Nat) (a0 : Int32) (a1 : Int32) : Option (Int32) := (cV h 12 (some th) fun a17 => s_X12_isWhole h a17 a0).bind fun v1 => ((if v1 = 0 then some 0 else (cV h 12 (some th) fun a15 => s_X12_isWhole h a15 a1).bind fun v3 => if v3 = 0 then some 0 else (gR h 12 16 (some th)).bind fun v5 => (aI h v5 a0).bind fun v6 => (gR h 12 15 (some th)).bind fun v7 => (aI h v7 a1).bind fun v8 => if v6 = v8 then (gR h 12 16 (some th)).bind fun v10 => (aI h v10 a1).bind fun v11 => (gR h 12 15 (some th)).bind fun v12 => (aI h v12 a0).bind fun v13 => if v11 = v13 then some 1 else some 0 else some 0) : Option (Int32)).bind fun q16 => if q16 = 0 ∨ q16 = 1 then some q16 else none
set_option maxHeartbeats 4000000 in
set_option maxRecDepth 100000 in
theorem c_X12_fit {l : Launch} {D : va_G} {cy : Nat → ClassId} {sz : Nat} {h : IH} {th : Nat} {a0 : Int32} {a1 : Int32} {qF : Int32} (hs : s_X12_fit h th a0 a1 = some qF) : Ct l D cy yX12_fit cX12_fit 3 (some .boolean) rm_X12_fit h sz [.ref th, .int a0, .int a1] h (some (.int qF)) := by
  refine ct_start (by decide +kernel) [(0, .ref th), (1, .int a0), (2, .int a1)] (Nat.le_of_ble_eq_true rfl) rfl ?_
  intro p e s m args below meth c A H0 ls F hin hsz M hl
  obtain ⟨hx, hb, hr, hml, hown, hlk, hts, hK, hN, hA, hH⟩ := id F
  generalize s.heap = H at M ⊢
  generalize ([] : List Loc) = locs at M ⊢
  unfold s_X12_fit at hs
  refine lv_aload_n hx hb dX12_fit_0 rfl (lv_at hl 0 rfl) ?_
  refine lv_iload_n hx hb dX12_fit_1 rfl (lv_at hl 1 rfl) ?_
  obtain ⟨v1, g_v1, hs⟩ := bd hs
  obtain ⟨a17, e_a17, k_a17, g_v1⟩ := cV_some g_v1
  obtain rfl := Option.some.inj e_a17
  refine ca_Vi (bq := th) (As := [.int a0]) (rest := []) F M (c_X12_isWhole g_v1) mf_X12_isWhole t_1376 k_a17 rfl ⟨by decide, by decide⟩ ⟨rfl, rfl⟩ ⟨Nat.zero_le _, Nat.zero_le _⟩ hl.1 rfl (by decide) dX12_fit_2 (fun H locs M => ?_)
  obtain ⟨q16, hsq16, hs⟩ := bd hs
  have KJ51 : ∀ (ls : Array Slot) (H : Heap) (locs : List Loc), lv_has ls 3 [] → Mo D cy A H0 h H locs → W p l e rm_X12_fit s m args below meth c H locs 0 0 (MQ below (QR D cy h A (some (.int qF))) args s 0 0 A) (F0 m 51 ls [.int q16]) := by
    intro ls H locs hl M
    by_cases zg : q16 = 0 ∨ q16 = 1
    · rw [if_pos zg] at hs
      obtain rfl := Option.some.inj hs
      exact re_z F M zg dX12_fit_51
    · rw [if_neg zg] at hs; cases hs
  clear hs
  have hs := hsq16
  refine lv_if_eq (tgt := 50) hx hb dX12_fit_5 (by decide) (fun c2 => ?_) (fun c2 => ?_)
  · rw [if_pos c2] at hs
    refine lv_iconst (v := 0) hx hb dX12_fit_50 (by decide) ?_
    obtain rfl := Option.some.inj hs
    exact KJ51 _ _ _ (lv_sub hl [] rfl) M
  · rw [if_neg c2] at hs
    refine lv_aload_n hx hb dX12_fit_8 rfl (lv_at hl 0 rfl) ?_
    refine lv_iload_n hx hb dX12_fit_9 rfl (lv_at hl 2 rfl) ?_
    obtain ⟨v3, g_v3, hs⟩ := bd hs
    obtain ⟨a15, e_a15, k_a15, g_v3⟩ := cV_some g_v3
    obtain rfl := Option.some.inj e_a15
    refine ca_Vi (bq := th) (As := [.int a1]) (rest := []) F M (c_X12_isWhole g_v3) mf_X12_isWhole t_1376 k_a15 rfl ⟨by decide, by decide⟩ ⟨rfl, rfl⟩ ⟨Nat.zero_le _, Nat.zero_le _⟩ hl.1 rfl (by decide) dX12_fit_10 (fun H locs M => ?_)
    refine lv_if_eq (tgt := 50) hx hb dX12_fit_13 (by decide) (fun c4 => ?_) (fun c4 => ?_)
    · rw [if_pos c4] at hs
      refine lv_iconst (v := 0) hx hb dX12_fit_50 (by decide) ?_
      obtain rfl := Option.some.inj hs
      exact KJ51 _ _ _ (lv_sub hl [] rfl) M
    · rw [if_neg c4] at hs
      refine lv_aload_n hx hb dX12_fit_16 rfl (lv_at hl 0 rfl) ?_
      obtain ⟨v5, g_v5, hs⟩ := bd hs
      refine ro_gR F M fg_12_16 t_1022 g_v5 dX12_fit_17 ?_
      refine lv_iload_n hx hb dX12_fit_20 rfl (lv_at hl 1 rfl) ?_
      obtain ⟨v6, g_v6, hs⟩ := bd hs
      refine ro_aI F M g_v6 dX12_fit_21 ?_
      refine lv_aload_n hx hb dX12_fit_22 rfl (lv_at hl 0 rfl) ?_
      obtain ⟨v7, g_v7, hs⟩ := bd hs
      refine ro_gR F M fg_12_15 t_1021 g_v7 dX12_fit_23 ?_
      refine lv_iload_n hx hb dX12_fit_26 rfl (lv_at hl 2 rfl) ?_
      obtain ⟨v8, g_v8, hs⟩ := bd hs
      refine ro_aI F M g_v8 dX12_fit_27 ?_
      refine lv_icmp_ne (tgt := 50) hx hb dX12_fit_28 (by decide) (fun c9 => ?_) (fun c9 => ?_)
      · rw [if_neg c9] at hs
        refine lv_iconst (v := 0) hx hb dX12_fit_50 (by decide) ?_
        obtain rfl := Option.some.inj hs
        exact KJ51 _ _ _ (lv_sub hl [] rfl) M
      · rw [if_pos c9] at hs
        refine lv_aload_n hx hb dX12_fit_31 rfl (lv_at hl 0 rfl) ?_
        obtain ⟨v10, g_v10, hs⟩ := bd hs
        refine ro_gR F M fg_12_16 t_1022 g_v10 dX12_fit_32 ?_
        refine lv_iload_n hx hb dX12_fit_35 rfl (lv_at hl 2 rfl) ?_
        obtain ⟨v11, g_v11, hs⟩ := bd hs
        refine ro_aI F M g_v11 dX12_fit_36 ?_
        refine lv_aload_n hx hb dX12_fit_37 rfl (lv_at hl 0 rfl) ?_
        obtain ⟨v12, g_v12, hs⟩ := bd hs
        refine ro_gR F M fg_12_15 t_1021 g_v12 dX12_fit_38 ?_
        refine lv_iload_n hx hb dX12_fit_41 rfl (lv_at hl 1 rfl) ?_
        obtain ⟨v13, g_v13, hs⟩ := bd hs
        refine ro_aI F M g_v13 dX12_fit_42 ?_
        refine lv_icmp_ne (tgt := 50) hx hb dX12_fit_43 (by decide) (fun c14 => ?_) (fun c14 => ?_)
        · rw [if_neg c14] at hs
          refine lv_iconst (v := 0) hx hb dX12_fit_50 (by decide) ?_
          obtain rfl := Option.some.inj hs
          exact KJ51 _ _ _ (lv_sub hl [] rfl) M
        · rw [if_pos c14] at hs
          refine lv_iconst (v := 1) hx hb dX12_fit_46 (by decide) ?_
          refine lv_goto (tgt := 51) hx hb dX12_fit_47 (by decide) ?_
          obtain rfl := Option.some.inj hs
          exact KJ51 _ _ _ (lv_sub hl [] rfl) M
abbrev rm_X12_apart : Room := { frames := 0, cells := 0, slots := 0, locals := 0 }
theorem mf_X12_apart : MS yX12_apart cX12_apart 4 (some .long) 2 := ⟨t_1383, t_1382, t_12, ⟨by decide +kernel, by decide +kernel, by decide +kernel⟩⟩
def s_X12_apart (h : IH) (a0 : Int64) (a1 : Int64) : Option (Int64) := ((if 0 ≤ (lg_cmp a0 a1) then some (a0 - a1) else some (a1 - a0)) : Option (Int64)).bind fun q2 => some q2
set_option maxHeartbeats 4000000 in
set_option maxRecDepth 100000 in
theorem c_X12_apart {l : Launch} {D : va_G} {cy : Nat → ClassId} {sz : Nat} {h : IH} {a0 : Int64} {a1 : Int64} {qF : Int64} (hs : s_X12_apart h a0 a1 = some qF) : Ct l D cy yX12_apart cX12_apart 4 (some .long) rm_X12_apart h sz [.long a0, .long a1] h (some (.long qF)) := by
  refine ct_start (by decide +kernel) [(0, .long a0), (2, .long a1)] (Nat.le_of_ble_eq_true rfl) rfl ?_
  intro p e s m args below meth c A H0 ls F hin hsz M hl
  obtain ⟨hx, hb, hr, hml, hown, hlk, hts, hK, hN, hA, hH⟩ := id F
  generalize s.heap = H at M ⊢
  generalize ([] : List Loc) = locs at M ⊢
  unfold s_X12_apart at hs
  refine lv_lload_n hx hb dX12_apart_0 rfl (lv_at hl 0 rfl) ?_
  refine lv_lload_n hx hb dX12_apart_1 rfl (lv_at hl 1 rfl) ?_
  refine W.lcmp hx hb dX12_apart_2 ?_
  obtain ⟨q2, hsq2, hs⟩ := bd hs
  have KJ15 : ∀ (ls : Array Slot) (H : Heap) (locs : List Loc), lv_has ls 4 [] → Mo D cy A H0 h H locs → W p l e rm_X12_apart s m args below meth c H locs 0 0 (MQ below (QR D cy h A (some (.long qF))) args s 0 0 A) (F0 m 15 ls [.long q2]) := by
    intro ls H locs hl M
    obtain rfl := Option.some.inj hs
    exact re_l F M dX12_apart_15
  clear hs
  have hs := hsq2
  refine lv_if_ge (tgt := 12) hx hb dX12_apart_3 (by decide) (fun c1 => ?_) (fun c1 => ?_)
  · rw [if_pos c1] at hs
    refine lv_lload_n hx hb dX12_apart_12 rfl (lv_at hl 0 rfl) ?_
    refine lv_lload_n hx hb dX12_apart_13 rfl (lv_at hl 1 rfl) ?_
    refine lv_lsub hx hb dX12_apart_14 ?_
    obtain rfl := Option.some.inj hs
    exact KJ15 _ _ _ (lv_sub hl [] rfl) M
  · rw [if_neg c1] at hs
    refine lv_lload_n hx hb dX12_apart_6 rfl (lv_at hl 1 rfl) ?_
    refine lv_lload_n hx hb dX12_apart_7 rfl (lv_at hl 0 rfl) ?_
    refine lv_lsub hx hb dX12_apart_8 ?_
    refine lv_goto (tgt := 15) hx hb dX12_apart_9 (by decide) ?_
    obtain rfl := Option.some.inj hs
    exact KJ15 _ _ _ (lv_sub hl [] rfl) M
abbrev rm_X12_distanceOf : Room := { frames := 2, cells := 0, slots := 0, locals := 43 }
theorem mf_X12_distanceOf : MV 12 yX12_distanceOf cX12_distanceOf 11 (some .long) 4 RX12 := ⟨t_1371, t_1370, tS_98, t_12, ⟨by decide +kernel, by decide +kernel, by decide +kernel⟩, rfl, by decide⟩
def s_X12_distanceOf (h : IH) (th : Nat) (a0 : Int32) (a1 : Int32) (a2 : Int64) (a3 : Int64) : Option (Int64) := if (a0 / 48) = (a1 / 48) then some (-1) else (gR h 12 18 (some th)).bind fun v2 => (aI h v2 a0).bind fun v3 => if v3 = (a1 / 48) then (gR h 12 18 (some th)).bind fun v5 => (aI h v5 a1).bind fun v6 => if v6 = (a0 / 48) then (cV h 12 (some th) fun a18 => s_X12_fit h a18 a0 a1).bind fun v8 => if v8 = 0 then some (-1) else (gR h 12 11 (some th)).bind fun v10 => (aJ h v10 a0).bind fun v11 => (gR h 12 11 (some th)).bind fun v12 => (aJ h v12 a1).bind fun v13 => (s_X12_apart h (v11 + a2) (v13 + a3)).bind fun v14 => (gI h 12 21 (some th)).bind fun v15 => ((if (lg_cmp v14 v15.toInt64) ≤ 0 then some v14 else some (-1)) : Option (Int64)).bind fun q17 => some q17 else some (-1) else some (-1)
set_option maxHeartbeats 4000000 in
set_option maxRecDepth 100000 in
theorem c_X12_distanceOf {l : Launch} {D : va_G} {cy : Nat → ClassId} {sz : Nat} {h : IH} {th : Nat} {a0 : Int32} {a1 : Int32} {a2 : Int64} {a3 : Int64} {qF : Int64} (hs : s_X12_distanceOf h th a0 a1 a2 a3 = some qF) : Ct l D cy yX12_distanceOf cX12_distanceOf 11 (some .long) rm_X12_distanceOf h sz [.ref th, .int a0, .int a1, .long a2, .long a3] h (some (.long qF)) := by
  refine ct_start (by decide +kernel) [(0, .ref th), (1, .int a0), (2, .int a1), (3, .long a2), (5, .long a3)] (Nat.le_of_ble_eq_true rfl) rfl ?_
  intro p e s m args below meth c A H0 ls F hin hsz M hl
  obtain ⟨hx, hb, hr, hml, hown, hlk, hts, hK, hN, hA, hH⟩ := id F
  generalize s.heap = H at M ⊢
  generalize ([] : List Loc) = locs at M ⊢
  unfold s_X12_distanceOf at hs
  refine lv_iload_n hx hb dX12_distanceOf_0 rfl (lv_at hl 1 rfl) ?_
  refine lv_bipush (v := 48) hx hb dX12_distanceOf_1 (by decide) ?_
  refine lv_idiv hx hb dX12_distanceOf_3 (by decide) ?_
  refine lv_istore (i := 7) (lv' := [(7, .int (a0 / 48)), (0, .ref th), (1, .int a0), (2, .int a1), (3, .long a2), (5, .long a3)]) hx hb dX12_distanceOf_4 hl (by decide) rfl (fun ls hl => ?_)
  refine lv_iload_n hx hb dX12_distanceOf_6 rfl (lv_at hl 3 rfl) ?_
  refine lv_bipush (v := 48) hx hb dX12_distanceOf_7 (by decide) ?_
  refine lv_idiv hx hb dX12_distanceOf_9 (by decide) ?_
  refine lv_istore (i := 8) (lv' := [(8, .int (a1 / 48)), (7, .int (a0 / 48)), (0, .ref th), (1, .int a0), (2, .int a1), (3, .long a2), (5, .long a3)]) hx hb dX12_distanceOf_10 hl (by decide) rfl (fun ls hl => ?_)
  refine lv_iload hx hb dX12_distanceOf_12 (lv_at hl 1 rfl) ?_
  refine lv_iload hx hb dX12_distanceOf_14 (lv_at hl 0 rfl) ?_
  refine lv_icmp_eq (tgt := 50) hx hb dX12_distanceOf_16 (by decide) (fun c1 => ?_) (fun c1 => ?_)
  · rw [if_pos c1] at hs
    refine lv_ldc2 (v := (-1)) hx hb hown (hts _ (List.mem_cons_of_mem _ t_1380)) dX12_distanceOf_50 ?_
    obtain rfl := Option.some.inj hs
    exact re_l F M dX12_distanceOf_53
  · rw [if_neg c1] at hs
    refine lv_aload_n hx hb dX12_distanceOf_19 rfl (lv_at hl 2 rfl) ?_
    obtain ⟨v2, g_v2, hs⟩ := bd hs
    refine ro_gR F M fg_12_18 t_1024 g_v2 dX12_distanceOf_20 ?_
    refine lv_iload_n hx hb dX12_distanceOf_23 rfl (lv_at hl 3 rfl) ?_
    obtain ⟨v3, g_v3, hs⟩ := bd hs
    refine ro_aI F M g_v3 dX12_distanceOf_24 ?_
    refine lv_iload hx hb dX12_distanceOf_25 (lv_at hl 0 rfl) ?_
    refine lv_icmp_ne (tgt := 50) hx hb dX12_distanceOf_27 (by decide) (fun c4 => ?_) (fun c4 => ?_)
    · rw [if_neg c4] at hs
      refine lv_ldc2 (v := (-1)) hx hb hown (hts _ (List.mem_cons_of_mem _ t_1380)) dX12_distanceOf_50 ?_
      obtain rfl := Option.some.inj hs
      exact re_l F M dX12_distanceOf_53
    · rw [if_pos c4] at hs
      refine lv_aload_n hx hb dX12_distanceOf_30 rfl (lv_at hl 2 rfl) ?_
      obtain ⟨v5, g_v5, hs⟩ := bd hs
      refine ro_gR F M fg_12_18 t_1024 g_v5 dX12_distanceOf_31 ?_
      refine lv_iload_n hx hb dX12_distanceOf_34 rfl (lv_at hl 4 rfl) ?_
      obtain ⟨v6, g_v6, hs⟩ := bd hs
      refine ro_aI F M g_v6 dX12_distanceOf_35 ?_
      refine lv_iload hx hb dX12_distanceOf_36 (lv_at hl 1 rfl) ?_
      refine lv_icmp_ne (tgt := 50) hx hb dX12_distanceOf_38 (by decide) (fun c7 => ?_) (fun c7 => ?_)
      · rw [if_neg c7] at hs
        refine lv_ldc2 (v := (-1)) hx hb hown (hts _ (List.mem_cons_of_mem _ t_1380)) dX12_distanceOf_50 ?_
        obtain rfl := Option.some.inj hs
        exact re_l F M dX12_distanceOf_53
      · rw [if_pos c7] at hs
        refine lv_aload_n hx hb dX12_distanceOf_41 rfl (lv_at hl 2 rfl) ?_
        refine lv_iload_n hx hb dX12_distanceOf_42 rfl (lv_at hl 3 rfl) ?_
        refine lv_iload_n hx hb dX12_distanceOf_43 rfl (lv_at hl 4 rfl) ?_
        obtain ⟨v8, g_v8, hs⟩ := bd hs
        obtain ⟨a18, e_a18, k_a18, g_v8⟩ := cV_some g_v8
        obtain rfl := Option.some.inj e_a18
        refine ca_Vi (bq := th) (As := [.int a0, .int a1]) (rest := []) F M (c_X12_fit g_v8) mf_X12_fit t_1372 k_a18 rfl ⟨by decide, by decide⟩ ⟨rfl, rfl⟩ ⟨Nat.zero_le _, Nat.zero_le _⟩ hl.1 rfl (by decide) dX12_distanceOf_44 (fun H locs M => ?_)
        refine lv_if_ne (tgt := 54) hx hb dX12_distanceOf_47 (by decide) (fun c9 => ?_) (fun c9 => ?_)
        · rw [if_neg c9] at hs
          refine lv_aload_n hx hb dX12_distanceOf_54 rfl (lv_at hl 2 rfl) ?_
          obtain ⟨v10, g_v10, hs⟩ := bd hs
          refine ro_gR F M fg_12_11 t_1017 g_v10 dX12_distanceOf_55 ?_
          refine lv_iload_n hx hb dX12_distanceOf_58 rfl (lv_at hl 3 rfl) ?_
          obtain ⟨v11, g_v11, hs⟩ := bd hs
          refine ro_aJ F M g_v11 dX12_distanceOf_59 ?_
          refine lv_lload_n hx hb dX12_distanceOf_60 rfl (lv_at hl 5 rfl) ?_
          refine lv_ladd hx hb dX12_distanceOf_61 ?_
          refine lv_aload_n hx hb dX12_distanceOf_62 rfl (lv_at hl 2 rfl) ?_
          obtain ⟨v12, g_v12, hs⟩ := bd hs
          refine ro_gR F M fg_12_11 t_1017 g_v12 dX12_distanceOf_63 ?_
          refine lv_iload_n hx hb dX12_distanceOf_66 rfl (lv_at hl 4 rfl) ?_
          obtain ⟨v13, g_v13, hs⟩ := bd hs
          refine ro_aJ F M g_v13 dX12_distanceOf_67 ?_
          refine lv_lload hx hb dX12_distanceOf_68 (lv_at hl 6 rfl) ?_
          refine lv_ladd hx hb dX12_distanceOf_70 ?_
          obtain ⟨v14, g_v14, hs⟩ := bd hs
          refine ca_Sl (As := [.long (v11 + a2), .long (v13 + a3)]) (rest := []) F M (c_X12_apart g_v14) mf_X12_apart t_1381 rfl ⟨by decide, by decide⟩ ⟨rfl, rfl⟩ ⟨Nat.zero_le _, Nat.zero_le _⟩ hl.1 rfl (by decide) dX12_distanceOf_71 (fun H locs M => ?_)
          refine lv_lstore (i := 9) (lv' := [(9, .long v14), (8, .int (a1 / 48)), (7, .int (a0 / 48)), (0, .ref th), (1, .int a0), (2, .int a1), (3, .long a2), (5, .long a3)]) hx hb dX12_distanceOf_74 hl (by decide) rfl (fun ls hl => ?_)
          refine lv_lload hx hb dX12_distanceOf_76 (lv_at hl 0 rfl) ?_
          refine lv_aload_n hx hb dX12_distanceOf_78 rfl (lv_at hl 3 rfl) ?_
          obtain ⟨v15, g_v15, hs⟩ := bd hs
          refine ro_gI F M fg_12_21 t_1027 g_v15 dX12_distanceOf_79 ?_
          refine lv_i2l hx hb dX12_distanceOf_82 rfl ?_
          refine W.lcmp hx hb dX12_distanceOf_83 ?_
          obtain ⟨q17, hsq17, hs⟩ := bd hs
          have KJ95 : ∀ (ls : Array Slot) (H : Heap) (locs : List Loc), lv_has ls 11 [] → Mo D cy A H0 h H locs → W p l e rm_X12_distanceOf s m args below meth c H locs 0 0 (MQ below (QR D cy h A (some (.long qF))) args s 0 0 A) (F0 m 95 ls [.long q17]) := by
            intro ls H locs hl M
            obtain rfl := Option.some.inj hs
            exact re_l F M dX12_distanceOf_95
          clear hs
          have hs := hsq17
          refine lv_if_le (tgt := 93) hx hb dX12_distanceOf_84 (by decide) (fun c16 => ?_) (fun c16 => ?_)
          · rw [if_pos c16] at hs
            refine lv_lload hx hb dX12_distanceOf_93 (lv_at hl 0 rfl) ?_
            obtain rfl := Option.some.inj hs
            exact KJ95 _ _ _ (lv_sub hl [] rfl) M
          · rw [if_neg c16] at hs
            refine lv_ldc2 (v := (-1)) hx hb hown (hts _ (List.mem_cons_of_mem _ t_1380)) dX12_distanceOf_87 ?_
            refine lv_goto (tgt := 95) hx hb dX12_distanceOf_90 (by decide) ?_
            obtain rfl := Option.some.inj hs
            exact KJ95 _ _ _ (lv_sub hl [] rfl) M
        · rw [if_pos c9] at hs
          refine lv_ldc2 (v := (-1)) hx hb hown (hts _ (List.mem_cons_of_mem _ t_1380)) dX12_distanceOf_50 ?_
          obtain rfl := Option.some.inj hs
          exact re_l F M dX12_distanceOf_53
abbrev rm_X12_agreeing : Room := { frames := 3, cells := 0, slots := 0, locals := 73 }
theorem mf_X12_agreeing : MV 12 yX12_agreeing cX12_agreeing 9 (some .int) 2 RX12 := ⟨t_1367, t_1366, tS_97, t_12, ⟨by decide +kernel, by decide +kernel, by decide +kernel⟩, rfl, by decide⟩
def s_X12_agreeing_L70 (N : Nat) : Nat → Nat → Int32 → Int64 → Int32 → Int32 → Int32 → Int32 → Int32 → IH → Option (Int32)
  | 0, _, _, _, _, _, _, _, _, _ => none
  | n + 1, th, x1, x2, x4, x5, x6, x7, x8, h => if (x7 + 16) ≤ x8 then some x6 else if x6 = 0 then (cV h 12 (some th) fun a17 => s_X12_isContactAt h a17 x8).bind fun v11 => ((if v11 = 0 then some 0 else (cV h 12 (some th) fun a15 => s_X12_distanceOf h a15 x5 x8 x2 0).bind fun v13 => if (lg_cmp v13 0) < 0 then some 0 else some 1) : Option (Int32)).bind fun q16 => s_X12_agreeing_L70 N n th x1 x2 x4 x5 q16 x7 (x8 + 1) h else some x6
def s_X12_agreeing_L9 (N : Nat) : Nat → Nat → Int32 → Int64 → Int32 → Int32 → IH → Option (Int32)
  | 0, _, _, _, _, _, _ => none
  | n + 1, th, x1, x2, x4, x5, h => if ((48 * x1) + 48) ≤ x5 then some x4 else (cV h 12 (some th) fun a22 => s_X12_isContactAt h a22 x5).bind fun v2 => ((if v2 = 0 then some 0 else (gR h 12 18 (some th)).bind fun v4 => (aI h v4 x5).bind fun v5 => if v5 < 0 then some 0 else (gR h 12 18 (some th)).bind fun v7 => (aI h v7 x5).bind fun v8 => (s_X12_agreeing_L70 N N th x1 x2 x4 x5 0 ((48 * v8) + (((x5 / 16) - (x5 / 16) / 3 * 3) * 16)) ((48 * v8) + (((x5 / 16) - (x5 / 16) / 3 * 3) * 16)) h).bind fun q18 => some q18) : Option (Int32)).bind fun q19 => ((if q19 = 0 then some 0 else some 1) : Option (Int32)).bind fun q21 => s_X12_agreeing_L9 N n th x1 x2 (x4 + q21) (x5 + 1) h
def s_X12_agreeing (N : Nat) (h : IH) (th : Nat) (a0 : Int32) (a1 : Int64) : Option (Int32) := (s_X12_agreeing_L9 N N th a0 a1 0 (48 * a0) h).bind fun q23 => some q23
set_option maxHeartbeats 4000000 in
set_option maxRecDepth 100000 in
theorem w_X12_agreeing_L70 {p : Program} {l : Launch} {e : Env} {s : State} {m : MethodId} {args : Array Value} {below : List Frame} {meth : Method} {c : Code} {D : va_G} {cy : Nat → ClassId} {A : Nat → Prop} {H0 : Heap} {N th : Nat} {x1 : Int32} {x2 : Int64} {x4 : Int32} {x5 : Int32} {x7 : Int32} {h : IH} {qF : Int32} (F : Fx p s m args meth c D cy A H0 yX12_agreeing cX12_agreeing 9 (some .int)) : ∀ (n : Nat) (x6 : Int32) (x8 : Int32) (ls : Array Slot) (H : Heap) (locs : List Loc) (q : Int32), s_X12_agreeing_L70 N n th x1 x2 x4 x5 x6 x7 x8 h = some q → lv_has ls 9 [(0, .ref th), (1, .int x1), (2, .long x2), (4, .int x4), (5, .int x5), (6, .int x6), (7, .int x7), (8, .int x8)] → Mo D cy A H0 h H locs → (∀ (t : Int32) (ls : Array Slot) (H : Heap) (locs : List Loc), q = t → lv_has ls 9 [(0, .ref th), (1, .int x1), (2, .long x2), (4, .int x4), (5, .int x5), (6, .int t)] → Mo D cy A H0 h H locs → W p l e rm_X12_agreeing s m args below meth c H locs 0 0 (MQ below (QR D cy h A (some (.int qF))) args s 0 0 A) (F0 m 122 ls [])) → (∀ v : Int32, False → v = qF) → W p l e rm_X12_agreeing s m args below meth c H locs 0 0 (MQ below (QR D cy h A (some (.int qF))) args s 0 0 A) (F0 m 70 ls []) := by
  intro n
  induction n with
  | zero => intro x6 x8 ls H locs q hs; rw [s_X12_agreeing_L70.eq_1] at hs; cases hs
  | succ n ih =>
    intro x6 x8 ls H locs q hs hl M kx kr
    obtain ⟨hx, hb, hr, hml, hown, hlk, hts, hK, hN, hA, hH⟩ := id F
    rw [s_X12_agreeing_L70.eq_2] at hs
    refine lv_iload hx hb dX12_agreeing_70 (lv_at hl 7 rfl) ?_
    refine lv_iload hx hb dX12_agreeing_72 (lv_at hl 6 rfl) ?_
    refine lv_bipush (v := 16) hx hb dX12_agreeing_74 (by decide) ?_
    refine lv_iadd hx hb dX12_agreeing_76 ?_
    refine lv_icmp_ge (tgt := 122) hx hb dX12_agreeing_77 (by decide) (fun c9 => ?_) (fun c9 => ?_)
    · rw [if_pos c9] at hs
      exact kx x6 _ _ _ (Option.some.inj hs).symm (lv_sub hl [0, 1, 2, 3, 4, 5] rfl) M
    · rw [if_neg c9] at hs
      refine lv_iload hx hb dX12_agreeing_80 (lv_at hl 5 rfl) ?_
      refine lv_if_ne (tgt := 122) hx hb dX12_agreeing_82 (by decide) (fun c10 => ?_) (fun c10 => ?_)
      · rw [if_neg c10] at hs
        exact kx x6 _ _ _ (Option.some.inj hs).symm (lv_sub hl [0, 1, 2, 3, 4, 5] rfl) M
      · rw [if_pos c10] at hs
        refine lv_aload_n hx hb dX12_agreeing_85 rfl (lv_at hl 0 rfl) ?_
        refine lv_iload hx hb dX12_agreeing_86 (lv_at hl 7 rfl) ?_
        obtain ⟨v11, g_v11, hs⟩ := bd hs
        obtain ⟨a17, e_a17, k_a17, g_v11⟩ := cV_some g_v11
        obtain rfl := Option.some.inj e_a17
        refine ca_Vi (bq := th) (As := [.int x8]) (rest := []) F M (c_X12_isContactAt g_v11) mf_X12_isContactAt t_1352 k_a17 rfl ⟨by decide, by decide⟩ ⟨rfl, rfl⟩ ⟨Nat.zero_le _, Nat.zero_le _⟩ hl.1 rfl (by decide) dX12_agreeing_88 (fun H locs M => ?_)
        obtain ⟨q16, hsq16, hs⟩ := bd hs
        have KJ114 : ∀ (ls : Array Slot) (H : Heap) (locs : List Loc), lv_has ls 9 [(0, .ref th), (1, .int x1), (2, .long x2), (4, .int x4), (5, .int x5), (7, .int x7), (8, .int x8)] → Mo D cy A H0 h H locs → W p l e rm_X12_agreeing s m args below meth c H locs 0 0 (MQ below (QR D cy h A (some (.int qF))) args s 0 0 A) (F0 m 114 ls [.int q16]) := by
          intro ls H locs hl M
          refine lv_istore (i := 6) (lv' := [(6, .int q16), (0, .ref th), (1, .int x1), (2, .long x2), (4, .int x4), (5, .int x5), (7, .int x7), (8, .int x8)]) hx hb dX12_agreeing_114 hl (by decide) rfl (fun ls hl => ?_)
          refine lv_iinc (v := x8 + 1) (lv' := [(8, .int (x8 + 1)), (6, .int q16), (0, .ref th), (1, .int x1), (2, .long x2), (4, .int x4), (5, .int x5), (7, .int x7)]) hx hb dX12_agreeing_116 hl (k := 7) rfl rfl (by decide) rfl (fun ls hl => ?_)
          refine lv_goto (tgt := 70) hx hb dX12_agreeing_119 (by decide) ?_
          exact ih q16 (x8 + 1) _ _ _ _ hs (lv_sub hl [2, 3, 4, 5, 6, 1, 7, 0] rfl) M kx kr
        clear hs
        have hs := hsq16
        refine lv_if_eq (tgt := 113) hx hb dX12_agreeing_91 (by decide) (fun c12 => ?_) (fun c12 => ?_)
        · rw [if_pos c12] at hs
          refine lv_iconst (v := 0) hx hb dX12_agreeing_113 (by decide) ?_
          obtain rfl := Option.some.inj hs
          exact KJ114 _ _ _ (lv_sub hl [0, 1, 2, 3, 4, 6, 7] rfl) M
        · rw [if_neg c12] at hs
          refine lv_aload_n hx hb dX12_agreeing_94 rfl (lv_at hl 0 rfl) ?_
          refine lv_iload hx hb dX12_agreeing_95 (lv_at hl 4 rfl) ?_
          refine lv_iload hx hb dX12_agreeing_97 (lv_at hl 7 rfl) ?_
          refine lv_lload_n hx hb dX12_agreeing_99 rfl (lv_at hl 2 rfl) ?_
          refine lv_lconst (v := 0) hx hb dX12_agreeing_100 (by decide) ?_
          obtain ⟨v13, g_v13, hs⟩ := bd hs
          obtain ⟨a15, e_a15, k_a15, g_v13⟩ := cV_some g_v13
          obtain rfl := Option.some.inj e_a15
          refine ca_Vl (bq := th) (As := [.int x5, .int x8, .long x2, .long 0]) (rest := []) F M (c_X12_distanceOf g_v13) mf_X12_distanceOf t_1368 k_a15 rfl ⟨by decide, by decide⟩ ⟨rfl, rfl⟩ ⟨Nat.zero_le _, Nat.zero_le _⟩ hl.1 rfl (by decide) dX12_agreeing_101 (fun H locs M => ?_)
          refine lv_lconst (v := 0) hx hb dX12_agreeing_104 (by decide) ?_
          refine W.lcmp hx hb dX12_agreeing_105 ?_
          refine lv_if_lt (tgt := 113) hx hb dX12_agreeing_106 (by decide) (fun c14 => ?_) (fun c14 => ?_)
          · rw [if_pos c14] at hs
            refine lv_iconst (v := 0) hx hb dX12_agreeing_113 (by decide) ?_
            obtain rfl := Option.some.inj hs
            exact KJ114 _ _ _ (lv_sub hl [0, 1, 2, 3, 4, 6, 7] rfl) M
          · rw [if_neg c14] at hs
            refine lv_iconst (v := 1) hx hb dX12_agreeing_109 (by decide) ?_
            refine lv_goto (tgt := 114) hx hb dX12_agreeing_110 (by decide) ?_
            obtain rfl := Option.some.inj hs
            exact KJ114 _ _ _ (lv_sub hl [0, 1, 2, 3, 4, 6, 7] rfl) M
set_option maxHeartbeats 4000000 in
set_option maxRecDepth 100000 in
theorem w_X12_agreeing_L9 {p : Program} {l : Launch} {e : Env} {s : State} {m : MethodId} {args : Array Value} {below : List Frame} {meth : Method} {c : Code} {D : va_G} {cy : Nat → ClassId} {A : Nat → Prop} {H0 : Heap} {N th : Nat} {x1 : Int32} {x2 : Int64} {h : IH} {qF : Int32} (F : Fx p s m args meth c D cy A H0 yX12_agreeing cX12_agreeing 9 (some .int)) : ∀ (n : Nat) (x4 : Int32) (x5 : Int32) (ls : Array Slot) (H : Heap) (locs : List Loc) (q : Int32), s_X12_agreeing_L9 N n th x1 x2 x4 x5 h = some q → lv_has ls 9 [(0, .ref th), (1, .int x1), (2, .long x2), (4, .int x4), (5, .int x5)] → Mo D cy A H0 h H locs → (∀ (t : Int32) (ls : Array Slot) (H : Heap) (locs : List Loc), q = t → lv_has ls 9 [(4, .int t)] → Mo D cy A H0 h H locs → W p l e rm_X12_agreeing s m args below meth c H locs 0 0 (MQ below (QR D cy h A (some (.int qF))) args s 0 0 A) (F0 m 143 ls [])) → (∀ v : Int32, False → v = qF) → W p l e rm_X12_agreeing s m args below meth c H locs 0 0 (MQ below (QR D cy h A (some (.int qF))) args s 0 0 A) (F0 m 9 ls []) := by
  intro n
  induction n with
  | zero => intro x4 x5 ls H locs q hs; rw [s_X12_agreeing_L9.eq_1] at hs; cases hs
  | succ n ih =>
    intro x4 x5 ls H locs q hs hl M kx kr
    obtain ⟨hx, hb, hr, hml, hown, hlk, hts, hK, hN, hA, hH⟩ := id F
    rw [s_X12_agreeing_L9.eq_2] at hs
    refine lv_iload hx hb dX12_agreeing_9 (lv_at hl 4 rfl) ?_
    refine lv_bipush (v := 48) hx hb dX12_agreeing_11 (by decide) ?_
    refine lv_iload_n hx hb dX12_agreeing_13 rfl (lv_at hl 1 rfl) ?_
    refine lv_imul hx hb dX12_agreeing_14 ?_
    refine lv_bipush (v := 48) hx hb dX12_agreeing_15 (by decide) ?_
    refine lv_iadd hx hb dX12_agreeing_17 ?_
    refine lv_icmp_ge (tgt := 143) hx hb dX12_agreeing_18 (by decide) (fun c1 => ?_) (fun c1 => ?_)
    · rw [if_pos c1] at hs
      exact kx x4 _ _ _ (Option.some.inj hs).symm (lv_sub hl [3] rfl) M
    · rw [if_neg c1] at hs
      refine lv_iconst (v := 0) hx hb dX12_agreeing_21 (by decide) ?_
      refine lv_istore (i := 6) (lv' := [(6, .int 0), (0, .ref th), (1, .int x1), (2, .long x2), (4, .int x4), (5, .int x5)]) hx hb dX12_agreeing_22 hl (by decide) rfl (fun ls hl => ?_)
      refine lv_aload_n hx hb dX12_agreeing_24 rfl (lv_at hl 1 rfl) ?_
      refine lv_iload hx hb dX12_agreeing_25 (lv_at hl 5 rfl) ?_
      obtain ⟨v2, g_v2, hs⟩ := bd hs
      obtain ⟨a22, e_a22, k_a22, g_v2⟩ := cV_some g_v2
      obtain rfl := Option.some.inj e_a22
      refine ca_Vi (bq := th) (As := [.int x5]) (rest := []) F M (c_X12_isContactAt g_v2) mf_X12_isContactAt t_1352 k_a22 rfl ⟨by decide, by decide⟩ ⟨rfl, rfl⟩ ⟨Nat.zero_le _, Nat.zero_le _⟩ hl.1 rfl (by decide) dX12_agreeing_27 (fun H locs M => ?_)
      obtain ⟨q19, hsq19, hs⟩ := bd hs
      have KJ122 : ∀ (ls : Array Slot) (H : Heap) (locs : List Loc), lv_has ls 9 [(0, .ref th), (1, .int x1), (2, .long x2), (4, .int x4), (5, .int x5), (6, .int q19)] → Mo D cy A H0 h H locs → W p l e rm_X12_agreeing s m args below meth c H locs 0 0 (MQ below (QR D cy h A (some (.int qF))) args s 0 0 A) (F0 m 122 ls []) := by
        intro ls H locs hl M
        refine lv_iload hx hb dX12_agreeing_122 (lv_at hl 3 rfl) ?_
        refine lv_iload hx hb dX12_agreeing_124 (lv_at hl 5 rfl) ?_
        obtain ⟨q21, hsq21, hs⟩ := bd hs
        have KJ134 : ∀ (ls : Array Slot) (H : Heap) (locs : List Loc), lv_has ls 9 [(0, .ref th), (1, .int x1), (2, .long x2), (5, .int x5)] → Mo D cy A H0 h H locs → W p l e rm_X12_agreeing s m args below meth c H locs 0 0 (MQ below (QR D cy h A (some (.int qF))) args s 0 0 A) (F0 m 134 ls [.int q21, .int x4]) := by
          intro ls H locs hl M
          refine lv_iadd hx hb dX12_agreeing_134 ?_
          refine lv_istore (i := 4) (lv' := [(4, .int (x4 + q21)), (0, .ref th), (1, .int x1), (2, .long x2), (5, .int x5)]) hx hb dX12_agreeing_135 hl (by decide) rfl (fun ls hl => ?_)
          refine lv_iinc (v := x5 + 1) (lv' := [(5, .int (x5 + 1)), (4, .int (x4 + q21)), (0, .ref th), (1, .int x1), (2, .long x2)]) hx hb dX12_agreeing_137 hl (k := 4) rfl rfl (by decide) rfl (fun ls hl => ?_)
          refine lv_goto (tgt := 9) hx hb dX12_agreeing_140 (by decide) ?_
          exact ih (x4 + q21) (x5 + 1) _ _ _ _ hs (lv_sub hl [2, 3, 4, 1, 0] rfl) M kx kr
        clear hs
        have hs := hsq21
        refine lv_if_eq (tgt := 133) hx hb dX12_agreeing_126 (by decide) (fun c20 => ?_) (fun c20 => ?_)
        · rw [if_pos c20] at hs
          refine lv_iconst (v := 0) hx hb dX12_agreeing_133 (by decide) ?_
          obtain rfl := Option.some.inj hs
          exact KJ134 _ _ _ (lv_sub hl [0, 1, 2, 4] rfl) M
        · rw [if_neg c20] at hs
          refine lv_iconst (v := 1) hx hb dX12_agreeing_129 (by decide) ?_
          refine lv_goto (tgt := 134) hx hb dX12_agreeing_130 (by decide) ?_
          obtain rfl := Option.some.inj hs
          exact KJ134 _ _ _ (lv_sub hl [0, 1, 2, 4] rfl) M
      clear hs
      have hs := hsq19
      refine lv_if_eq (tgt := 122) hx hb dX12_agreeing_30 (by decide) (fun c3 => ?_) (fun c3 => ?_)
      · rw [if_pos c3] at hs
        obtain rfl := Option.some.inj hs
        exact KJ122 _ _ _ (lv_sub hl [1, 2, 3, 4, 5, 0] rfl) M
      · rw [if_neg c3] at hs
        refine lv_aload_n hx hb dX12_agreeing_33 rfl (lv_at hl 1 rfl) ?_
        obtain ⟨v4, g_v4, hs⟩ := bd hs
        refine ro_gR F M fg_12_18 t_1024 g_v4 dX12_agreeing_34 ?_
        refine lv_iload hx hb dX12_agreeing_37 (lv_at hl 5 rfl) ?_
        obtain ⟨v5, g_v5, hs⟩ := bd hs
        refine ro_aI F M g_v5 dX12_agreeing_39 ?_
        refine lv_if_lt (tgt := 122) hx hb dX12_agreeing_40 (by decide) (fun c6 => ?_) (fun c6 => ?_)
        · rw [if_pos c6] at hs
          obtain rfl := Option.some.inj hs
          exact KJ122 _ _ _ (lv_sub hl [1, 2, 3, 4, 5, 0] rfl) M
        · rw [if_neg c6] at hs
          refine lv_bipush (v := 48) hx hb dX12_agreeing_43 (by decide) ?_
          refine lv_aload_n hx hb dX12_agreeing_45 rfl (lv_at hl 1 rfl) ?_
          obtain ⟨v7, g_v7, hs⟩ := bd hs
          refine ro_gR F M fg_12_18 t_1024 g_v7 dX12_agreeing_46 ?_
          refine lv_iload hx hb dX12_agreeing_49 (lv_at hl 5 rfl) ?_
          obtain ⟨v8, g_v8, hs⟩ := bd hs
          refine ro_aI F M g_v8 dX12_agreeing_51 ?_
          refine lv_imul hx hb dX12_agreeing_52 ?_
          refine lv_iload hx hb dX12_agreeing_53 (lv_at hl 5 rfl) ?_
          refine lv_bipush (v := 16) hx hb dX12_agreeing_55 (by decide) ?_
          refine lv_idiv hx hb dX12_agreeing_57 (by decide) ?_
          refine lv_iconst (v := 3) hx hb dX12_agreeing_58 (by decide) ?_
          refine lv_irem hx hb dX12_agreeing_59 (by decide) ?_
          refine lv_bipush (v := 16) hx hb dX12_agreeing_60 (by decide) ?_
          refine lv_imul hx hb dX12_agreeing_62 ?_
          refine lv_iadd hx hb dX12_agreeing_63 ?_
          refine lv_istore (i := 7) (lv' := [(7, .int ((48 * v8) + (((x5 / 16) - (x5 / 16) / 3 * 3) * 16))), (6, .int 0), (0, .ref th), (1, .int x1), (2, .long x2), (4, .int x4), (5, .int x5)]) hx hb dX12_agreeing_64 hl (by decide) rfl (fun ls hl => ?_)
          refine lv_iload hx hb dX12_agreeing_66 (lv_at hl 0 rfl) ?_
          refine lv_istore (i := 8) (lv' := [(8, .int ((48 * v8) + (((x5 / 16) - (x5 / 16) / 3 * 3) * 16))), (7, .int ((48 * v8) + (((x5 / 16) - (x5 / 16) / 3 * 3) * 16))), (6, .int 0), (0, .ref th), (1, .int x1), (2, .long x2), (4, .int x4), (5, .int x5)]) hx hb dX12_agreeing_68 hl (by decide) rfl (fun ls hl => ?_)
          obtain ⟨q18, g_q18, hs⟩ := bd hs
          refine w_X12_agreeing_L70 F N 0 ((48 * v8) + (((x5 / 16) - (x5 / 16) / 3 * 3) * 16)) _ _ _ q18 g_q18 (lv_sub hl [3, 4, 5, 6, 7, 2, 1, 0] rfl) M (fun t_ ls H locs eq_ hl M => ?_) (fun v eq_ => eq_.elim)
          subst eq_
          obtain rfl := Option.some.inj hs
          exact KJ122 _ _ _ (lv_sub hl [0, 1, 2, 3, 4, 5] rfl) M
set_option maxHeartbeats 4000000 in
set_option maxRecDepth 100000 in
theorem c_X12_agreeing {l : Launch} {D : va_G} {cy : Nat → ClassId} {sz N : Nat} {h : IH} {th : Nat} {a0 : Int32} {a1 : Int64} {qF : Int32} (hs : s_X12_agreeing N h th a0 a1 = some qF) : Ct l D cy yX12_agreeing cX12_agreeing 9 (some .int) rm_X12_agreeing h sz [.ref th, .int a0, .long a1] h (some (.int qF)) := by
  refine ct_start (by decide +kernel) [(0, .ref th), (1, .int a0), (2, .long a1)] (Nat.le_of_ble_eq_true rfl) rfl ?_
  intro p e s m args below meth c A H0 ls F hin hsz M hl
  obtain ⟨hx, hb, hr, hml, hown, hlk, hts, hK, hN, hA, hH⟩ := id F
  generalize s.heap = H at M ⊢
  generalize ([] : List Loc) = locs at M ⊢
  unfold s_X12_agreeing at hs
  refine lv_iconst (v := 0) hx hb dX12_agreeing_0 (by decide) ?_
  refine lv_istore (i := 4) (lv' := [(4, .int 0), (0, .ref th), (1, .int a0), (2, .long a1)]) hx hb dX12_agreeing_1 hl (by decide) rfl (fun ls hl => ?_)
  refine lv_bipush (v := 48) hx hb dX12_agreeing_3 (by decide) ?_
  refine lv_iload_n hx hb dX12_agreeing_5 rfl (lv_at hl 2 rfl) ?_
  refine lv_imul hx hb dX12_agreeing_6 ?_
  refine lv_istore (i := 5) (lv' := [(5, .int (48 * a0)), (4, .int 0), (0, .ref th), (1, .int a0), (2, .long a1)]) hx hb dX12_agreeing_7 hl (by decide) rfl (fun ls hl => ?_)
  obtain ⟨q23, g_q23, hs⟩ := bd hs
  refine w_X12_agreeing_L9 F N 0 (48 * a0) _ _ _ q23 g_q23 (lv_sub hl [2, 3, 4, 1, 0] rfl) M (fun t_ ls H locs eq_ hl M => ?_) (fun v eq_ => eq_.elim)
  subst eq_
  refine lv_iload hx hb dX12_agreeing_143 (lv_at hl 0 rfl) ?_
  obtain rfl := Option.some.inj hs
  exact re_i F M dX12_agreeing_145
abbrev rm_X12_plain : Room := { frames := 0, cells := 0, slots := 0, locals := 0 }
theorem mf_X12_plain : MS yX12_plain cX12_plain 2 (some .long) 1 := ⟨t_1386, t_1385, t_12, ⟨by decide +kernel, by decide +kernel, by decide +kernel⟩⟩
def s_X12_plain (h : IH) (a0 : Int64) : Option (Int64) := ((if 0 ≤ (lg_cmp a0 0) then some a0 else some (-a0)) : Option (Int64)).bind fun q2 => some q2
set_option maxHeartbeats 4000000 in
set_option maxRecDepth 100000 in
theorem c_X12_plain {l : Launch} {D : va_G} {cy : Nat → ClassId} {sz : Nat} {h : IH} {a0 : Int64} {qF : Int64} (hs : s_X12_plain h a0 = some qF) : Ct l D cy yX12_plain cX12_plain 2 (some .long) rm_X12_plain h sz [.long a0] h (some (.long qF)) := by
  refine ct_start (by decide +kernel) [(0, .long a0)] (Nat.le_of_ble_eq_true rfl) rfl ?_
  intro p e s m args below meth c A H0 ls F hin hsz M hl
  obtain ⟨hx, hb, hr, hml, hown, hlk, hts, hK, hN, hA, hH⟩ := id F
  generalize s.heap = H at M ⊢
  generalize ([] : List Loc) = locs at M ⊢
  unfold s_X12_plain at hs
  refine lv_lload_n hx hb dX12_plain_0 rfl (lv_at hl 0 rfl) ?_
  refine lv_lconst (v := 0) hx hb dX12_plain_1 (by decide) ?_
  refine W.lcmp hx hb dX12_plain_2 ?_
  obtain ⟨q2, hsq2, hs⟩ := bd hs
  have KJ12 : ∀ (ls : Array Slot) (H : Heap) (locs : List Loc), lv_has ls 2 [] → Mo D cy A H0 h H locs → W p l e rm_X12_plain s m args below meth c H locs 0 0 (MQ below (QR D cy h A (some (.long qF))) args s 0 0 A) (F0 m 12 ls [.long q2]) := by
    intro ls H locs hl M
    obtain rfl := Option.some.inj hs
    exact re_l F M dX12_plain_12
  clear hs
  have hs := hsq2
  refine lv_if_ge (tgt := 11) hx hb dX12_plain_3 (by decide) (fun c1 => ?_) (fun c1 => ?_)
  · rw [if_pos c1] at hs
    refine lv_lload_n hx hb dX12_plain_11 rfl (lv_at hl 0 rfl) ?_
    obtain rfl := Option.some.inj hs
    exact KJ12 _ _ _ (lv_sub hl [] rfl) M
  · rw [if_neg c1] at hs
    refine lv_lload_n hx hb dX12_plain_6 rfl (lv_at hl 0 rfl) ?_
    refine lv_lneg hx hb dX12_plain_7 ?_
    refine lv_goto (tgt := 12) hx hb dX12_plain_8 (by decide) ?_
    obtain rfl := Option.some.inj hs
    exact KJ12 _ _ _ (lv_sub hl [] rfl) M
