abbrev rm_X3_endOperand : Room := { frames := 0, cells := 0, slots := 0, locals := 0 }
theorem mf_X3_endOperand : MV 3 yX3_endOperand cX3_endOperand 1 none 0 RX3 := ⟨t_632, t_631, tS_24, t_7, ⟨by decide +kernel, by decide +kernel, by decide +kernel⟩, rfl, by decide⟩
def s_X3_endOperand_L13 (N : Nat) : Nat → Nat → IH → Option (IH)
  | 0, _, _ => none
  | n + 1, th, h => (gI h 3 4 (some th)).bind fun v5 => if v5 ≤ 0 then some h else (gR h 3 3 (some th)).bind fun v7 => (gI h 3 4 (some th)).bind fun v8 => (aI h v7 v8).bind fun v9 => if v9 = 0 then (gI h 3 4 (some th)).bind fun v11 => (pI h 3 4 (some th) (v11 - 1)).bind fun h12 => (gR h12 3 3 (some th)).bind fun v13 => (gI h12 3 4 (some th)).bind fun v14 => (aI h12 v13 v14).bind fun v15 => (sI h12 v13 v14 (v15 - 1)).bind fun h16 => s_X3_endOperand_L13 N n th h16 else some h
def s_X3_endOperand (N : Nat) (h : IH) (th : Nat) : Option (IH) := (gR h 3 3 (some th)).bind fun v1 => (gI h 3 4 (some th)).bind fun v2 => (aI h v1 v2).bind fun v3 => (sI h v1 v2 (v3 - 1)).bind fun h4 => (s_X3_endOperand_L13 N N th h4).bind fun q17 => some q17
set_option maxHeartbeats 4000000 in
set_option maxRecDepth 100000 in
theorem w_X3_endOperand_L13 {p : Program} {l : Launch} {e : Env} {s : State} {m : MethodId} {args : Array Value} {below : List Frame} {meth : Method} {c : Code} {D : va_G} {cy : Nat → ClassId} {A : Nat → Prop} {H0 : Heap} {N th : Nat} {qF : IH} (F : Fx p s m args meth c D cy A H0 yX3_endOperand cX3_endOperand 1 none) : ∀ (n : Nat) (h : IH) (ls : Array Slot) (H : Heap) (locs : List Loc) (q : IH), s_X3_endOperand_L13 N n th h = some q → lv_has ls 1 [(0, .ref th)] → Mo D cy A H0 h H locs → (∀ (t : IH) (ls : Array Slot) (H : Heap) (locs : List Loc), q = t → lv_has ls 1 [] → Mo D cy A H0 t H locs → W p l e rm_X3_endOperand s m args below meth c H locs 0 0 (MQ below (QR D cy qF A none) args s 0 0 A) (F0 m 58 ls [])) → (∀ v : IH, False → v = qF) → W p l e rm_X3_endOperand s m args below meth c H locs 0 0 (MQ below (QR D cy qF A none) args s 0 0 A) (F0 m 13 ls []) := by
  intro n
  induction n with
  | zero => intro h ls H locs q hs; rw [s_X3_endOperand_L13.eq_1] at hs; cases hs
  | succ n ih =>
    intro h ls H locs q hs hl M kx kr
    obtain ⟨hx, hb, hr, hml, hown, hlk, hts, hK, hN, hA, hH⟩ := id F
    rw [s_X3_endOperand_L13.eq_2] at hs
    refine lv_aload_n hx hb dX3_endOperand_13 rfl (lv_at hl 0 rfl) ?_
    obtain ⟨v5, g_v5, hs⟩ := bd hs
    refine ro_gI F M fg_3_4 t_214 g_v5 dX3_endOperand_14 ?_
    refine lv_if_le (tgt := 58) hx hb dX3_endOperand_17 (by decide) (fun c6 => ?_) (fun c6 => ?_)
    · rw [if_pos c6] at hs
      exact kx h _ _ _ (Option.some.inj hs).symm (lv_sub hl [] rfl) M
    · rw [if_neg c6] at hs
      refine lv_aload_n hx hb dX3_endOperand_20 rfl (lv_at hl 0 rfl) ?_
      obtain ⟨v7, g_v7, hs⟩ := bd hs
      refine ro_gR F M fg_3_3 t_213 g_v7 dX3_endOperand_21 ?_
      refine lv_aload_n hx hb dX3_endOperand_24 rfl (lv_at hl 0 rfl) ?_
      obtain ⟨v8, g_v8, hs⟩ := bd hs
      refine ro_gI F M fg_3_4 t_214 g_v8 dX3_endOperand_25 ?_
      obtain ⟨v9, g_v9, hs⟩ := bd hs
      refine ro_aI F M g_v9 dX3_endOperand_28 ?_
      refine lv_if_ne (tgt := 58) hx hb dX3_endOperand_29 (by decide) (fun c10 => ?_) (fun c10 => ?_)
      · rw [if_neg c10] at hs
        exact kx h _ _ _ (Option.some.inj hs).symm (lv_sub hl [] rfl) M
      · rw [if_pos c10] at hs
        refine lv_aload_n hx hb dX3_endOperand_32 rfl (lv_at hl 0 rfl) ?_
        refine lv_dup hx hb dX3_endOperand_33 rfl ?_
        obtain ⟨v11, g_v11, hs⟩ := bd hs
        refine ro_gI F M fg_3_4 t_214 g_v11 dX3_endOperand_34 ?_
        refine lv_iconst (v := 1) hx hb dX3_endOperand_37 (by decide) ?_
        refine lv_isub hx hb dX3_endOperand_38 ?_
        obtain ⟨h12, g_h12, hs⟩ := bd hs
        refine ro_pI F M fg_3_4 fp_3_4 rfl t_214 g_h12 dX3_endOperand_39 (fun H locs M => ?_)
        refine lv_aload_n hx hb dX3_endOperand_42 rfl (lv_at hl 0 rfl) ?_
        obtain ⟨v13, g_v13, hs⟩ := bd hs
        refine ro_gR F M fg_3_3 t_213 g_v13 dX3_endOperand_43 ?_
        refine lv_aload_n hx hb dX3_endOperand_46 rfl (lv_at hl 0 rfl) ?_
        obtain ⟨v14, g_v14, hs⟩ := bd hs
        refine ro_gI F M fg_3_4 t_214 g_v14 dX3_endOperand_47 ?_
        refine lv_dup2_11 hx hb dX3_endOperand_50 rfl (cat_rf _) ?_
        obtain ⟨v15, g_v15, hs⟩ := bd hs
        refine ro_aI F M g_v15 dX3_endOperand_51 ?_
        refine lv_iconst (v := 1) hx hb dX3_endOperand_52 (by decide) ?_
        refine lv_isub hx hb dX3_endOperand_53 ?_
        obtain ⟨h16, g_h16, hs⟩ := bd hs
        refine ro_sI F M g_h16 dX3_endOperand_54 (fun H locs M => ?_)
        refine lv_goto (tgt := 13) hx hb dX3_endOperand_55 (by decide) ?_
        exact ih h16 _ _ _ _ hs (lv_sub hl [0] rfl) M kx kr
set_option maxHeartbeats 4000000 in
set_option maxRecDepth 100000 in
theorem c_X3_endOperand {l : Launch} {D : va_G} {cy : Nat → ClassId} {sz N : Nat} {h : IH} {th : Nat} {qF : IH} (hs : s_X3_endOperand N h th = some qF) : Ct l D cy yX3_endOperand cX3_endOperand 1 none rm_X3_endOperand h sz [.ref th] qF none := by
  refine ct_start (by decide +kernel) [(0, .ref th)] (Nat.le_of_ble_eq_true rfl) rfl ?_
  intro p e s m args below meth c A H0 ls F hin hsz M hl
  obtain ⟨hx, hb, hr, hml, hown, hlk, hts, hK, hN, hA, hH⟩ := id F
  generalize s.heap = H at M ⊢
  generalize ([] : List Loc) = locs at M ⊢
  unfold s_X3_endOperand at hs
  refine lv_aload_n hx hb dX3_endOperand_0 rfl (lv_at hl 0 rfl) ?_
  obtain ⟨v1, g_v1, hs⟩ := bd hs
  refine ro_gR F M fg_3_3 t_213 g_v1 dX3_endOperand_1 ?_
  refine lv_aload_n hx hb dX3_endOperand_4 rfl (lv_at hl 0 rfl) ?_
  obtain ⟨v2, g_v2, hs⟩ := bd hs
  refine ro_gI F M fg_3_4 t_214 g_v2 dX3_endOperand_5 ?_
  refine lv_dup2_11 hx hb dX3_endOperand_8 rfl (cat_rf _) ?_
  obtain ⟨v3, g_v3, hs⟩ := bd hs
  refine ro_aI F M g_v3 dX3_endOperand_9 ?_
  refine lv_iconst (v := 1) hx hb dX3_endOperand_10 (by decide) ?_
  refine lv_isub hx hb dX3_endOperand_11 ?_
  obtain ⟨h4, g_h4, hs⟩ := bd hs
  refine ro_sI F M g_h4 dX3_endOperand_12 (fun H locs M => ?_)
  obtain ⟨q17, g_q17, hs⟩ := bd hs
  refine w_X3_endOperand_L13 F N h4 _ _ _ q17 g_q17 (lv_sub hl [0] rfl) M (fun t_ ls H locs eq_ hl M => ?_) (fun v eq_ => eq_.elim)
  subst eq_
  obtain rfl := Option.some.inj hs
  exact re_v F M dX3_endOperand_58
abbrev rm_X3_addCode : Room := { frames := 1, cells := 0, slots := 0, locals := 21 }
theorem mf_X3_addCode : MV 3 yX3_addCode cX3_addCode 4 (some .boolean) 2 RX3 := ⟨t_624, t_623, tS_23, t_7, ⟨by decide +kernel, by decide +kernel, by decide +kernel⟩, rfl, by decide⟩
def s_X3_addCode (N : Nat) (h : IH) (th : Nat) (a0 : Int32) (a1 : Int32) : Option (Int32 × IH) := if a1 = (-11) then some (0, h) else (gR h 3 3 (some th)).bind fun v2 => (aI h v2 0).bind fun v3 => if v3 = 0 then some (0, h) else (s_X11_isBelow h a0 30).bind fun v5 => if v5 = 0 then some (0, h) else (s_X3_operandsOf h a1).bind fun v7 => if v7 ≤ 0 then (cV h 3 (some th) fun a12 => s_X3_endOperand N h a12 ).bind fun v9 => (gR v9 3 2 (some th)).bind fun v10 => (sI v9 v10 a0 a1).bind fun h11 => some (1, h11) else (gI h 3 4 (some th)).bind fun v13 => if v13 < 8 then (gI h 3 4 (some th)).bind fun v15 => (pI h 3 4 (some th) (v15 + 1)).bind fun h16 => (gR h16 3 3 (some th)).bind fun v17 => (gI h16 3 4 (some th)).bind fun v18 => (sI h16 v17 v18 v7).bind fun h19 => (gR h19 3 2 (some th)).bind fun v20 => (sI h19 v20 a0 a1).bind fun h21 => some (1, h21) else some (0, h)
set_option maxHeartbeats 4000000 in
set_option maxRecDepth 100000 in
theorem c_X3_addCode {l : Launch} {D : va_G} {cy : Nat → ClassId} {sz N : Nat} {h : IH} {th : Nat} {a0 : Int32} {a1 : Int32} {qF : Int32 × IH} (hs : s_X3_addCode N h th a0 a1 = some qF) : Ct l D cy yX3_addCode cX3_addCode 4 (some .boolean) rm_X3_addCode h sz [.ref th, .int a0, .int a1] qF.2 (some (.int qF.1)) := by
  refine ct_start (by decide +kernel) [(0, .ref th), (1, .int a0), (2, .int a1)] (Nat.le_of_ble_eq_true rfl) rfl ?_
  intro p e s m args below meth c A H0 ls F hin hsz M hl
  obtain ⟨hx, hb, hr, hml, hown, hlk, hts, hK, hN, hA, hH⟩ := id F
  generalize s.heap = H at M ⊢
  generalize ([] : List Loc) = locs at M ⊢
  unfold s_X3_addCode at hs
  refine lv_iload_n hx hb dX3_addCode_0 rfl (lv_at hl 2 rfl) ?_
  refine lv_bipush (v := (-11)) hx hb dX3_addCode_1 (by decide) ?_
  refine lv_icmp_eq (tgt := 24) hx hb dX3_addCode_3 (by decide) (fun c1 => ?_) (fun c1 => ?_)
  · rw [if_pos c1] at hs
    refine lv_iconst (v := 0) hx hb dX3_addCode_24 (by decide) ?_
    obtain rfl := Option.some.inj hs
    exact re_z F M (Or.inl rfl) dX3_addCode_25
  · rw [if_neg c1] at hs
    refine lv_aload_n hx hb dX3_addCode_6 rfl (lv_at hl 0 rfl) ?_
    obtain ⟨v2, g_v2, hs⟩ := bd hs
    refine ro_gR F M fg_3_3 t_213 g_v2 dX3_addCode_7 ?_
    refine lv_iconst (v := 0) hx hb dX3_addCode_10 (by decide) ?_
    obtain ⟨v3, g_v3, hs⟩ := bd hs
    refine ro_aI F M g_v3 dX3_addCode_11 ?_
    refine lv_if_eq (tgt := 24) hx hb dX3_addCode_12 (by decide) (fun c4 => ?_) (fun c4 => ?_)
    · rw [if_pos c4] at hs
      refine lv_iconst (v := 0) hx hb dX3_addCode_24 (by decide) ?_
      obtain rfl := Option.some.inj hs
      exact re_z F M (Or.inl rfl) dX3_addCode_25
    · rw [if_neg c4] at hs
      refine lv_iload_n hx hb dX3_addCode_15 rfl (lv_at hl 1 rfl) ?_
      refine lv_bipush (v := 30) hx hb dX3_addCode_16 (by decide) ?_
      obtain ⟨v5, g_v5, hs⟩ := bd hs
      refine ca_SNi (As := [.int a0, .int 30]) (rest := []) F M (c_X11_isBelow g_v5) mf_X11_isBelow tN_625 rfl ⟨by decide, by decide⟩ ⟨rfl, rfl⟩ ⟨Nat.zero_le _, Nat.zero_le _⟩ hl.1 rfl (by decide) dX3_addCode_18 (fun H locs M => ?_)
      refine lv_if_ne (tgt := 26) hx hb dX3_addCode_21 (by decide) (fun c6 => ?_) (fun c6 => ?_)
      · rw [if_neg c6] at hs
        refine lv_iload_n hx hb dX3_addCode_26 rfl (lv_at hl 2 rfl) ?_
        obtain ⟨v7, g_v7, hs⟩ := bd hs
        refine ca_Si (As := [.int a1]) (rest := []) F M (c_X3_operandsOf g_v7) mf_X3_operandsOf t_626 rfl ⟨by decide, by decide⟩ ⟨rfl, rfl⟩ ⟨Nat.zero_le _, Nat.zero_le _⟩ hl.1 rfl (by decide) dX3_addCode_27 (fun H locs M => ?_)
        refine lv_istore_n (i := 3) (lv' := [(3, .int v7), (0, .ref th), (1, .int a0), (2, .int a1)]) hx hb dX3_addCode_30 rfl hl (by decide) rfl (fun ls hl => ?_)
        refine lv_iload_n hx hb dX3_addCode_31 rfl (lv_at hl 0 rfl) ?_
        refine lv_if_le (tgt := 69) hx hb dX3_addCode_32 (by decide) (fun c8 => ?_) (fun c8 => ?_)
        · rw [if_pos c8] at hs
          refine lv_aload_n hx hb dX3_addCode_69 rfl (lv_at hl 1 rfl) ?_
          obtain ⟨v9, g_v9, hs⟩ := bd hs
          obtain ⟨a12, e_a12, k_a12, g_v9⟩ := cV_some g_v9
          obtain rfl := Option.some.inj e_a12
          refine ca_Vv (bq := th) (As := []) (rest := []) F M (c_X3_endOperand g_v9) mf_X3_endOperand t_629 k_a12 rfl ⟨by decide, by decide⟩ ⟨rfl, rfl⟩ ⟨Nat.zero_le _, Nat.zero_le _⟩ hl.1 rfl (by decide) dX3_addCode_70 (fun H locs M => ?_)
          refine lv_aload_n hx hb dX3_addCode_73 rfl (lv_at hl 1 rfl) ?_
          obtain ⟨v10, g_v10, hs⟩ := bd hs
          refine ro_gR F M fg_3_2 t_212 g_v10 dX3_addCode_74 ?_
          refine lv_iload_n hx hb dX3_addCode_77 rfl (lv_at hl 2 rfl) ?_
          refine lv_iload_n hx hb dX3_addCode_78 rfl (lv_at hl 3 rfl) ?_
          obtain ⟨h11, g_h11, hs⟩ := bd hs
          refine ro_sI F M g_h11 dX3_addCode_79 (fun H locs M => ?_)
          refine lv_iconst (v := 1) hx hb dX3_addCode_80 (by decide) ?_
          obtain rfl := Option.some.inj hs
          exact re_z F M (Or.inr rfl) dX3_addCode_81
        · rw [if_neg c8] at hs
          refine lv_aload_n hx hb dX3_addCode_35 rfl (lv_at hl 1 rfl) ?_
          obtain ⟨v13, g_v13, hs⟩ := bd hs
          refine ro_gI F M fg_3_4 t_214 g_v13 dX3_addCode_36 ?_
          refine lv_bipush (v := 8) hx hb dX3_addCode_39 (by decide) ?_
          refine lv_icmp_lt (tgt := 46) hx hb dX3_addCode_41 (by decide) (fun c14 => ?_) (fun c14 => ?_)
          · rw [if_pos c14] at hs
            refine lv_aload_n hx hb dX3_addCode_46 rfl (lv_at hl 1 rfl) ?_
            refine lv_dup hx hb dX3_addCode_47 rfl ?_
            obtain ⟨v15, g_v15, hs⟩ := bd hs
            refine ro_gI F M fg_3_4 t_214 g_v15 dX3_addCode_48 ?_
            refine lv_iconst (v := 1) hx hb dX3_addCode_51 (by decide) ?_
            refine lv_iadd hx hb dX3_addCode_52 ?_
            obtain ⟨h16, g_h16, hs⟩ := bd hs
            refine ro_pI F M fg_3_4 fp_3_4 rfl t_214 g_h16 dX3_addCode_53 (fun H locs M => ?_)
            refine lv_aload_n hx hb dX3_addCode_56 rfl (lv_at hl 1 rfl) ?_
            obtain ⟨v17, g_v17, hs⟩ := bd hs
            refine ro_gR F M fg_3_3 t_213 g_v17 dX3_addCode_57 ?_
            refine lv_aload_n hx hb dX3_addCode_60 rfl (lv_at hl 1 rfl) ?_
            obtain ⟨v18, g_v18, hs⟩ := bd hs
            refine ro_gI F M fg_3_4 t_214 g_v18 dX3_addCode_61 ?_
            refine lv_iload_n hx hb dX3_addCode_64 rfl (lv_at hl 0 rfl) ?_
            obtain ⟨h19, g_h19, hs⟩ := bd hs
            refine ro_sI F M g_h19 dX3_addCode_65 (fun H locs M => ?_)
            refine lv_goto (tgt := 73) hx hb dX3_addCode_66 (by decide) ?_
            refine lv_aload_n hx hb dX3_addCode_73 rfl (lv_at hl 1 rfl) ?_
            obtain ⟨v20, g_v20, hs⟩ := bd hs
            refine ro_gR F M fg_3_2 t_212 g_v20 dX3_addCode_74 ?_
            refine lv_iload_n hx hb dX3_addCode_77 rfl (lv_at hl 2 rfl) ?_
            refine lv_iload_n hx hb dX3_addCode_78 rfl (lv_at hl 3 rfl) ?_
            obtain ⟨h21, g_h21, hs⟩ := bd hs
            refine ro_sI F M g_h21 dX3_addCode_79 (fun H locs M => ?_)
            refine lv_iconst (v := 1) hx hb dX3_addCode_80 (by decide) ?_
            obtain rfl := Option.some.inj hs
            exact re_z F M (Or.inr rfl) dX3_addCode_81
          · rw [if_neg c14] at hs
            refine lv_iconst (v := 0) hx hb dX3_addCode_44 (by decide) ?_
            obtain rfl := Option.some.inj hs
            exact re_z F M (Or.inl rfl) dX3_addCode_45
      · rw [if_pos c6] at hs
        refine lv_iconst (v := 0) hx hb dX3_addCode_24 (by decide) ?_
        obtain rfl := Option.some.inj hs
        exact re_z F M (Or.inl rfl) dX3_addCode_25
abbrev rm_X3_takeDraft : Room := { frames := 0, cells := 0, slots := 0, locals := 0 }
theorem mf_X3_takeDraft : MV 3 yX3_takeDraft cX3_takeDraft 3 none 1 RX3 := ⟨t_636, t_635, tS_25, t_7, ⟨by decide +kernel, by decide +kernel, by decide +kernel⟩, rfl, by decide⟩
def s_X3_takeDraft (h : IH) (th : Nat) (a0 : Int32) : Option (IH) := (gR h 3 0 (some th)).bind fun v1 => (gR h 3 2 (some th)).bind fun v2 => (pR h 3 0 (some th) v2).bind fun h3 => (pR h3 3 2 (some th) v1).bind fun h4 => (pI h4 3 1 (some th) a0).bind fun h5 => some h5
set_option maxHeartbeats 4000000 in
set_option maxRecDepth 100000 in
theorem c_X3_takeDraft {l : Launch} {D : va_G} {cy : Nat → ClassId} {sz : Nat} {h : IH} {th : Nat} {a0 : Int32} {qF : IH} (hs : s_X3_takeDraft h th a0 = some qF) : Ct l D cy yX3_takeDraft cX3_takeDraft 3 none rm_X3_takeDraft h sz [.ref th, .int a0] qF none := by
  refine ct_start (by decide +kernel) [(0, .ref th), (1, .int a0)] (Nat.le_of_ble_eq_true rfl) rfl ?_
  intro p e s m args below meth c A H0 ls F hin hsz M hl
  obtain ⟨hx, hb, hr, hml, hown, hlk, hts, hK, hN, hA, hH⟩ := id F
  generalize s.heap = H at M ⊢
  generalize ([] : List Loc) = locs at M ⊢
  unfold s_X3_takeDraft at hs
  refine lv_aload_n hx hb dX3_takeDraft_0 rfl (lv_at hl 0 rfl) ?_
  obtain ⟨v1, g_v1, hs⟩ := bd hs
  refine ro_gR F M fg_3_0 t_210 g_v1 dX3_takeDraft_1 ?_
  refine lo_astore_n (i := 2) (lv' := [(2, va_rf v1), (0, .ref th), (1, .int a0)]) hx hb dX3_takeDraft_4 rfl hl (by decide) rfl (fun ls hl => ?_)
  refine lv_aload_n hx hb dX3_takeDraft_5 rfl (lv_at hl 1 rfl) ?_
  refine lv_aload_n hx hb dX3_takeDraft_6 rfl (lv_at hl 1 rfl) ?_
  obtain ⟨v2, g_v2, hs⟩ := bd hs
  refine ro_gR F M fg_3_2 t_212 g_v2 dX3_takeDraft_7 ?_
  obtain ⟨h3, g_h3, hs⟩ := bd hs
  refine ro_pA F M fg_3_0 fp_3_0 rfl t_210 g_h3 dX3_takeDraft_10 (fun H locs M => ?_)
  refine lv_aload_n hx hb dX3_takeDraft_13 rfl (lv_at hl 1 rfl) ?_
  refine lo_aload_n hx hb dX3_takeDraft_14 rfl (lv_at hl 0 rfl) ?_
  obtain ⟨h4, g_h4, hs⟩ := bd hs
  refine ro_pA F M fg_3_2 fp_3_2 rfl t_212 g_h4 dX3_takeDraft_15 (fun H locs M => ?_)
  refine lv_aload_n hx hb dX3_takeDraft_18 rfl (lv_at hl 1 rfl) ?_
  refine lv_iload_n hx hb dX3_takeDraft_19 rfl (lv_at hl 2 rfl) ?_
  obtain ⟨h5, g_h5, hs⟩ := bd hs
  refine ro_pI F M fg_3_1 fp_3_1 rfl t_211 g_h5 dX3_takeDraft_20 (fun H locs M => ?_)
  obtain rfl := Option.some.inj hs
  exact re_v F M dX3_takeDraft_23
abbrev rm_X0_setWindow : Room := { frames := 0, cells := 0, slots := 0, locals := 0 }
theorem mf_X0_setWindow : MV 0 yX0_setWindow cX0_setWindow 2 none 1 RX0 := ⟨t_644, t_643, tS_26, t_8, ⟨by decide +kernel, by decide +kernel, by decide +kernel⟩, rfl, by decide⟩
def s_X0_setWindow (h : IH) (th : Nat) (a0 : Int32) : Option (IH) := (pI h 0 3 (some th) a0).bind fun h1 => (pZ h1 0 4 (some th) 0).bind fun h2 => some h2
set_option maxHeartbeats 4000000 in
set_option maxRecDepth 100000 in
theorem c_X0_setWindow {l : Launch} {D : va_G} {cy : Nat → ClassId} {sz : Nat} {h : IH} {th : Nat} {a0 : Int32} {qF : IH} (hs : s_X0_setWindow h th a0 = some qF) : Ct l D cy yX0_setWindow cX0_setWindow 2 none rm_X0_setWindow h sz [.ref th, .int a0] qF none := by
  refine ct_start (by decide +kernel) [(0, .ref th), (1, .int a0)] (Nat.le_of_ble_eq_true rfl) rfl ?_
  intro p e s m args below meth c A H0 ls F hin hsz M hl
  obtain ⟨hx, hb, hr, hml, hown, hlk, hts, hK, hN, hA, hH⟩ := id F
  generalize s.heap = H at M ⊢
  generalize ([] : List Loc) = locs at M ⊢
  unfold s_X0_setWindow at hs
  refine lv_aload_n hx hb dX0_setWindow_0 rfl (lv_at hl 0 rfl) ?_
  refine lv_iload_n hx hb dX0_setWindow_1 rfl (lv_at hl 1 rfl) ?_
  obtain ⟨h1, g_h1, hs⟩ := bd hs
  refine ro_pI F M fg_0_3 fp_0_3 rfl t_298 g_h1 dX0_setWindow_2 (fun H locs M => ?_)
  refine lv_aload_n hx hb dX0_setWindow_5 rfl (lv_at hl 0 rfl) ?_
  refine lv_iconst (v := 0) hx hb dX0_setWindow_6 (by decide) ?_
  obtain ⟨h2, g_h2, hs⟩ := bd hs
  refine ro_pZ F M fg_0_4 fp_0_4 rfl t_299 g_h2 dX0_setWindow_7 (fun H locs M => ?_)
  obtain rfl := Option.some.inj hs
  exact re_v F M dX0_setWindow_10
abbrev rm_X11_window : Room := { frames := 1, cells := 0, slots := 0, locals := 21 }
theorem mf_X11_window : MV 11 yX11_window cX11_window 2 (some .int) 1 RX11 := ⟨t_640, t_638, t_639, t_1, ⟨by decide +kernel, by decide +kernel, by decide +kernel⟩, rfl, by decide⟩
def s_X11_window (h : IH) (th : Nat) (a0 : Int32) : Option (Int32 × IH) := (s_X11_isBelow h a0 3601).bind fun v1 => if v1 = 0 then some ((-1), h) else (gR h 11 4 (some th)).bind fun v3 => (cV h 0 v3 fun a5 => s_X0_setWindow h a5 a0).bind fun v4 => some (1, v4)
set_option maxHeartbeats 4000000 in
set_option maxRecDepth 100000 in
theorem c_X11_window {l : Launch} {D : va_G} {cy : Nat → ClassId} {sz : Nat} {h : IH} {th : Nat} {a0 : Int32} {qF : Int32 × IH} (hs : s_X11_window h th a0 = some qF) : Ct l D cy yX11_window cX11_window 2 (some .int) rm_X11_window h sz [.ref th, .int a0] qF.2 (some (.int qF.1)) := by
  refine ct_start (by decide +kernel) [(0, .ref th), (1, .int a0)] (Nat.le_of_ble_eq_true rfl) rfl ?_
  intro p e s m args below meth c A H0 ls F hin hsz M hl
  obtain ⟨hx, hb, hr, hml, hown, hlk, hts, hK, hN, hA, hH⟩ := id F
  generalize s.heap = H at M ⊢
  generalize ([] : List Loc) = locs at M ⊢
  unfold s_X11_window at hs
  refine lv_iload_n hx hb dX11_window_0 rfl (lv_at hl 1 rfl) ?_
  refine lv_sipush (v := 3601) hx hb dX11_window_1 (by decide) ?_
  obtain ⟨v1, g_v1, hs⟩ := bd hs
  refine ca_Si (As := [.int a0, .int 3601]) (rest := []) F M (c_X11_isBelow g_v1) mf_X11_isBelow t_404 rfl ⟨by decide, by decide⟩ ⟨rfl, rfl⟩ ⟨Nat.zero_le _, Nat.zero_le _⟩ hl.1 rfl (by decide) dX11_window_4 (fun H locs M => ?_)
  refine lv_if_ne (tgt := 12) hx hb dX11_window_7 (by decide) (fun c2 => ?_) (fun c2 => ?_)
  · rw [if_neg c2] at hs
    refine lv_aload_n hx hb dX11_window_12 rfl (lv_at hl 0 rfl) ?_
    obtain ⟨v3, g_v3, hs⟩ := bd hs
    refine ro_gR F M fg_11_4 t_334 g_v3 dX11_window_13 ?_
    refine lv_iload_n hx hb dX11_window_16 rfl (lv_at hl 1 rfl) ?_
    obtain ⟨v4, g_v4, hs⟩ := bd hs
    obtain ⟨a5, e_a5, k_a5, g_v4⟩ := cV_some g_v4
    refine ca_VNv (bq := a5) (As := [.int a0]) (rest := []) F M (c_X0_setWindow g_v4) mf_X0_setWindow tN_641 k_a5 rfl ⟨by decide, by decide⟩ ⟨rfl, rfl⟩ ⟨Nat.zero_le _, Nat.zero_le _⟩ hl.1 (by rw [e_a5]; rfl) (by decide) dX11_window_17 (fun H locs M => ?_)
    refine lv_iconst (v := 1) hx hb dX11_window_20 (by decide) ?_
    obtain rfl := Option.some.inj hs
    exact re_i F M dX11_window_21
  · rw [if_pos c2] at hs
    refine lv_iconst (v := (-1)) hx hb dX11_window_10 (by decide) ?_
    obtain rfl := Option.some.inj hs
    exact re_i F M dX11_window_11
abbrev rm_X11_penalty : Room := { frames := 1, cells := 0, slots := 0, locals := 21 }
theorem mf_X11_penalty : MV 11 yX11_penalty cX11_penalty 2 (some .int) 1 RX11 := ⟨t_648, t_646, t_647, t_1, ⟨by decide +kernel, by decide +kernel, by decide +kernel⟩, rfl, by decide⟩
def s_X11_penalty (h : IH) (th : Nat) (a0 : Int32) : Option (Int32 × IH) := (s_X11_isBelow h a0 1001).bind fun v1 => if v1 = 0 then some ((-1), h) else (gR h 11 5 (some th)).bind fun v3 => (pI h 8 2 v3 a0).bind fun h4 => some (1, h4)
set_option maxHeartbeats 4000000 in
set_option maxRecDepth 100000 in
theorem c_X11_penalty {l : Launch} {D : va_G} {cy : Nat → ClassId} {sz : Nat} {h : IH} {th : Nat} {a0 : Int32} {qF : Int32 × IH} (hs : s_X11_penalty h th a0 = some qF) : Ct l D cy yX11_penalty cX11_penalty 2 (some .int) rm_X11_penalty h sz [.ref th, .int a0] qF.2 (some (.int qF.1)) := by
  refine ct_start (by decide +kernel) [(0, .ref th), (1, .int a0)] (Nat.le_of_ble_eq_true rfl) rfl ?_
  intro p e s m args below meth c A H0 ls F hin hsz M hl
  obtain ⟨hx, hb, hr, hml, hown, hlk, hts, hK, hN, hA, hH⟩ := id F
  generalize s.heap = H at M ⊢
  generalize ([] : List Loc) = locs at M ⊢
  unfold s_X11_penalty at hs
  refine lv_iload_n hx hb dX11_penalty_0 rfl (lv_at hl 1 rfl) ?_
  refine lv_sipush (v := 1001) hx hb dX11_penalty_1 (by decide) ?_
  obtain ⟨v1, g_v1, hs⟩ := bd hs
  refine ca_Si (As := [.int a0, .int 1001]) (rest := []) F M (c_X11_isBelow g_v1) mf_X11_isBelow t_404 rfl ⟨by decide, by decide⟩ ⟨rfl, rfl⟩ ⟨Nat.zero_le _, Nat.zero_le _⟩ hl.1 rfl (by decide) dX11_penalty_4 (fun H locs M => ?_)
  refine lv_if_ne (tgt := 12) hx hb dX11_penalty_7 (by decide) (fun c2 => ?_) (fun c2 => ?_)
  · rw [if_neg c2] at hs
    refine lv_aload_n hx hb dX11_penalty_12 rfl (lv_at hl 0 rfl) ?_
    obtain ⟨v3, g_v3, hs⟩ := bd hs
    refine ro_gR F M fg_11_5 t_335 g_v3 dX11_penalty_13 ?_
    refine lv_iload_n hx hb dX11_penalty_16 rfl (lv_at hl 1 rfl) ?_
    obtain ⟨h4, g_h4, hs⟩ := bd hs
    refine ro_pIN F M fg_8_2 fp_8_2 rfl tN_321 g_h4 dX11_penalty_17 (fun H locs M => ?_)
    refine lv_iconst (v := 1) hx hb dX11_penalty_20 (by decide) ?_
    obtain rfl := Option.some.inj hs
    exact re_i F M dX11_penalty_21
  · rw [if_pos c2] at hs
    refine lv_iconst (v := (-1)) hx hb dX11_penalty_10 (by decide) ?_
    obtain rfl := Option.some.inj hs
    exact re_i F M dX11_penalty_11
abbrev rm_X11_askedStation : Room := { frames := 1, cells := 0, slots := 0, locals := 21 }
theorem mf_X11_askedStation : MV 11 yX11_askedStation cX11_askedStation 3 (some (.object "ContactHouse$Station")) 1 RX11 := ⟨t_660, t_659, tS_28, t_1, ⟨by decide +kernel, by decide +kernel, by decide +kernel⟩, rfl, by decide⟩
def s_X11_askedStation (h : IH) (th : Nat) (a0 : Int32) : Option (Option Nat × IH) := (gI h 11 12 (some th)).bind fun v1 => (pI h 11 12 (some th) (v1 + 1)).bind fun h2 => (pI h2 11 9 (some th) 0).bind fun h3 => (gR h3 11 1 (some th)).bind fun v4 => (cV h3 7 v4 fun a11 => s_X7_at h3 a11 a0).bind fun v5 => ((if v5 = none then (pI h3 11 9 (some th) 4).bind fun h7 => some h7 else (gI h3 11 10 (some th)).bind fun v8 => (pI h3 11 10 (some th) (v8 + 1)).bind fun h9 => some h9) : Option (IH)).bind fun q10 => some (v5, q10)
set_option maxHeartbeats 4000000 in
set_option maxRecDepth 100000 in
theorem c_X11_askedStation {l : Launch} {D : va_G} {cy : Nat → ClassId} {sz : Nat} {h : IH} {th : Nat} {a0 : Int32} {qF : Option Nat × IH} (hs : s_X11_askedStation h th a0 = some qF) : Ct l D cy yX11_askedStation cX11_askedStation 3 (some (.object "ContactHouse$Station")) rm_X11_askedStation h sz [.ref th, .int a0] qF.2 (some (va_rf qF.1)) := by
  refine ct_start (by decide +kernel) [(0, .ref th), (1, .int a0)] (Nat.le_of_ble_eq_true rfl) rfl ?_
  intro p e s m args below meth c A H0 ls F hin hsz M hl
  obtain ⟨hx, hb, hr, hml, hown, hlk, hts, hK, hN, hA, hH⟩ := id F
  generalize s.heap = H at M ⊢
  generalize ([] : List Loc) = locs at M ⊢
  unfold s_X11_askedStation at hs
  refine lv_aload_n hx hb dX11_askedStation_0 rfl (lv_at hl 0 rfl) ?_
  refine lv_dup hx hb dX11_askedStation_1 rfl ?_
  obtain ⟨v1, g_v1, hs⟩ := bd hs
  refine ro_gI F M fg_11_12 t_342 g_v1 dX11_askedStation_2 ?_
  refine lv_iconst (v := 1) hx hb dX11_askedStation_5 (by decide) ?_
  refine lv_iadd hx hb dX11_askedStation_6 ?_
  obtain ⟨h2, g_h2, hs⟩ := bd hs
  refine ro_pI F M fg_11_12 fp_11_12 rfl t_342 g_h2 dX11_askedStation_7 (fun H locs M => ?_)
  refine lv_aload_n hx hb dX11_askedStation_10 rfl (lv_at hl 0 rfl) ?_
  refine lv_iconst (v := 0) hx hb dX11_askedStation_11 (by decide) ?_
  obtain ⟨h3, g_h3, hs⟩ := bd hs
  refine ro_pI F M fg_11_9 fp_11_9 rfl t_339 g_h3 dX11_askedStation_12 (fun H locs M => ?_)
  refine lv_aload_n hx hb dX11_askedStation_15 rfl (lv_at hl 0 rfl) ?_
  obtain ⟨v4, g_v4, hs⟩ := bd hs
  refine ro_gR F M fg_11_1 t_331 g_v4 dX11_askedStation_16 ?_
  refine lv_iload_n hx hb dX11_askedStation_19 rfl (lv_at hl 1 rfl) ?_
  obtain ⟨v5, g_v5, hs⟩ := bd hs
  obtain ⟨a11, e_a11, k_a11, g_v5⟩ := cV_some g_v5
  refine ca_VNa (bq := a11) (As := [.int a0]) (rest := []) F M (c_X7_at g_v5) mf_X7_at tN_467 k_a11 rfl ⟨by decide, by decide⟩ ⟨rfl, rfl⟩ ⟨Nat.zero_le _, Nat.zero_le _⟩ hl.1 (by rw [e_a11]; rfl) (by decide) dX11_askedStation_20 (fun H locs M => ?_)
  refine lo_astore_n (i := 2) (lv' := [(2, va_rf v5), (0, .ref th), (1, .int a0)]) hx hb dX11_askedStation_23 rfl hl (by decide) rfl (fun ls hl => ?_)
  refine lo_aload_n hx hb dX11_askedStation_24 rfl (lv_at hl 0 rfl) ?_
  obtain ⟨q10, hsq10, hs⟩ := bd hs
  have KJ46 : ∀ (ls : Array Slot) (H : Heap) (locs : List Loc), lv_has ls 3 [(2, va_rf v5)] → Mo D cy A H0 q10 H locs → W p l e rm_X11_askedStation s m args below meth c H locs 0 0 (MQ below (QR D cy qF.2 A (some (va_rf qF.1))) args s 0 0 A) (F0 m 46 ls []) := by
    intro ls H locs hl M
    refine lo_aload_n hx hb dX11_askedStation_46 rfl (lv_at hl 0 rfl) ?_
    obtain rfl := Option.some.inj hs
    exact re_a F M dX11_askedStation_47
  clear hs
  have hs := hsq10
  refine lo_ifnonnull (tgt := 36) hx hb dX11_askedStation_25 (by decide) (fun c6 => ?_) (fun c6 => ?_)
  · rw [if_neg c6] at hs
    refine lv_aload_n hx hb dX11_askedStation_36 rfl (lv_at hl 1 rfl) ?_
    refine lv_dup hx hb dX11_askedStation_37 rfl ?_
    obtain ⟨v8, g_v8, hs⟩ := bd hs
    refine ro_gI F M fg_11_10 t_340 g_v8 dX11_askedStation_38 ?_
    refine lv_iconst (v := 1) hx hb dX11_askedStation_41 (by decide) ?_
    refine lv_iadd hx hb dX11_askedStation_42 ?_
    obtain ⟨h9, g_h9, hs⟩ := bd hs
    refine ro_pI F M fg_11_10 fp_11_10 rfl t_340 g_h9 dX11_askedStation_43 (fun H locs M => ?_)
    obtain rfl := Option.some.inj hs
    exact KJ46 _ _ _ (lv_sub hl [0] rfl) M
  · rw [if_pos c6] at hs
    refine lv_aload_n hx hb dX11_askedStation_28 rfl (lv_at hl 1 rfl) ?_
    refine lv_iconst (v := 4) hx hb dX11_askedStation_29 (by decide) ?_
    obtain ⟨h7, g_h7, hs⟩ := bd hs
    refine ro_pI F M fg_11_9 fp_11_9 rfl t_339 g_h7 dX11_askedStation_30 (fun H locs M => ?_)
    refine lv_goto (tgt := 46) hx hb dX11_askedStation_33 (by decide) ?_
    obtain rfl := Option.some.inj hs
    exact KJ46 _ _ _ (lv_sub hl [0] rfl) M
abbrev rm_X9_logOf : Room := { frames := 0, cells := 0, slots := 0, locals := 0 }
theorem mf_X9_logOf : MV 9 yX9_logOf cX9_logOf 2 (some (.object "ContactHouse$Log")) 1 RX9 := ⟨t_664, t_663, tS_29, t_13, ⟨by decide +kernel, by decide +kernel, by decide +kernel⟩, rfl, by decide⟩
def s_X9_logOf (h : IH) (th : Nat) (a0 : Int32) : Option (Option Nat) := ((if a0 < 0 then some none else if 3 ≤ a0 then some none else (gR h 9 5 (some th)).bind fun v3 => (aR h 4 v3 a0).bind fun v4 => some v4) : Option (Option Nat)).bind fun q5 => some q5
set_option maxHeartbeats 4000000 in
set_option maxRecDepth 100000 in
theorem c_X9_logOf {l : Launch} {D : va_G} {cy : Nat → ClassId} {sz : Nat} {h : IH} {th : Nat} {a0 : Int32} {qF : Option Nat} (hs : s_X9_logOf h th a0 = some qF) : Ct l D cy yX9_logOf cX9_logOf 2 (some (.object "ContactHouse$Log")) rm_X9_logOf h sz [.ref th, .int a0] h (some (va_rf qF)) := by
  refine ct_start (by decide +kernel) [(0, .ref th), (1, .int a0)] (Nat.le_of_ble_eq_true rfl) rfl ?_
  intro p e s m args below meth c A H0 ls F hin hsz M hl
  obtain ⟨hx, hb, hr, hml, hown, hlk, hts, hK, hN, hA, hH⟩ := id F
  generalize s.heap = H at M ⊢
  generalize ([] : List Loc) = locs at M ⊢
  unfold s_X9_logOf at hs
  refine lv_iload_n hx hb dX9_logOf_0 rfl (lv_at hl 1 rfl) ?_
  obtain ⟨q5, hsq5, hs⟩ := bd hs
  have KJ19 : ∀ (ls : Array Slot) (H : Heap) (locs : List Loc), lv_has ls 2 [] → Mo D cy A H0 h H locs → W p l e rm_X9_logOf s m args below meth c H locs 0 0 (MQ below (QR D cy h A (some (va_rf qF))) args s 0 0 A) (F0 m 19 ls [va_rf q5]) := by
    intro ls H locs hl M
    obtain rfl := Option.some.inj hs
    exact re_a F M dX9_logOf_19
  clear hs
  have hs := hsq5
  refine lv_if_lt (tgt := 18) hx hb dX9_logOf_1 (by decide) (fun c1 => ?_) (fun c1 => ?_)
  · rw [if_pos c1] at hs
    refine lv_null hx hb dX9_logOf_18 ?_
    obtain rfl := Option.some.inj hs
    exact KJ19 _ _ _ (lv_sub hl [] rfl) M
  · rw [if_neg c1] at hs
    refine lv_iload_n hx hb dX9_logOf_4 rfl (lv_at hl 1 rfl) ?_
    refine lv_iconst (v := 3) hx hb dX9_logOf_5 (by decide) ?_
    refine lv_icmp_ge (tgt := 18) hx hb dX9_logOf_6 (by decide) (fun c2 => ?_) (fun c2 => ?_)
    · rw [if_pos c2] at hs
      refine lv_null hx hb dX9_logOf_18 ?_
      obtain rfl := Option.some.inj hs
      exact KJ19 _ _ _ (lv_sub hl [] rfl) M
    · rw [if_neg c2] at hs
      refine lv_aload_n hx hb dX9_logOf_9 rfl (lv_at hl 0 rfl) ?_
      obtain ⟨v3, g_v3, hs⟩ := bd hs
      refine ro_gR F M fg_9_5 t_432 g_v3 dX9_logOf_10 ?_
      refine lv_iload_n hx hb dX9_logOf_13 rfl (lv_at hl 1 rfl) ?_
      obtain ⟨v4, g_v4, hs⟩ := bd hs
      refine ro_aR (k := 4) (by decide) rfl F M g_v4 dX9_logOf_14 ?_
      refine lv_goto (tgt := 19) hx hb dX9_logOf_15 (by decide) ?_
      obtain rfl := Option.some.inj hs
      exact KJ19 _ _ _ (lv_sub hl [] rfl) M
abbrev rm_X11_askedLog : Room := { frames := 2, cells := 0, slots := 0, locals := 43 }
theorem mf_X11_askedLog : MV 11 yX11_askedLog cX11_askedLog 5 (some (.object "ContactHouse$Log")) 2 RX11 := ⟨t_656, t_655, tS_27, t_1, ⟨by decide +kernel, by decide +kernel, by decide +kernel⟩, rfl, by decide⟩
def s_X11_askedLog (h : IH) (th : Nat) (a0 : Int32) (a1 : Int32) : Option (Option Nat × IH) := (cV h 11 (some th) fun a10 => s_X11_askedStation h a10 a0).bind fun v1 => if v1.1 = none then some (none, v1.2) else (cV v1.2 9 v1.1 fun a9 => s_X9_logOf v1.2 a9 a1).bind fun v3 => if v3 = none then (pI v1.2 11 9 (some th) 6).bind fun h5 => some (none, h5) else (gI v1.2 4 2 v3).bind fun v6 => if v6 = 0 then some (v3, v1.2) else (pI v1.2 11 9 (some th) 1).bind fun h8 => some (none, h8)
set_option maxHeartbeats 4000000 in
set_option maxRecDepth 100000 in
theorem c_X11_askedLog {l : Launch} {D : va_G} {cy : Nat → ClassId} {sz : Nat} {h : IH} {th : Nat} {a0 : Int32} {a1 : Int32} {qF : Option Nat × IH} (hs : s_X11_askedLog h th a0 a1 = some qF) : Ct l D cy yX11_askedLog cX11_askedLog 5 (some (.object "ContactHouse$Log")) rm_X11_askedLog h sz [.ref th, .int a0, .int a1] qF.2 (some (va_rf qF.1)) := by
  refine ct_start (by decide +kernel) [(0, .ref th), (1, .int a0), (2, .int a1)] (Nat.le_of_ble_eq_true rfl) rfl ?_
  intro p e s m args below meth c A H0 ls F hin hsz M hl
  obtain ⟨hx, hb, hr, hml, hown, hlk, hts, hK, hN, hA, hH⟩ := id F
  generalize s.heap = H at M ⊢
  generalize ([] : List Loc) = locs at M ⊢
  unfold s_X11_askedLog at hs
  refine lv_aload_n hx hb dX11_askedLog_0 rfl (lv_at hl 0 rfl) ?_
  refine lv_iload_n hx hb dX11_askedLog_1 rfl (lv_at hl 1 rfl) ?_
  obtain ⟨v1, g_v1, hs⟩ := bd hs
  obtain ⟨a10, e_a10, k_a10, g_v1⟩ := cV_some g_v1
  obtain rfl := Option.some.inj e_a10
  refine ca_Va (bq := th) (As := [.int a0]) (rest := []) F M (c_X11_askedStation g_v1) mf_X11_askedStation t_657 k_a10 rfl ⟨by decide, by decide⟩ ⟨rfl, rfl⟩ ⟨Nat.zero_le _, Nat.zero_le _⟩ hl.1 rfl (by decide) dX11_askedLog_2 (fun H locs M => ?_)
  refine lo_astore_n (i := 3) (lv' := [(3, va_rf v1.1), (0, .ref th), (1, .int a0), (2, .int a1)]) hx hb dX11_askedLog_5 rfl hl (by decide) rfl (fun ls hl => ?_)
  refine lo_aload_n hx hb dX11_askedLog_6 rfl (lv_at hl 0 rfl) ?_
  refine lo_ifnonnull (tgt := 12) hx hb dX11_askedLog_7 (by decide) (fun c2 => ?_) (fun c2 => ?_)
  · rw [if_neg c2] at hs
    refine lo_aload_n hx hb dX11_askedLog_12 rfl (lv_at hl 0 rfl) ?_
    refine lv_iload_n hx hb dX11_askedLog_13 rfl (lv_at hl 3 rfl) ?_
    obtain ⟨v3, g_v3, hs⟩ := bd hs
    obtain ⟨a9, e_a9, k_a9, g_v3⟩ := cV_some g_v3
    refine ca_VNa (bq := a9) (As := [.int a1]) (rest := []) F M (c_X9_logOf g_v3) mf_X9_logOf tN_661 k_a9 rfl ⟨by decide, by decide⟩ ⟨rfl, rfl⟩ ⟨Nat.zero_le _, Nat.zero_le _⟩ hl.1 (by rw [e_a9]; rfl) (by decide) dX11_askedLog_14 (fun H locs M => ?_)
    refine lo_astore (i := 4) (lv' := [(4, va_rf v3), (3, va_rf v1.1), (0, .ref th), (1, .int a0), (2, .int a1)]) hx hb dX11_askedLog_17 hl (by decide) (by simp [cat_rf, cat_i, cat_j, cat_r]) (fun ls hl => ?_)
    refine lo_aload hx hb dX11_askedLog_19 (lv_at hl 0 rfl) ?_
    refine lo_ifnonnull (tgt := 32) hx hb dX11_askedLog_21 (by decide) (fun c4 => ?_) (fun c4 => ?_)
    · rw [if_neg c4] at hs
      refine lo_aload hx hb dX11_askedLog_32 (lv_at hl 0 rfl) ?_
      obtain ⟨v6, g_v6, hs⟩ := bd hs
      refine ro_gIN F M fg_4_2 tN_177 g_v6 dX11_askedLog_34 ?_
      refine lv_if_eq (tgt := 47) hx hb dX11_askedLog_37 (by decide) (fun c7 => ?_) (fun c7 => ?_)
      · rw [if_pos c7] at hs
        refine lo_aload hx hb dX11_askedLog_47 (lv_at hl 0 rfl) ?_
        obtain rfl := Option.some.inj hs
        exact re_a F M dX11_askedLog_49
      · rw [if_neg c7] at hs
        refine lv_aload_n hx hb dX11_askedLog_40 rfl (lv_at hl 2 rfl) ?_
        refine lv_iconst (v := 1) hx hb dX11_askedLog_41 (by decide) ?_
        obtain ⟨h8, g_h8, hs⟩ := bd hs
        refine ro_pI F M fg_11_9 fp_11_9 rfl t_339 g_h8 dX11_askedLog_42 (fun H locs M => ?_)
        refine lv_null hx hb dX11_askedLog_45 ?_
        obtain rfl := Option.some.inj hs
        exact re_a F M dX11_askedLog_46
    · rw [if_pos c4] at hs
      refine lv_aload_n hx hb dX11_askedLog_24 rfl (lv_at hl 2 rfl) ?_
      refine lv_bipush (v := 6) hx hb dX11_askedLog_25 (by decide) ?_
      obtain ⟨h5, g_h5, hs⟩ := bd hs
      refine ro_pI F M fg_11_9 fp_11_9 rfl t_339 g_h5 dX11_askedLog_27 (fun H locs M => ?_)
      refine lv_null hx hb dX11_askedLog_30 ?_
      obtain rfl := Option.some.inj hs
      exact re_a F M dX11_askedLog_31
  · rw [if_pos c2] at hs
    refine lv_null hx hb dX11_askedLog_10 ?_
    obtain rfl := Option.some.inj hs
    exact re_a F M dX11_askedLog_11
abbrev rm_X11_answered : Room := { frames := 0, cells := 0, slots := 0, locals := 0 }
theorem mf_X11_answered : MV 11 yX11_answered cX11_answered 3 (some .long) 1 RX11 := ⟨t_668, t_667, tS_30, t_1, ⟨by decide +kernel, by decide +kernel, by decide +kernel⟩, rfl, by decide⟩
def s_X11_answered (h : IH) (th : Nat) (a0 : Int64) : Option (Int64 × IH) := (gI h 11 11 (some th)).bind fun v1 => (gI h 11 10 (some th)).bind fun v2 => ((if v2 ≤ v1 then some h else (gI h 11 11 (some th)).bind fun v4 => (pI h 11 11 (some th) (v4 + 1)).bind fun h5 => some h5) : Option (IH)).bind fun q6 => (gI q6 11 9 (some th)).bind fun v7 => if v7 = 0 then some (a0, q6) else (gI q6 11 13 (some th)).bind fun v9 => (pI q6 11 13 (some th) (v9 + 1)).bind fun h10 => some (0, h10)
set_option maxHeartbeats 4000000 in
set_option maxRecDepth 100000 in
theorem c_X11_answered {l : Launch} {D : va_G} {cy : Nat → ClassId} {sz : Nat} {h : IH} {th : Nat} {a0 : Int64} {qF : Int64 × IH} (hs : s_X11_answered h th a0 = some qF) : Ct l D cy yX11_answered cX11_answered 3 (some .long) rm_X11_answered h sz [.ref th, .long a0] qF.2 (some (.long qF.1)) := by
  refine ct_start (by decide +kernel) [(0, .ref th), (1, .long a0)] (Nat.le_of_ble_eq_true rfl) rfl ?_
  intro p e s m args below meth c A H0 ls F hin hsz M hl
  obtain ⟨hx, hb, hr, hml, hown, hlk, hts, hK, hN, hA, hH⟩ := id F
  generalize s.heap = H at M ⊢
  generalize ([] : List Loc) = locs at M ⊢
  unfold s_X11_answered at hs
  refine lv_aload_n hx hb dX11_answered_0 rfl (lv_at hl 0 rfl) ?_
  obtain ⟨v1, g_v1, hs⟩ := bd hs
  refine ro_gI F M fg_11_11 t_341 g_v1 dX11_answered_1 ?_
  refine lv_aload_n hx hb dX11_answered_4 rfl (lv_at hl 0 rfl) ?_
  obtain ⟨v2, g_v2, hs⟩ := bd hs
  refine ro_gI F M fg_11_10 t_340 g_v2 dX11_answered_5 ?_
  obtain ⟨q6, hsq6, hs⟩ := bd hs
  have KJ21 : ∀ (ls : Array Slot) (H : Heap) (locs : List Loc), lv_has ls 3 [(0, .ref th), (1, .long a0)] → Mo D cy A H0 q6 H locs → W p l e rm_X11_answered s m args below meth c H locs 0 0 (MQ below (QR D cy qF.2 A (some (.long qF.1))) args s 0 0 A) (F0 m 21 ls []) := by
    intro ls H locs hl M
    refine lv_aload_n hx hb dX11_answered_21 rfl (lv_at hl 0 rfl) ?_
    obtain ⟨v7, g_v7, hs⟩ := bd hs
    refine ro_gI F M fg_11_9 t_339 g_v7 dX11_answered_22 ?_
    refine lv_if_ne (tgt := 30) hx hb dX11_answered_25 (by decide) (fun c8 => ?_) (fun c8 => ?_)
    · rw [if_neg c8] at hs
      refine lv_aload_n hx hb dX11_answered_30 rfl (lv_at hl 0 rfl) ?_
      refine lv_dup hx hb dX11_answered_31 rfl ?_
      obtain ⟨v9, g_v9, hs⟩ := bd hs
      refine ro_gI F M fg_11_13 t_343 g_v9 dX11_answered_32 ?_
      refine lv_iconst (v := 1) hx hb dX11_answered_35 (by decide) ?_
      refine lv_iadd hx hb dX11_answered_36 ?_
      obtain ⟨h10, g_h10, hs⟩ := bd hs
      refine ro_pI F M fg_11_13 fp_11_13 rfl t_343 g_h10 dX11_answered_37 (fun H locs M => ?_)
      refine lv_lconst (v := 0) hx hb dX11_answered_40 (by decide) ?_
      obtain rfl := Option.some.inj hs
      exact re_l F M dX11_answered_41
    · rw [if_pos c8] at hs
      refine lv_lload_n hx hb dX11_answered_28 rfl (lv_at hl 1 rfl) ?_
      obtain rfl := Option.some.inj hs
      exact re_l F M dX11_answered_29
  clear hs
  have hs := hsq6
  refine lv_icmp_ge (tgt := 21) hx hb dX11_answered_8 (by decide) (fun c3 => ?_) (fun c3 => ?_)
  · rw [if_pos c3] at hs
    obtain rfl := Option.some.inj hs
    exact KJ21 _ _ _ (lv_sub hl [0, 1] rfl) M
  · rw [if_neg c3] at hs
    refine lv_aload_n hx hb dX11_answered_11 rfl (lv_at hl 0 rfl) ?_
    refine lv_dup hx hb dX11_answered_12 rfl ?_
    obtain ⟨v4, g_v4, hs⟩ := bd hs
    refine ro_gI F M fg_11_11 t_341 g_v4 dX11_answered_13 ?_
    refine lv_iconst (v := 1) hx hb dX11_answered_16 (by decide) ?_
    refine lv_iadd hx hb dX11_answered_17 ?_
    obtain ⟨h5, g_h5, hs⟩ := bd hs
    refine ro_pI F M fg_11_11 fp_11_11 rfl t_341 g_h5 dX11_answered_18 (fun H locs M => ?_)
    obtain rfl := Option.some.inj hs
    exact KJ21 _ _ _ (lv_sub hl [0, 1] rfl) M
abbrev rm_X11_lines : Room := { frames := 3, cells := 0, slots := 0, locals := 67 }
theorem mf_X11_lines : MV 11 yX11_lines cX11_lines 4 (some .int) 2 RX11 := ⟨t_652, t_650, t_651, t_1, ⟨by decide +kernel, by decide +kernel, by decide +kernel⟩, rfl, by decide⟩
def s_X11_lines (h : IH) (th : Nat) (a0 : Int32) (a1 : Int32) : Option (Int32 × IH) := (cV h 11 (some th) fun a7 => s_X11_askedLog h a7 a0 a1).bind fun v1 => ((if v1.1 = none then some 0 else (gI v1.2 4 1 v1.1).bind fun v3 => some v3.toInt64) : Option (Int64)).bind fun q4 => (cV v1.2 11 (some th) fun a6 => s_X11_answered v1.2 a6 q4).bind fun v5 => some (v5.1.toInt32, v5.2)
set_option maxHeartbeats 4000000 in
set_option maxRecDepth 100000 in
theorem c_X11_lines {l : Launch} {D : va_G} {cy : Nat → ClassId} {sz : Nat} {h : IH} {th : Nat} {a0 : Int32} {a1 : Int32} {qF : Int32 × IH} (hs : s_X11_lines h th a0 a1 = some qF) : Ct l D cy yX11_lines cX11_lines 4 (some .int) rm_X11_lines h sz [.ref th, .int a0, .int a1] qF.2 (some (.int qF.1)) := by
  refine ct_start (by decide +kernel) [(0, .ref th), (1, .int a0), (2, .int a1)] (Nat.le_of_ble_eq_true rfl) rfl ?_
  intro p e s m args below meth c A H0 ls F hin hsz M hl
  obtain ⟨hx, hb, hr, hml, hown, hlk, hts, hK, hN, hA, hH⟩ := id F
  generalize s.heap = H at M ⊢
  generalize ([] : List Loc) = locs at M ⊢
  unfold s_X11_lines at hs
  refine lv_aload_n hx hb dX11_lines_0 rfl (lv_at hl 0 rfl) ?_
  refine lv_iload_n hx hb dX11_lines_1 rfl (lv_at hl 1 rfl) ?_
  refine lv_iload_n hx hb dX11_lines_2 rfl (lv_at hl 2 rfl) ?_
  obtain ⟨v1, g_v1, hs⟩ := bd hs
  obtain ⟨a7, e_a7, k_a7, g_v1⟩ := cV_some g_v1
  obtain rfl := Option.some.inj e_a7
  refine ca_Va (bq := th) (As := [.int a0, .int a1]) (rest := []) F M (c_X11_askedLog g_v1) mf_X11_askedLog t_653 k_a7 rfl ⟨by decide, by decide⟩ ⟨rfl, rfl⟩ ⟨Nat.zero_le _, Nat.zero_le _⟩ hl.1 rfl (by decide) dX11_lines_3 (fun H locs M => ?_)
  refine lo_astore_n (i := 3) (lv' := [(3, va_rf v1.1), (0, .ref th), (1, .int a0), (2, .int a1)]) hx hb dX11_lines_6 rfl hl (by decide) rfl (fun ls hl => ?_)
  refine lv_aload_n hx hb dX11_lines_7 rfl (lv_at hl 1 rfl) ?_
  refine lo_aload_n hx hb dX11_lines_8 rfl (lv_at hl 0 rfl) ?_
  obtain ⟨q4, hsq4, hs⟩ := bd hs
  have KJ21 : ∀ (ls : Array Slot) (H : Heap) (locs : List Loc), lv_has ls 4 [] → Mo D cy A H0 v1.2 H locs → W p l e rm_X11_lines s m args below meth c H locs 0 0 (MQ below (QR D cy qF.2 A (some (.int qF.1))) args s 0 0 A) (F0 m 21 ls [.long q4, .ref th]) := by
    intro ls H locs hl M
    obtain ⟨v5, g_v5, hs⟩ := bd hs
    obtain ⟨a6, e_a6, k_a6, g_v5⟩ := cV_some g_v5
    obtain rfl := Option.some.inj e_a6
    refine ca_Vl (bq := th) (As := [.long q4]) (rest := []) F M (c_X11_answered g_v5) mf_X11_answered t_665 k_a6 rfl ⟨by decide, by decide⟩ ⟨rfl, rfl⟩ ⟨Nat.zero_le _, Nat.zero_le _⟩ hl.1 rfl (by decide) dX11_lines_21 (fun H locs M => ?_)
    refine lv_l2i hx hb dX11_lines_24 rfl ?_
    obtain rfl := Option.some.inj hs
    exact re_i F M dX11_lines_25
  clear hs
  have hs := hsq4
  refine lo_ifnonnull (tgt := 16) hx hb dX11_lines_9 (by decide) (fun c2 => ?_) (fun c2 => ?_)
  · rw [if_neg c2] at hs
    refine lo_aload_n hx hb dX11_lines_16 rfl (lv_at hl 0 rfl) ?_
    obtain ⟨v3, g_v3, hs⟩ := bd hs
    refine ro_gIN F M fg_4_1 tN_172 g_v3 dX11_lines_17 ?_
    refine lv_i2l hx hb dX11_lines_20 rfl ?_
    obtain rfl := Option.some.inj hs
    exact KJ21 _ _ _ (lv_sub hl [] rfl) M
  · rw [if_pos c2] at hs
    refine lv_lconst (v := 0) hx hb dX11_lines_12 (by decide) ?_
    refine lv_goto (tgt := 21) hx hb dX11_lines_13 (by decide) ?_
    obtain rfl := Option.some.inj hs
    exact KJ21 _ _ _ (lv_sub hl [] rfl) M
abbrev rm_X4_at : Room := { frames := 0, cells := 0, slots := 0, locals := 0 }
theorem mf_X4_at : MV 4 yX4_at cX4_at 2 (some (.object "ContactHouse$Entry")) 1 RX4 := ⟨t_680, t_679, tS_32, t_6, ⟨by decide +kernel, by decide +kernel, by decide +kernel⟩, rfl, by decide⟩
def s_X4_at (h : IH) (th : Nat) (a0 : Int32) : Option (Option Nat) := ((if a0 < 0 then some none else (gI h 4 1 (some th)).bind fun v2 => if v2 ≤ a0 then some none else (gR h 4 0 (some th)).bind fun v4 => (aR h 3 v4 a0).bind fun v5 => some v5) : Option (Option Nat)).bind fun q6 => some q6
set_option maxHeartbeats 4000000 in
set_option maxRecDepth 100000 in
theorem c_X4_at {l : Launch} {D : va_G} {cy : Nat → ClassId} {sz : Nat} {h : IH} {th : Nat} {a0 : Int32} {qF : Option Nat} (hs : s_X4_at h th a0 = some qF) : Ct l D cy yX4_at cX4_at 2 (some (.object "ContactHouse$Entry")) rm_X4_at h sz [.ref th, .int a0] h (some (va_rf qF)) := by
  refine ct_start (by decide +kernel) [(0, .ref th), (1, .int a0)] (Nat.le_of_ble_eq_true rfl) rfl ?_
  intro p e s m args below meth c A H0 ls F hin hsz M hl
  obtain ⟨hx, hb, hr, hml, hown, hlk, hts, hK, hN, hA, hH⟩ := id F
  generalize s.heap = H at M ⊢
  generalize ([] : List Loc) = locs at M ⊢
  unfold s_X4_at at hs
  refine lv_iload_n hx hb dX4_at_0 rfl (lv_at hl 1 rfl) ?_
  obtain ⟨q6, hsq6, hs⟩ := bd hs
  have KJ22 : ∀ (ls : Array Slot) (H : Heap) (locs : List Loc), lv_has ls 2 [] → Mo D cy A H0 h H locs → W p l e rm_X4_at s m args below meth c H locs 0 0 (MQ below (QR D cy h A (some (va_rf qF))) args s 0 0 A) (F0 m 22 ls [va_rf q6]) := by
    intro ls H locs hl M
    obtain rfl := Option.some.inj hs
    exact re_a F M dX4_at_22
  clear hs
  have hs := hsq6
  refine lv_if_lt (tgt := 21) hx hb dX4_at_1 (by decide) (fun c1 => ?_) (fun c1 => ?_)
  · rw [if_pos c1] at hs
    refine lv_null hx hb dX4_at_21 ?_
    obtain rfl := Option.some.inj hs
    exact KJ22 _ _ _ (lv_sub hl [] rfl) M
  · rw [if_neg c1] at hs
    refine lv_iload_n hx hb dX4_at_4 rfl (lv_at hl 1 rfl) ?_
    refine lv_aload_n hx hb dX4_at_5 rfl (lv_at hl 0 rfl) ?_
    obtain ⟨v2, g_v2, hs⟩ := bd hs
    refine ro_gI F M fg_4_1 t_166 g_v2 dX4_at_6 ?_
    refine lv_icmp_ge (tgt := 21) hx hb dX4_at_9 (by decide) (fun c3 => ?_) (fun c3 => ?_)
    · rw [if_pos c3] at hs
      refine lv_null hx hb dX4_at_21 ?_
      obtain rfl := Option.some.inj hs
      exact KJ22 _ _ _ (lv_sub hl [] rfl) M
    · rw [if_neg c3] at hs
      refine lv_aload_n hx hb dX4_at_12 rfl (lv_at hl 0 rfl) ?_
      obtain ⟨v4, g_v4, hs⟩ := bd hs
      refine ro_gR F M fg_4_0 t_165 g_v4 dX4_at_13 ?_
      refine lv_iload_n hx hb dX4_at_16 rfl (lv_at hl 1 rfl) ?_
      obtain ⟨v5, g_v5, hs⟩ := bd hs
      refine ro_aR (k := 3) (by decide) rfl F M g_v5 dX4_at_17 ?_
      refine lv_goto (tgt := 22) hx hb dX4_at_18 (by decide) ?_
      obtain rfl := Option.some.inj hs
      exact KJ22 _ _ _ (lv_sub hl [] rfl) M
abbrev rm_X11_askedLine : Room := { frames := 3, cells := 0, slots := 0, locals := 67 }
theorem mf_X11_askedLine : MV 11 yX11_askedLine cX11_askedLine 6 (some (.object "ContactHouse$Entry")) 3 RX11 := ⟨t_676, t_675, tS_31, t_1, ⟨by decide +kernel, by decide +kernel, by decide +kernel⟩, rfl, by decide⟩
def s_X11_askedLine (h : IH) (th : Nat) (a0 : Int32) (a1 : Int32) (a2 : Int32) : Option (Option Nat × IH) := (cV h 11 (some th) fun a8 => s_X11_askedLog h a8 a0 a1).bind fun v1 => if v1.1 = none then some (none, v1.2) else (cV v1.2 4 v1.1 fun a7 => s_X4_at v1.2 a7 a2).bind fun v3 => ((if v3 = none then (pI v1.2 11 9 (some th) 2).bind fun h5 => some h5 else some v1.2) : Option (IH)).bind fun q6 => some (v3, q6)
set_option maxHeartbeats 4000000 in
set_option maxRecDepth 100000 in
theorem c_X11_askedLine {l : Launch} {D : va_G} {cy : Nat → ClassId} {sz : Nat} {h : IH} {th : Nat} {a0 : Int32} {a1 : Int32} {a2 : Int32} {qF : Option Nat × IH} (hs : s_X11_askedLine h th a0 a1 a2 = some qF) : Ct l D cy yX11_askedLine cX11_askedLine 6 (some (.object "ContactHouse$Entry")) rm_X11_askedLine h sz [.ref th, .int a0, .int a1, .int a2] qF.2 (some (va_rf qF.1)) := by
  refine ct_start (by decide +kernel) [(0, .ref th), (1, .int a0), (2, .int a1), (3, .int a2)] (Nat.le_of_ble_eq_true rfl) rfl ?_
  intro p e s m args below meth c A H0 ls F hin hsz M hl
  obtain ⟨hx, hb, hr, hml, hown, hlk, hts, hK, hN, hA, hH⟩ := id F
  generalize s.heap = H at M ⊢
  generalize ([] : List Loc) = locs at M ⊢
  unfold s_X11_askedLine at hs
  refine lv_aload_n hx hb dX11_askedLine_0 rfl (lv_at hl 0 rfl) ?_
  refine lv_iload_n hx hb dX11_askedLine_1 rfl (lv_at hl 1 rfl) ?_
  refine lv_iload_n hx hb dX11_askedLine_2 rfl (lv_at hl 2 rfl) ?_
  obtain ⟨v1, g_v1, hs⟩ := bd hs
  obtain ⟨a8, e_a8, k_a8, g_v1⟩ := cV_some g_v1
  obtain rfl := Option.some.inj e_a8
  refine ca_Va (bq := th) (As := [.int a0, .int a1]) (rest := []) F M (c_X11_askedLog g_v1) mf_X11_askedLog t_653 k_a8 rfl ⟨by decide, by decide⟩ ⟨rfl, rfl⟩ ⟨Nat.zero_le _, Nat.zero_le _⟩ hl.1 rfl (by decide) dX11_askedLine_3 (fun H locs M => ?_)
  refine lo_astore (i := 4) (lv' := [(4, va_rf v1.1), (0, .ref th), (1, .int a0), (2, .int a1), (3, .int a2)]) hx hb dX11_askedLine_6 hl (by decide) rfl (fun ls hl => ?_)
  refine lo_aload hx hb dX11_askedLine_8 (lv_at hl 0 rfl) ?_
  refine lo_ifnonnull (tgt := 15) hx hb dX11_askedLine_10 (by decide) (fun c2 => ?_) (fun c2 => ?_)
  · rw [if_neg c2] at hs
    refine lo_aload hx hb dX11_askedLine_15 (lv_at hl 0 rfl) ?_
    refine lv_iload_n hx hb dX11_askedLine_17 rfl (lv_at hl 4 rfl) ?_
    obtain ⟨v3, g_v3, hs⟩ := bd hs
    obtain ⟨a7, e_a7, k_a7, g_v3⟩ := cV_some g_v3
    refine ca_VNa (bq := a7) (As := [.int a2]) (rest := []) F M (c_X4_at g_v3) mf_X4_at tN_677 k_a7 rfl ⟨by decide, by decide⟩ ⟨rfl, rfl⟩ ⟨Nat.zero_le _, Nat.zero_le _⟩ hl.1 (by rw [e_a7]; rfl) (by decide) dX11_askedLine_18 (fun H locs M => ?_)
    refine lo_astore (i := 5) (lv' := [(5, va_rf v3), (4, va_rf v1.1), (0, .ref th), (1, .int a0), (2, .int a1), (3, .int a2)]) hx hb dX11_askedLine_21 hl (by decide) (by simp [cat_rf, cat_i, cat_j, cat_r]) (fun ls hl => ?_)
    refine lo_aload hx hb dX11_askedLine_23 (lv_at hl 0 rfl) ?_
    obtain ⟨q6, hsq6, hs⟩ := bd hs
    have KJ33 : ∀ (ls : Array Slot) (H : Heap) (locs : List Loc), lv_has ls 6 [(5, va_rf v3)] → Mo D cy A H0 q6 H locs → W p l e rm_X11_askedLine s m args below meth c H locs 0 0 (MQ below (QR D cy qF.2 A (some (va_rf qF.1))) args s 0 0 A) (F0 m 33 ls []) := by
      intro ls H locs hl M
      refine lo_aload hx hb dX11_askedLine_33 (lv_at hl 0 rfl) ?_
      obtain rfl := Option.some.inj hs
      exact re_a F M dX11_askedLine_35
    clear hs
    have hs := hsq6
    refine lo_ifnonnull (tgt := 33) hx hb dX11_askedLine_25 (by decide) (fun c4 => ?_) (fun c4 => ?_)
    · rw [if_neg c4] at hs
      obtain rfl := Option.some.inj hs
      exact KJ33 _ _ _ (lv_sub hl [0] rfl) M
    · rw [if_pos c4] at hs
      refine lv_aload_n hx hb dX11_askedLine_28 rfl (lv_at hl 2 rfl) ?_
      refine lv_iconst (v := 2) hx hb dX11_askedLine_29 (by decide) ?_
      obtain ⟨h5, g_h5, hs⟩ := bd hs
      refine ro_pI F M fg_11_9 fp_11_9 rfl t_339 g_h5 dX11_askedLine_30 (fun H locs M => ?_)
      obtain rfl := Option.some.inj hs
      exact KJ33 _ _ _ (lv_sub hl [0] rfl) M
  · rw [if_pos c2] at hs
    refine lv_null hx hb dX11_askedLine_13 ?_
    obtain rfl := Option.some.inj hs
    exact re_a F M dX11_askedLine_14
abbrev rm_X11_entry : Room := { frames := 4, cells := 0, slots := 0, locals := 92 }
theorem mf_X11_entry : MV 11 yX11_entry cX11_entry 5 (some .int) 3 RX11 := ⟨t_672, t_670, t_671, t_1, ⟨by decide +kernel, by decide +kernel, by decide +kernel⟩, rfl, by decide⟩
def s_X11_entry (h : IH) (th : Nat) (a0 : Int32) (a1 : Int32) (a2 : Int32) : Option (Int32 × IH) := (cV h 11 (some th) fun a7 => s_X11_askedLine h a7 a0 a1 a2).bind fun v1 => ((if v1.1 = none then some 0 else (gI v1.2 2 0 v1.1).bind fun v3 => some v3.toInt64) : Option (Int64)).bind fun q4 => (cV v1.2 11 (some th) fun a6 => s_X11_answered v1.2 a6 q4).bind fun v5 => some (v5.1.toInt32, v5.2)
set_option maxHeartbeats 4000000 in
set_option maxRecDepth 100000 in
theorem c_X11_entry {l : Launch} {D : va_G} {cy : Nat → ClassId} {sz : Nat} {h : IH} {th : Nat} {a0 : Int32} {a1 : Int32} {a2 : Int32} {qF : Int32 × IH} (hs : s_X11_entry h th a0 a1 a2 = some qF) : Ct l D cy yX11_entry cX11_entry 5 (some .int) rm_X11_entry h sz [.ref th, .int a0, .int a1, .int a2] qF.2 (some (.int qF.1)) := by
  refine ct_start (by decide +kernel) [(0, .ref th), (1, .int a0), (2, .int a1), (3, .int a2)] (Nat.le_of_ble_eq_true rfl) rfl ?_
  intro p e s m args below meth c A H0 ls F hin hsz M hl
  obtain ⟨hx, hb, hr, hml, hown, hlk, hts, hK, hN, hA, hH⟩ := id F
  generalize s.heap = H at M ⊢
  generalize ([] : List Loc) = locs at M ⊢
  unfold s_X11_entry at hs
  refine lv_aload_n hx hb dX11_entry_0 rfl (lv_at hl 0 rfl) ?_
  refine lv_iload_n hx hb dX11_entry_1 rfl (lv_at hl 1 rfl) ?_
  refine lv_iload_n hx hb dX11_entry_2 rfl (lv_at hl 2 rfl) ?_
  refine lv_iload_n hx hb dX11_entry_3 rfl (lv_at hl 3 rfl) ?_
  obtain ⟨v1, g_v1, hs⟩ := bd hs
  obtain ⟨a7, e_a7, k_a7, g_v1⟩ := cV_some g_v1
  obtain rfl := Option.some.inj e_a7
  refine ca_Va (bq := th) (As := [.int a0, .int a1, .int a2]) (rest := []) F M (c_X11_askedLine g_v1) mf_X11_askedLine t_673 k_a7 rfl ⟨by decide, by decide⟩ ⟨rfl, rfl⟩ ⟨Nat.zero_le _, Nat.zero_le _⟩ hl.1 rfl (by decide) dX11_entry_4 (fun H locs M => ?_)
  refine lo_astore (i := 4) (lv' := [(4, va_rf v1.1), (0, .ref th), (1, .int a0), (2, .int a1), (3, .int a2)]) hx hb dX11_entry_7 hl (by decide) rfl (fun ls hl => ?_)
  refine lv_aload_n hx hb dX11_entry_9 rfl (lv_at hl 1 rfl) ?_
  refine lo_aload hx hb dX11_entry_10 (lv_at hl 0 rfl) ?_
  obtain ⟨q4, hsq4, hs⟩ := bd hs
  have KJ25 : ∀ (ls : Array Slot) (H : Heap) (locs : List Loc), lv_has ls 5 [] → Mo D cy A H0 v1.2 H locs → W p l e rm_X11_entry s m args below meth c H locs 0 0 (MQ below (QR D cy qF.2 A (some (.int qF.1))) args s 0 0 A) (F0 m 25 ls [.long q4, .ref th]) := by
    intro ls H locs hl M
    obtain ⟨v5, g_v5, hs⟩ := bd hs
    obtain ⟨a6, e_a6, k_a6, g_v5⟩ := cV_some g_v5
    obtain rfl := Option.some.inj e_a6
    refine ca_Vl (bq := th) (As := [.long q4]) (rest := []) F M (c_X11_answered g_v5) mf_X11_answered t_665 k_a6 rfl ⟨by decide, by decide⟩ ⟨rfl, rfl⟩ ⟨Nat.zero_le _, Nat.zero_le _⟩ hl.1 rfl (by decide) dX11_entry_25 (fun H locs M => ?_)
    refine lv_l2i hx hb dX11_entry_28 rfl ?_
    obtain rfl := Option.some.inj hs
    exact re_i F M dX11_entry_29
  clear hs
  have hs := hsq4
  refine lo_ifnonnull (tgt := 19) hx hb dX11_entry_12 (by decide) (fun c2 => ?_) (fun c2 => ?_)
  · rw [if_neg c2] at hs
    refine lo_aload hx hb dX11_entry_19 (lv_at hl 0 rfl) ?_
    obtain ⟨v3, g_v3, hs⟩ := bd hs
    refine ro_gIN F M fg_2_0 tN_93 g_v3 dX11_entry_21 ?_
    refine lv_i2l hx hb dX11_entry_24 rfl ?_
    obtain rfl := Option.some.inj hs
    exact KJ25 _ _ _ (lv_sub hl [] rfl) M
  · rw [if_pos c2] at hs
    refine lv_lconst (v := 0) hx hb dX11_entry_15 (by decide) ?_
    refine lv_goto (tgt := 25) hx hb dX11_entry_16 (by decide) ?_
    obtain rfl := Option.some.inj hs
    exact KJ25 _ _ _ (lv_sub hl [] rfl) M
abbrev rm_X11_refused : Room := { frames := 1, cells := 0, slots := 0, locals := 22 }
theorem mf_X11_refused : MV 11 yX11_refused cX11_refused 2 (some .long) 1 RX11 := ⟨t_688, t_687, tS_33, t_1, ⟨by decide +kernel, by decide +kernel, by decide +kernel⟩, rfl, by decide⟩
def s_X11_refused (h : IH) (th : Nat) (a0 : Int32) : Option (Int64 × IH) := (pI h 11 9 (some th) a0).bind fun h1 => (cV h1 11 (some th) fun a3 => s_X11_answered h1 a3 0).bind fun v2 => some (v2.1, v2.2)
set_option maxHeartbeats 4000000 in
set_option maxRecDepth 100000 in
theorem c_X11_refused {l : Launch} {D : va_G} {cy : Nat → ClassId} {sz : Nat} {h : IH} {th : Nat} {a0 : Int32} {qF : Int64 × IH} (hs : s_X11_refused h th a0 = some qF) : Ct l D cy yX11_refused cX11_refused 2 (some .long) rm_X11_refused h sz [.ref th, .int a0] qF.2 (some (.long qF.1)) := by
  refine ct_start (by decide +kernel) [(0, .ref th), (1, .int a0)] (Nat.le_of_ble_eq_true rfl) rfl ?_
  intro p e s m args below meth c A H0 ls F hin hsz M hl
  obtain ⟨hx, hb, hr, hml, hown, hlk, hts, hK, hN, hA, hH⟩ := id F
  generalize s.heap = H at M ⊢
  generalize ([] : List Loc) = locs at M ⊢
  unfold s_X11_refused at hs
  refine lv_aload_n hx hb dX11_refused_0 rfl (lv_at hl 0 rfl) ?_
  refine lv_iload_n hx hb dX11_refused_1 rfl (lv_at hl 1 rfl) ?_
  obtain ⟨h1, g_h1, hs⟩ := bd hs
  refine ro_pI F M fg_11_9 fp_11_9 rfl t_339 g_h1 dX11_refused_2 (fun H locs M => ?_)
  refine lv_aload_n hx hb dX11_refused_5 rfl (lv_at hl 0 rfl) ?_
  refine lv_lconst (v := 0) hx hb dX11_refused_6 (by decide) ?_
  obtain ⟨v2, g_v2, hs⟩ := bd hs
  obtain ⟨a3, e_a3, k_a3, g_v2⟩ := cV_some g_v2
  obtain rfl := Option.some.inj e_a3
  refine ca_Vl (bq := th) (As := [.long 0]) (rest := []) F M (c_X11_answered g_v2) mf_X11_answered t_665 k_a3 rfl ⟨by decide, by decide⟩ ⟨rfl, rfl⟩ ⟨Nat.zero_le _, Nat.zero_le _⟩ hl.1 rfl (by decide) dX11_refused_7 (fun H locs M => ?_)
  obtain rfl := Option.some.inj hs
  exact re_l F M dX11_refused_10
abbrev rm_X11_moment : Room := { frames := 4, cells := 0, slots := 0, locals := 92 }
theorem mf_X11_moment : MV 11 yX11_moment cX11_moment 6 (some .long) 4 RX11 := ⟨t_684, t_682, t_683, t_1, ⟨by decide +kernel, by decide +kernel, by decide +kernel⟩, rfl, by decide⟩
def s_X11_moment (h : IH) (th : Nat) (a0 : Int32) (a1 : Int32) (a2 : Int32) (a3 : Int32) : Option (Int64 × IH) := (cV h 11 (some th) fun a29 => s_X11_askedLine h a29 a0 a1 a2).bind fun v1 => if v1.1 = none then (cV v1.2 11 (some th) fun a4 => s_X11_answered v1.2 a4 0).bind fun v3 => some (v3.1, v3.2) else (gI v1.2 2 0 v1.1).bind fun v5 => if v5 = 2 then (cV v1.2 11 (some th) fun a8 => s_X11_refused v1.2 a8 3).bind fun v7 => some (v7.1, v7.2) else if a3 = 1 then (gI v1.2 2 0 v1.1).bind fun v10 => if v10 = 1 then (gL v1.2 2 2 v1.1).bind fun v12 => (cV v1.2 11 (some th) fun a14 => s_X11_answered v1.2 a14 v12).bind fun v13 => some (v13.1, v13.2) else ((if a3 = 0 then (gL v1.2 2 1 v1.1).bind fun v16 => (cV v1.2 11 (some th) fun a18 => s_X11_answered v1.2 a18 v16).bind fun v17 => some (v17.1, v17.2) else (cV v1.2 11 (some th) fun a20 => s_X11_refused v1.2 a20 2).bind fun v19 => some (v19.1, v19.2)) : Option (Int64 × IH)).bind fun q21 => some (q21.1, q21.2) else ((if a3 = 0 then (gL v1.2 2 1 v1.1).bind fun v23 => (cV v1.2 11 (some th) fun a25 => s_X11_answered v1.2 a25 v23).bind fun v24 => some (v24.1, v24.2) else (cV v1.2 11 (some th) fun a27 => s_X11_refused v1.2 a27 2).bind fun v26 => some (v26.1, v26.2)) : Option (Int64 × IH)).bind fun q28 => some (q28.1, q28.2)
set_option maxHeartbeats 4000000 in
set_option maxRecDepth 100000 in
theorem c_X11_moment {l : Launch} {D : va_G} {cy : Nat → ClassId} {sz : Nat} {h : IH} {th : Nat} {a0 : Int32} {a1 : Int32} {a2 : Int32} {a3 : Int32} {qF : Int64 × IH} (hs : s_X11_moment h th a0 a1 a2 a3 = some qF) : Ct l D cy yX11_moment cX11_moment 6 (some .long) rm_X11_moment h sz [.ref th, .int a0, .int a1, .int a2, .int a3] qF.2 (some (.long qF.1)) := by
  refine ct_start (by decide +kernel) [(0, .ref th), (1, .int a0), (2, .int a1), (3, .int a2), (4, .int a3)] (Nat.le_of_ble_eq_true rfl) rfl ?_
  intro p e s m args below meth c A H0 ls F hin hsz M hl
  obtain ⟨hx, hb, hr, hml, hown, hlk, hts, hK, hN, hA, hH⟩ := id F
  generalize s.heap = H at M ⊢
  generalize ([] : List Loc) = locs at M ⊢
  unfold s_X11_moment at hs
  refine lv_aload_n hx hb dX11_moment_0 rfl (lv_at hl 0 rfl) ?_
  refine lv_iload_n hx hb dX11_moment_1 rfl (lv_at hl 1 rfl) ?_
  refine lv_iload_n hx hb dX11_moment_2 rfl (lv_at hl 2 rfl) ?_
  refine lv_iload_n hx hb dX11_moment_3 rfl (lv_at hl 3 rfl) ?_
  obtain ⟨v1, g_v1, hs⟩ := bd hs
  obtain ⟨a29, e_a29, k_a29, g_v1⟩ := cV_some g_v1
  obtain rfl := Option.some.inj e_a29
  refine ca_Va (bq := th) (As := [.int a0, .int a1, .int a2]) (rest := []) F M (c_X11_askedLine g_v1) mf_X11_askedLine t_673 k_a29 rfl ⟨by decide, by decide⟩ ⟨rfl, rfl⟩ ⟨Nat.zero_le _, Nat.zero_le _⟩ hl.1 rfl (by decide) dX11_moment_4 (fun H locs M => ?_)
  refine lo_astore (i := 5) (lv' := [(5, va_rf v1.1), (0, .ref th), (1, .int a0), (2, .int a1), (3, .int a2), (4, .int a3)]) hx hb dX11_moment_7 hl (by decide) rfl (fun ls hl => ?_)
  refine lo_aload hx hb dX11_moment_9 (lv_at hl 0 rfl) ?_
  refine lo_ifnonnull (tgt := 20) hx hb dX11_moment_11 (by decide) (fun c2 => ?_) (fun c2 => ?_)
  · rw [if_neg c2] at hs
    refine lo_aload hx hb dX11_moment_20 (lv_at hl 0 rfl) ?_
    obtain ⟨v5, g_v5, hs⟩ := bd hs
    refine ro_gIN F M fg_2_0 tN_93 g_v5 dX11_moment_22 ?_
    refine lv_iconst (v := 2) hx hb dX11_moment_25 (by decide) ?_
    refine lv_icmp_ne (tgt := 35) hx hb dX11_moment_26 (by decide) (fun c6 => ?_) (fun c6 => ?_)
    · rw [if_neg c6] at hs
      refine lv_iload hx hb dX11_moment_35 (lv_at hl 5 rfl) ?_
      refine lv_iconst (v := 1) hx hb dX11_moment_37 (by decide) ?_
      refine lv_icmp_ne (tgt := 60) hx hb dX11_moment_38 (by decide) (fun c9 => ?_) (fun c9 => ?_)
      · rw [if_neg c9] at hs
        refine lv_iload hx hb dX11_moment_60 (lv_at hl 5 rfl) ?_
        obtain ⟨q28, hsq28, hs⟩ := bd hs
        have KJ82 : ∀ (ls : Array Slot) (H : Heap) (locs : List Loc), lv_has ls 6 [] → Mo D cy A H0 q28.2 H locs → W p l e rm_X11_moment s m args below meth c H locs 0 0 (MQ below (QR D cy qF.2 A (some (.long qF.1))) args s 0 0 A) (F0 m 82 ls [.long q28.1]) := by
          intro ls H locs hl M
          obtain rfl := Option.some.inj hs
          exact re_l F M dX11_moment_82
        clear hs
        have hs := hsq28
        refine lv_if_ne (tgt := 77) hx hb dX11_moment_62 (by decide) (fun c22 => ?_) (fun c22 => ?_)
        · rw [if_neg c22] at hs
          refine lv_aload_n hx hb dX11_moment_77 rfl (lv_at hl 1 rfl) ?_
          refine lv_iconst (v := 2) hx hb dX11_moment_78 (by decide) ?_
          obtain ⟨v26, g_v26, hs⟩ := bd hs
          obtain ⟨a27, e_a27, k_a27, g_v26⟩ := cV_some g_v26
          obtain rfl := Option.some.inj e_a27
          refine ca_Vl (bq := th) (As := [.int 2]) (rest := []) F M (c_X11_refused g_v26) mf_X11_refused t_685 k_a27 rfl ⟨by decide, by decide⟩ ⟨rfl, rfl⟩ ⟨Nat.zero_le _, Nat.zero_le _⟩ hl.1 rfl (by decide) dX11_moment_79 (fun H locs M => ?_)
          obtain rfl := Option.some.inj hs
          exact KJ82 _ _ _ (lv_sub hl [] rfl) M
        · rw [if_pos c22] at hs
          refine lv_aload_n hx hb dX11_moment_65 rfl (lv_at hl 1 rfl) ?_
          refine lo_aload hx hb dX11_moment_66 (lv_at hl 0 rfl) ?_
          obtain ⟨v23, g_v23, hs⟩ := bd hs
          refine ro_gLN F M fg_2_1 tN_100 g_v23 dX11_moment_68 ?_
          obtain ⟨v24, g_v24, hs⟩ := bd hs
          obtain ⟨a25, e_a25, k_a25, g_v24⟩ := cV_some g_v24
          obtain rfl := Option.some.inj e_a25
          refine ca_Vl (bq := th) (As := [.long v23]) (rest := []) F M (c_X11_answered g_v24) mf_X11_answered t_665 k_a25 rfl ⟨by decide, by decide⟩ ⟨rfl, rfl⟩ ⟨Nat.zero_le _, Nat.zero_le _⟩ hl.1 rfl (by decide) dX11_moment_71 (fun H locs M => ?_)
          refine lv_goto (tgt := 82) hx hb dX11_moment_74 (by decide) ?_
          obtain rfl := Option.some.inj hs
          exact KJ82 _ _ _ (lv_sub hl [] rfl) M
      · rw [if_pos c9] at hs
        refine lo_aload hx hb dX11_moment_41 (lv_at hl 0 rfl) ?_
        obtain ⟨v10, g_v10, hs⟩ := bd hs
        refine ro_gIN F M fg_2_0 tN_93 g_v10 dX11_moment_43 ?_
        refine lv_iconst (v := 1) hx hb dX11_moment_46 (by decide) ?_
        refine lv_icmp_ne (tgt := 60) hx hb dX11_moment_47 (by decide) (fun c11 => ?_) (fun c11 => ?_)
        · rw [if_neg c11] at hs
          refine lv_iload hx hb dX11_moment_60 (lv_at hl 5 rfl) ?_
          obtain ⟨q21, hsq21, hs⟩ := bd hs
          have KJ82 : ∀ (ls : Array Slot) (H : Heap) (locs : List Loc), lv_has ls 6 [] → Mo D cy A H0 q21.2 H locs → W p l e rm_X11_moment s m args below meth c H locs 0 0 (MQ below (QR D cy qF.2 A (some (.long qF.1))) args s 0 0 A) (F0 m 82 ls [.long q21.1]) := by
            intro ls H locs hl M
            obtain rfl := Option.some.inj hs
            exact re_l F M dX11_moment_82
          clear hs
          have hs := hsq21
          refine lv_if_ne (tgt := 77) hx hb dX11_moment_62 (by decide) (fun c15 => ?_) (fun c15 => ?_)
          · rw [if_neg c15] at hs
            refine lv_aload_n hx hb dX11_moment_77 rfl (lv_at hl 1 rfl) ?_
            refine lv_iconst (v := 2) hx hb dX11_moment_78 (by decide) ?_
            obtain ⟨v19, g_v19, hs⟩ := bd hs
            obtain ⟨a20, e_a20, k_a20, g_v19⟩ := cV_some g_v19
            obtain rfl := Option.some.inj e_a20
            refine ca_Vl (bq := th) (As := [.int 2]) (rest := []) F M (c_X11_refused g_v19) mf_X11_refused t_685 k_a20 rfl ⟨by decide, by decide⟩ ⟨rfl, rfl⟩ ⟨Nat.zero_le _, Nat.zero_le _⟩ hl.1 rfl (by decide) dX11_moment_79 (fun H locs M => ?_)
            obtain rfl := Option.some.inj hs
            exact KJ82 _ _ _ (lv_sub hl [] rfl) M
          · rw [if_pos c15] at hs
            refine lv_aload_n hx hb dX11_moment_65 rfl (lv_at hl 1 rfl) ?_
            refine lo_aload hx hb dX11_moment_66 (lv_at hl 0 rfl) ?_
            obtain ⟨v16, g_v16, hs⟩ := bd hs
            refine ro_gLN F M fg_2_1 tN_100 g_v16 dX11_moment_68 ?_
            obtain ⟨v17, g_v17, hs⟩ := bd hs
            obtain ⟨a18, e_a18, k_a18, g_v17⟩ := cV_some g_v17
            obtain rfl := Option.some.inj e_a18
            refine ca_Vl (bq := th) (As := [.long v16]) (rest := []) F M (c_X11_answered g_v17) mf_X11_answered t_665 k_a18 rfl ⟨by decide, by decide⟩ ⟨rfl, rfl⟩ ⟨Nat.zero_le _, Nat.zero_le _⟩ hl.1 rfl (by decide) dX11_moment_71 (fun H locs M => ?_)
            refine lv_goto (tgt := 82) hx hb dX11_moment_74 (by decide) ?_
            obtain rfl := Option.some.inj hs
            exact KJ82 _ _ _ (lv_sub hl [] rfl) M
        · rw [if_pos c11] at hs
          refine lv_aload_n hx hb dX11_moment_50 rfl (lv_at hl 1 rfl) ?_
          refine lo_aload hx hb dX11_moment_51 (lv_at hl 0 rfl) ?_
          obtain ⟨v12, g_v12, hs⟩ := bd hs
          refine ro_gLN F M fg_2_2 tN_103 g_v12 dX11_moment_53 ?_
          obtain ⟨v13, g_v13, hs⟩ := bd hs
          obtain ⟨a14, e_a14, k_a14, g_v13⟩ := cV_some g_v13
          obtain rfl := Option.some.inj e_a14
          refine ca_Vl (bq := th) (As := [.long v12]) (rest := []) F M (c_X11_answered g_v13) mf_X11_answered t_665 k_a14 rfl ⟨by decide, by decide⟩ ⟨rfl, rfl⟩ ⟨Nat.zero_le _, Nat.zero_le _⟩ hl.1 rfl (by decide) dX11_moment_56 (fun H locs M => ?_)
          obtain rfl := Option.some.inj hs
          exact re_l F M dX11_moment_59
    · rw [if_pos c6] at hs
      refine lv_aload_n hx hb dX11_moment_29 rfl (lv_at hl 1 rfl) ?_
      refine lv_iconst (v := 3) hx hb dX11_moment_30 (by decide) ?_
      obtain ⟨v7, g_v7, hs⟩ := bd hs
      obtain ⟨a8, e_a8, k_a8, g_v7⟩ := cV_some g_v7
      obtain rfl := Option.some.inj e_a8
      refine ca_Vl (bq := th) (As := [.int 3]) (rest := []) F M (c_X11_refused g_v7) mf_X11_refused t_685 k_a8 rfl ⟨by decide, by decide⟩ ⟨rfl, rfl⟩ ⟨Nat.zero_le _, Nat.zero_le _⟩ hl.1 rfl (by decide) dX11_moment_31 (fun H locs M => ?_)
      obtain rfl := Option.some.inj hs
      exact re_l F M dX11_moment_34
  · rw [if_pos c2] at hs
    refine lv_aload_n hx hb dX11_moment_14 rfl (lv_at hl 1 rfl) ?_
    refine lv_lconst (v := 0) hx hb dX11_moment_15 (by decide) ?_
    obtain ⟨v3, g_v3, hs⟩ := bd hs
    obtain ⟨a4, e_a4, k_a4, g_v3⟩ := cV_some g_v3
    obtain rfl := Option.some.inj e_a4
    refine ca_Vl (bq := th) (As := [.long 0]) (rest := []) F M (c_X11_answered g_v3) mf_X11_answered t_665 k_a4 rfl ⟨by decide, by decide⟩ ⟨rfl, rfl⟩ ⟨Nat.zero_le _, Nat.zero_le _⟩ hl.1 rfl (by decide) dX11_moment_16 (fun H locs M => ?_)
    obtain rfl := Option.some.inj hs
    exact re_l F M dX11_moment_19
abbrev rm_X11_askedContact : Room := { frames := 4, cells := 0, slots := 0, locals := 92 }
theorem mf_X11_askedContact : MV 11 yX11_askedContact cX11_askedContact 5 (some (.object "ContactHouse$Entry")) 3 RX11 := ⟨t_696, t_695, tS_34, t_1, ⟨by decide +kernel, by decide +kernel, by decide +kernel⟩, rfl, by decide⟩
def s_X11_askedContact (h : IH) (th : Nat) (a0 : Int32) (a1 : Int32) (a2 : Int32) : Option (Option Nat × IH) := (cV h 11 (some th) fun a6 => s_X11_askedLine h a6 a0 a1 a2).bind fun v1 => if v1.1 = none then some (v1.1, v1.2) else (gI v1.2 2 0 v1.1).bind fun v3 => if v3 = 0 then some (v1.1, v1.2) else (pI v1.2 11 9 (some th) 3).bind fun h5 => some (none, h5)
set_option maxHeartbeats 4000000 in
set_option maxRecDepth 100000 in
theorem c_X11_askedContact {l : Launch} {D : va_G} {cy : Nat → ClassId} {sz : Nat} {h : IH} {th : Nat} {a0 : Int32} {a1 : Int32} {a2 : Int32} {qF : Option Nat × IH} (hs : s_X11_askedContact h th a0 a1 a2 = some qF) : Ct l D cy yX11_askedContact cX11_askedContact 5 (some (.object "ContactHouse$Entry")) rm_X11_askedContact h sz [.ref th, .int a0, .int a1, .int a2] qF.2 (some (va_rf qF.1)) := by
  refine ct_start (by decide +kernel) [(0, .ref th), (1, .int a0), (2, .int a1), (3, .int a2)] (Nat.le_of_ble_eq_true rfl) rfl ?_
  intro p e s m args below meth c A H0 ls F hin hsz M hl
  obtain ⟨hx, hb, hr, hml, hown, hlk, hts, hK, hN, hA, hH⟩ := id F
  generalize s.heap = H at M ⊢
  generalize ([] : List Loc) = locs at M ⊢
  unfold s_X11_askedContact at hs
  refine lv_aload_n hx hb dX11_askedContact_0 rfl (lv_at hl 0 rfl) ?_
  refine lv_iload_n hx hb dX11_askedContact_1 rfl (lv_at hl 1 rfl) ?_
  refine lv_iload_n hx hb dX11_askedContact_2 rfl (lv_at hl 2 rfl) ?_
  refine lv_iload_n hx hb dX11_askedContact_3 rfl (lv_at hl 3 rfl) ?_
  obtain ⟨v1, g_v1, hs⟩ := bd hs
  obtain ⟨a6, e_a6, k_a6, g_v1⟩ := cV_some g_v1
  obtain rfl := Option.some.inj e_a6
  refine ca_Va (bq := th) (As := [.int a0, .int a1, .int a2]) (rest := []) F M (c_X11_askedLine g_v1) mf_X11_askedLine t_673 k_a6 rfl ⟨by decide, by decide⟩ ⟨rfl, rfl⟩ ⟨Nat.zero_le _, Nat.zero_le _⟩ hl.1 rfl (by decide) dX11_askedContact_4 (fun H locs M => ?_)
  refine lo_astore (i := 4) (lv' := [(4, va_rf v1.1), (0, .ref th), (1, .int a0), (2, .int a1), (3, .int a2)]) hx hb dX11_askedContact_7 hl (by decide) rfl (fun ls hl => ?_)
  refine lo_aload hx hb dX11_askedContact_9 (lv_at hl 0 rfl) ?_
  refine lo_ifnull (tgt := 22) hx hb dX11_askedContact_11 (by decide) (fun c2 => ?_) (fun c2 => ?_)
  · rw [if_pos c2] at hs
    refine lo_aload hx hb dX11_askedContact_22 (lv_at hl 0 rfl) ?_
    obtain rfl := Option.some.inj hs
    exact re_a F M dX11_askedContact_24
  · rw [if_neg c2] at hs
    refine lo_aload hx hb dX11_askedContact_14 (lv_at hl 0 rfl) ?_
    obtain ⟨v3, g_v3, hs⟩ := bd hs
    refine ro_gIN F M fg_2_0 tN_93 g_v3 dX11_askedContact_16 ?_
    refine lv_if_ne (tgt := 25) hx hb dX11_askedContact_19 (by decide) (fun c4 => ?_) (fun c4 => ?_)
    · rw [if_neg c4] at hs
      refine lv_aload_n hx hb dX11_askedContact_25 rfl (lv_at hl 1 rfl) ?_
      refine lv_iconst (v := 3) hx hb dX11_askedContact_26 (by decide) ?_
      obtain ⟨h5, g_h5, hs⟩ := bd hs
      refine ro_pI F M fg_11_9 fp_11_9 rfl t_339 g_h5 dX11_askedContact_27 (fun H locs M => ?_)
      refine lv_null hx hb dX11_askedContact_30 ?_
      obtain rfl := Option.some.inj hs
      exact re_a F M dX11_askedContact_31
    · rw [if_pos c4] at hs
      refine lo_aload hx hb dX11_askedContact_22 (lv_at hl 0 rfl) ?_
      obtain rfl := Option.some.inj hs
      exact re_a F M dX11_askedContact_24
abbrev rm_X2_callLength : Room := { frames := 0, cells := 0, slots := 0, locals := 0 }
theorem mf_X2_callLength : MV 2 yX2_callLength cX2_callLength 2 (some .int) 0 RX2 := ⟨t_700, t_699, tS_35, t_5, ⟨by decide +kernel, by decide +kernel, by decide +kernel⟩, rfl, by decide⟩
def s_X2_callLength_L2 (N : Nat) : Nat → Nat → Int32 → IH → Option (Int32)
  | 0, _, _, _ => none
  | n + 1, th, x1, h => if 6 ≤ x1 then some x1 else (gL h 2 3 (some th)).bind fun v2 => if (lg_cmp ((v2.toUInt64 >>> ((8 * x1).toInt64.toUInt64 &&& Int64.toUInt64 63)).toInt64) 0) = 0 then some x1 else s_X2_callLength_L2 N n th (x1 + 1) h
def s_X2_callLength (N : Nat) (h : IH) (th : Nat) : Option (Int32) := (s_X2_callLength_L2 N N th 0 h).bind fun q4 => some q4
set_option maxHeartbeats 4000000 in
set_option maxRecDepth 100000 in
theorem w_X2_callLength_L2 {p : Program} {l : Launch} {e : Env} {s : State} {m : MethodId} {args : Array Value} {below : List Frame} {meth : Method} {c : Code} {D : va_G} {cy : Nat → ClassId} {A : Nat → Prop} {H0 : Heap} {N th : Nat} {h : IH} {qF : Int32} (F : Fx p s m args meth c D cy A H0 yX2_callLength cX2_callLength 2 (some .int)) : ∀ (n : Nat) (x1 : Int32) (ls : Array Slot) (H : Heap) (locs : List Loc) (q : Int32), s_X2_callLength_L2 N n th x1 h = some q → lv_has ls 2 [(0, .ref th), (1, .int x1)] → Mo D cy A H0 h H locs → (∀ (t : Int32) (ls : Array Slot) (H : Heap) (locs : List Loc), q = t → lv_has ls 2 [(1, .int t)] → Mo D cy A H0 h H locs → W p l e rm_X2_callLength s m args below meth c H locs 0 0 (MQ below (QR D cy h A (some (.int qF))) args s 0 0 A) (F0 m 28 ls [])) → (∀ v : Int32, False → v = qF) → W p l e rm_X2_callLength s m args below meth c H locs 0 0 (MQ below (QR D cy h A (some (.int qF))) args s 0 0 A) (F0 m 2 ls []) := by
  intro n
  induction n with
  | zero => intro x1 ls H locs q hs; rw [s_X2_callLength_L2.eq_1] at hs; cases hs
  | succ n ih =>
    intro x1 ls H locs q hs hl M kx kr
    obtain ⟨hx, hb, hr, hml, hown, hlk, hts, hK, hN, hA, hH⟩ := id F
    rw [s_X2_callLength_L2.eq_2] at hs
    refine lv_iload_n hx hb dX2_callLength_2 rfl (lv_at hl 1 rfl) ?_
    refine lv_bipush (v := 6) hx hb dX2_callLength_3 (by decide) ?_
    refine lv_icmp_ge (tgt := 28) hx hb dX2_callLength_5 (by decide) (fun c1 => ?_) (fun c1 => ?_)
    · rw [if_pos c1] at hs
      exact kx x1 _ _ _ (Option.some.inj hs).symm (lv_sub hl [1] rfl) M
    · rw [if_neg c1] at hs
      refine lv_aload_n hx hb dX2_callLength_8 rfl (lv_at hl 0 rfl) ?_
      obtain ⟨v2, g_v2, hs⟩ := bd hs
      refine ro_gL F M fg_2_3 t_104 g_v2 dX2_callLength_9 ?_
      refine lv_bipush (v := 8) hx hb dX2_callLength_12 (by decide) ?_
      refine lv_iload_n hx hb dX2_callLength_14 rfl (lv_at hl 1 rfl) ?_
      refine lv_imul hx hb dX2_callLength_15 ?_
      refine lv_lushr hx hb dX2_callLength_16 rfl ?_
      refine lv_lconst (v := 0) hx hb dX2_callLength_17 (by decide) ?_
      refine W.lcmp hx hb dX2_callLength_18 ?_
      refine lv_if_eq (tgt := 28) hx hb dX2_callLength_19 (by decide) (fun c3 => ?_) (fun c3 => ?_)
      · rw [if_pos c3] at hs
        exact kx x1 _ _ _ (Option.some.inj hs).symm (lv_sub hl [1] rfl) M
      · rw [if_neg c3] at hs
        refine lv_iinc (v := x1 + 1) (lv' := [(1, .int (x1 + 1)), (0, .ref th)]) hx hb dX2_callLength_22 hl (k := 1) rfl rfl (by decide) rfl (fun ls hl => ?_)
        refine lv_goto (tgt := 2) hx hb dX2_callLength_25 (by decide) ?_
        exact ih (x1 + 1) _ _ _ _ hs (lv_sub hl [1, 0] rfl) M kx kr
set_option maxHeartbeats 4000000 in
set_option maxRecDepth 100000 in
theorem c_X2_callLength {l : Launch} {D : va_G} {cy : Nat → ClassId} {sz N : Nat} {h : IH} {th : Nat} {qF : Int32} (hs : s_X2_callLength N h th = some qF) : Ct l D cy yX2_callLength cX2_callLength 2 (some .int) rm_X2_callLength h sz [.ref th] h (some (.int qF)) := by
  refine ct_start (by decide +kernel) [(0, .ref th)] (Nat.le_of_ble_eq_true rfl) rfl ?_
  intro p e s m args below meth c A H0 ls F hin hsz M hl
  obtain ⟨hx, hb, hr, hml, hown, hlk, hts, hK, hN, hA, hH⟩ := id F
  generalize s.heap = H at M ⊢
  generalize ([] : List Loc) = locs at M ⊢
  unfold s_X2_callLength at hs
  refine lv_iconst (v := 0) hx hb dX2_callLength_0 (by decide) ?_
  refine lv_istore_n (i := 1) (lv' := [(1, .int 0), (0, .ref th)]) hx hb dX2_callLength_1 rfl hl (by decide) rfl (fun ls hl => ?_)
  obtain ⟨q4, g_q4, hs⟩ := bd hs
  refine w_X2_callLength_L2 F N 0 _ _ _ q4 g_q4 (lv_sub hl [1, 0] rfl) M (fun t_ ls H locs eq_ hl M => ?_) (fun v eq_ => eq_.elim)
  subst eq_
  refine lv_iload_n hx hb dX2_callLength_28 rfl (lv_at hl 0 rfl) ?_
  obtain rfl := Option.some.inj hs
  exact re_i F M dX2_callLength_29
abbrev rm_X2_callCharacter : Room := { frames := 1, cells := 0, slots := 0, locals := 21 }
theorem mf_X2_callCharacter : MV 2 yX2_callCharacter cX2_callCharacter 2 (some .int) 1 RX2 := ⟨t_704, t_703, tS_36, t_5, ⟨by decide +kernel, by decide +kernel, by decide +kernel⟩, rfl, by decide⟩
def s_X2_callCharacter (N : Nat) (h : IH) (th : Nat) (a0 : Int32) : Option (Int32) := (gL h 2 3 (some th)).bind fun v1 => (cV h 2 (some th) fun a3 => s_X2_callLength N h a3 ).bind fun v2 => some ((((v1.toUInt64 >>> ((8 * ((v2 - 1) - a0)).toInt64.toUInt64 &&& Int64.toUInt64 63)).toInt64).toInt32) &&& 255)
set_option maxHeartbeats 4000000 in
set_option maxRecDepth 100000 in
theorem c_X2_callCharacter {l : Launch} {D : va_G} {cy : Nat → ClassId} {sz N : Nat} {h : IH} {th : Nat} {a0 : Int32} {qF : Int32} (hs : s_X2_callCharacter N h th a0 = some qF) : Ct l D cy yX2_callCharacter cX2_callCharacter 2 (some .int) rm_X2_callCharacter h sz [.ref th, .int a0] h (some (.int qF)) := by
  refine ct_start (by decide +kernel) [(0, .ref th), (1, .int a0)] (Nat.le_of_ble_eq_true rfl) rfl ?_
  intro p e s m args below meth c A H0 ls F hin hsz M hl
  obtain ⟨hx, hb, hr, hml, hown, hlk, hts, hK, hN, hA, hH⟩ := id F
  generalize s.heap = H at M ⊢
  generalize ([] : List Loc) = locs at M ⊢
  unfold s_X2_callCharacter at hs
  refine lv_aload_n hx hb dX2_callCharacter_0 rfl (lv_at hl 0 rfl) ?_
  obtain ⟨v1, g_v1, hs⟩ := bd hs
  refine ro_gL F M fg_2_3 t_104 g_v1 dX2_callCharacter_1 ?_
  refine lv_bipush (v := 8) hx hb dX2_callCharacter_4 (by decide) ?_
  refine lv_aload_n hx hb dX2_callCharacter_6 rfl (lv_at hl 0 rfl) ?_
  obtain ⟨v2, g_v2, hs⟩ := bd hs
  obtain ⟨a3, e_a3, k_a3, g_v2⟩ := cV_some g_v2
  obtain rfl := Option.some.inj e_a3
  refine ca_Vi (bq := th) (As := []) (rest := [.int 8, .long v1]) F M (c_X2_callLength g_v2) mf_X2_callLength t_705 k_a3 rfl ⟨by decide, by decide⟩ ⟨rfl, rfl⟩ ⟨Nat.zero_le _, Nat.zero_le _⟩ hl.1 rfl (by simp [cat_rf, cat_i, cat_j, cat_r]) dX2_callCharacter_7 (fun H locs M => ?_)
  refine lv_iconst (v := 1) hx hb dX2_callCharacter_10 (by decide) ?_
  refine lv_isub hx hb dX2_callCharacter_11 ?_
  refine lv_iload_n hx hb dX2_callCharacter_12 rfl (lv_at hl 1 rfl) ?_
  refine lv_isub hx hb dX2_callCharacter_13 ?_
  refine lv_imul hx hb dX2_callCharacter_14 ?_
  refine lv_lushr hx hb dX2_callCharacter_15 rfl ?_
  refine lv_l2i hx hb dX2_callCharacter_16 rfl ?_
  refine lv_sipush (v := 255) hx hb dX2_callCharacter_17 (by decide) ?_
  refine lv_iand hx hb dX2_callCharacter_20 ?_
  obtain rfl := Option.some.inj hs
  exact re_i F M dX2_callCharacter_21
abbrev rm_X11_character : Room := { frames := 5, cells := 0, slots := 0, locals := 116 }
theorem mf_X11_character : MV 11 yX11_character cX11_character 6 (some .int) 4 RX11 := ⟨t_692, t_690, t_691, t_1, ⟨by decide +kernel, by decide +kernel, by decide +kernel⟩, rfl, by decide⟩
def s_X11_character (N : Nat) (h : IH) (th : Nat) (a0 : Int32) (a1 : Int32) (a2 : Int32) (a3 : Int32) : Option (Int32 × IH) := (cV h 11 (some th) fun a15 => s_X11_askedContact h a15 a0 a1 a2).bind fun v1 => if v1.1 = none then (cV v1.2 11 (some th) fun a4 => s_X11_answered v1.2 a4 0).bind fun v3 => some (v3.1.toInt32, v3.2) else (cV v1.2 2 v1.1 fun a14 => s_X2_callLength N v1.2 a14 ).bind fun v5 => (s_X11_isBelow v1.2 a3 v5).bind fun v6 => if v6 = 0 then (cV v1.2 11 (some th) fun a9 => s_X11_refused v1.2 a9 2).bind fun v8 => some (v8.1.toInt32, v8.2) else (cV v1.2 2 v1.1 fun a13 => s_X2_callCharacter N v1.2 a13 a3).bind fun v10 => (cV v1.2 11 (some th) fun a12 => s_X11_answered v1.2 a12 v10.toInt64).bind fun v11 => some (v11.1.toInt32, v11.2)
set_option maxHeartbeats 4000000 in
set_option maxRecDepth 100000 in
theorem c_X11_character {l : Launch} {D : va_G} {cy : Nat → ClassId} {sz N : Nat} {h : IH} {th : Nat} {a0 : Int32} {a1 : Int32} {a2 : Int32} {a3 : Int32} {qF : Int32 × IH} (hs : s_X11_character N h th a0 a1 a2 a3 = some qF) : Ct l D cy yX11_character cX11_character 6 (some .int) rm_X11_character h sz [.ref th, .int a0, .int a1, .int a2, .int a3] qF.2 (some (.int qF.1)) := by
  refine ct_start (by decide +kernel) [(0, .ref th), (1, .int a0), (2, .int a1), (3, .int a2), (4, .int a3)] (Nat.le_of_ble_eq_true rfl) rfl ?_
  intro p e s m args below meth c A H0 ls F hin hsz M hl
  obtain ⟨hx, hb, hr, hml, hown, hlk, hts, hK, hN, hA, hH⟩ := id F
  generalize s.heap = H at M ⊢
  generalize ([] : List Loc) = locs at M ⊢
  unfold s_X11_character at hs
  refine lv_aload_n hx hb dX11_character_0 rfl (lv_at hl 0 rfl) ?_
  refine lv_iload_n hx hb dX11_character_1 rfl (lv_at hl 1 rfl) ?_
  refine lv_iload_n hx hb dX11_character_2 rfl (lv_at hl 2 rfl) ?_
  refine lv_iload_n hx hb dX11_character_3 rfl (lv_at hl 3 rfl) ?_
  obtain ⟨v1, g_v1, hs⟩ := bd hs
  obtain ⟨a15, e_a15, k_a15, g_v1⟩ := cV_some g_v1
  obtain rfl := Option.some.inj e_a15
  refine ca_Va (bq := th) (As := [.int a0, .int a1, .int a2]) (rest := []) F M (c_X11_askedContact g_v1) mf_X11_askedContact t_693 k_a15 rfl ⟨by decide, by decide⟩ ⟨rfl, rfl⟩ ⟨Nat.zero_le _, Nat.zero_le _⟩ hl.1 rfl (by decide) dX11_character_4 (fun H locs M => ?_)
  refine lo_astore (i := 5) (lv' := [(5, va_rf v1.1), (0, .ref th), (1, .int a0), (2, .int a1), (3, .int a2), (4, .int a3)]) hx hb dX11_character_7 hl (by decide) rfl (fun ls hl => ?_)
  refine lo_aload hx hb dX11_character_9 (lv_at hl 0 rfl) ?_
  refine lo_ifnonnull (tgt := 21) hx hb dX11_character_11 (by decide) (fun c2 => ?_) (fun c2 => ?_)
  · rw [if_neg c2] at hs
    refine lv_iload hx hb dX11_character_21 (lv_at hl 5 rfl) ?_
    refine lo_aload hx hb dX11_character_23 (lv_at hl 0 rfl) ?_
    obtain ⟨v5, g_v5, hs⟩ := bd hs
    obtain ⟨a14, e_a14, k_a14, g_v5⟩ := cV_some g_v5
    refine ca_VNi (bq := a14) (As := []) (rest := [.int a3]) F M (c_X2_callLength g_v5) mf_X2_callLength tN_697 k_a14 rfl ⟨by decide, by decide⟩ ⟨rfl, rfl⟩ ⟨Nat.zero_le _, Nat.zero_le _⟩ hl.1 (by rw [e_a14]; rfl) (by simp [cat_rf, cat_i, cat_j, cat_r]) dX11_character_25 (fun H locs M => ?_)
    obtain ⟨v6, g_v6, hs⟩ := bd hs
    refine ca_Si (As := [.int a3, .int v5]) (rest := []) F M (c_X11_isBelow g_v6) mf_X11_isBelow t_404 rfl ⟨by decide, by decide⟩ ⟨rfl, rfl⟩ ⟨Nat.zero_le _, Nat.zero_le _⟩ hl.1 rfl (by decide) dX11_character_28 (fun H locs M => ?_)
    refine lv_if_ne (tgt := 41) hx hb dX11_character_31 (by decide) (fun c7 => ?_) (fun c7 => ?_)
    · rw [if_neg c7] at hs
      refine lv_aload_n hx hb dX11_character_41 rfl (lv_at hl 1 rfl) ?_
      refine lo_aload hx hb dX11_character_42 (lv_at hl 0 rfl) ?_
      refine lv_iload hx hb dX11_character_44 (lv_at hl 5 rfl) ?_
      obtain ⟨v10, g_v10, hs⟩ := bd hs
      obtain ⟨a13, e_a13, k_a13, g_v10⟩ := cV_some g_v10
      refine ca_VNi (bq := a13) (As := [.int a3]) (rest := [.ref th]) F M (c_X2_callCharacter g_v10) mf_X2_callCharacter tN_701 k_a13 rfl ⟨by decide, by decide⟩ ⟨rfl, rfl⟩ ⟨Nat.zero_le _, Nat.zero_le _⟩ hl.1 (by rw [e_a13]; rfl) (by simp [cat_rf, cat_i, cat_j, cat_r]) dX11_character_46 (fun H locs M => ?_)
      refine lv_i2l hx hb dX11_character_49 rfl ?_
      obtain ⟨v11, g_v11, hs⟩ := bd hs
      obtain ⟨a12, e_a12, k_a12, g_v11⟩ := cV_some g_v11
      obtain rfl := Option.some.inj e_a12
      refine ca_Vl (bq := th) (As := [.long v10.toInt64]) (rest := []) F M (c_X11_answered g_v11) mf_X11_answered t_665 k_a12 rfl ⟨by decide, by decide⟩ ⟨rfl, rfl⟩ ⟨Nat.zero_le _, Nat.zero_le _⟩ hl.1 rfl (by decide) dX11_character_50 (fun H locs M => ?_)
      refine lv_l2i hx hb dX11_character_53 rfl ?_
      obtain rfl := Option.some.inj hs
      exact re_i F M dX11_character_54
    · rw [if_pos c7] at hs
      refine lv_aload_n hx hb dX11_character_34 rfl (lv_at hl 1 rfl) ?_
      refine lv_iconst (v := 2) hx hb dX11_character_35 (by decide) ?_
      obtain ⟨v8, g_v8, hs⟩ := bd hs
      obtain ⟨a9, e_a9, k_a9, g_v8⟩ := cV_some g_v8
      obtain rfl := Option.some.inj e_a9
      refine ca_Vl (bq := th) (As := [.int 2]) (rest := []) F M (c_X11_refused g_v8) mf_X11_refused t_685 k_a9 rfl ⟨by decide, by decide⟩ ⟨rfl, rfl⟩ ⟨Nat.zero_le _, Nat.zero_le _⟩ hl.1 rfl (by decide) dX11_character_36 (fun H locs M => ?_)
      refine lv_l2i hx hb dX11_character_39 rfl ?_
      obtain rfl := Option.some.inj hs
      exact re_i F M dX11_character_40
  · rw [if_pos c2] at hs
    refine lv_aload_n hx hb dX11_character_14 rfl (lv_at hl 1 rfl) ?_
    refine lv_lconst (v := 0) hx hb dX11_character_15 (by decide) ?_
    obtain ⟨v3, g_v3, hs⟩ := bd hs
    obtain ⟨a4, e_a4, k_a4, g_v3⟩ := cV_some g_v3
    obtain rfl := Option.some.inj e_a4
    refine ca_Vl (bq := th) (As := [.long 0]) (rest := []) F M (c_X11_answered g_v3) mf_X11_answered t_665 k_a4 rfl ⟨by decide, by decide⟩ ⟨rfl, rfl⟩ ⟨Nat.zero_le _, Nat.zero_le _⟩ hl.1 rfl (by decide) dX11_character_16 (fun H locs M => ?_)
    refine lv_l2i hx hb dX11_character_19 rfl ?_
    obtain rfl := Option.some.inj hs
    exact re_i F M dX11_character_20
abbrev rm_X11_number : Room := { frames := 5, cells := 0, slots := 0, locals := 116 }
theorem mf_X11_number : MV 11 yX11_number cX11_number 7 (some .int) 4 RX11 := ⟨t_709, t_707, t_708, t_1, ⟨by decide +kernel, by decide +kernel, by decide +kernel⟩, rfl, by decide⟩
def s_X11_number (h : IH) (th : Nat) (a0 : Int32) (a1 : Int32) (a2 : Int32) (a3 : Int32) : Option (Int32 × IH) := (cV h 11 (some th) fun a16 => s_X11_askedContact h a16 a0 a1 a2).bind fun v1 => if v1.1 = none then (cV v1.2 11 (some th) fun a4 => s_X11_answered v1.2 a4 0).bind fun v3 => some (v3.1.toInt32, v3.2) else ((if a3 = 0 then (gI v1.2 2 4 v1.1).bind fun v6 => some v6 else if a3 = 1 then (gI v1.2 2 5 v1.1).bind fun v8 => some v8 else some (-1)) : Option (Int32)).bind fun q9 => ((if q9 = (-1) then (cV v1.2 11 (some th) fun a12 => s_X11_refused v1.2 a12 2).bind fun v11 => some (v11.1, v11.2) else (cV v1.2 11 (some th) fun a14 => s_X11_answered v1.2 a14 q9.toInt64).bind fun v13 => some (v13.1, v13.2)) : Option (Int64 × IH)).bind fun q15 => some (q15.1.toInt32, q15.2)
set_option maxHeartbeats 4000000 in
set_option maxRecDepth 100000 in
theorem c_X11_number {l : Launch} {D : va_G} {cy : Nat → ClassId} {sz : Nat} {h : IH} {th : Nat} {a0 : Int32} {a1 : Int32} {a2 : Int32} {a3 : Int32} {qF : Int32 × IH} (hs : s_X11_number h th a0 a1 a2 a3 = some qF) : Ct l D cy yX11_number cX11_number 7 (some .int) rm_X11_number h sz [.ref th, .int a0, .int a1, .int a2, .int a3] qF.2 (some (.int qF.1)) := by
  refine ct_start (by decide +kernel) [(0, .ref th), (1, .int a0), (2, .int a1), (3, .int a2), (4, .int a3)] (Nat.le_of_ble_eq_true rfl) rfl ?_
  intro p e s m args below meth c A H0 ls F hin hsz M hl
  obtain ⟨hx, hb, hr, hml, hown, hlk, hts, hK, hN, hA, hH⟩ := id F
  generalize s.heap = H at M ⊢
  generalize ([] : List Loc) = locs at M ⊢
  unfold s_X11_number at hs
  refine lv_aload_n hx hb dX11_number_0 rfl (lv_at hl 0 rfl) ?_
  refine lv_iload_n hx hb dX11_number_1 rfl (lv_at hl 1 rfl) ?_
  refine lv_iload_n hx hb dX11_number_2 rfl (lv_at hl 2 rfl) ?_
  refine lv_iload_n hx hb dX11_number_3 rfl (lv_at hl 3 rfl) ?_
  obtain ⟨v1, g_v1, hs⟩ := bd hs
  obtain ⟨a16, e_a16, k_a16, g_v1⟩ := cV_some g_v1
  obtain rfl := Option.some.inj e_a16
  refine ca_Va (bq := th) (As := [.int a0, .int a1, .int a2]) (rest := []) F M (c_X11_askedContact g_v1) mf_X11_askedContact t_693 k_a16 rfl ⟨by decide, by decide⟩ ⟨rfl, rfl⟩ ⟨Nat.zero_le _, Nat.zero_le _⟩ hl.1 rfl (by decide) dX11_number_4 (fun H locs M => ?_)
  refine lo_astore (i := 5) (lv' := [(5, va_rf v1.1), (0, .ref th), (1, .int a0), (2, .int a1), (3, .int a2), (4, .int a3)]) hx hb dX11_number_7 hl (by decide) rfl (fun ls hl => ?_)
  refine lo_aload hx hb dX11_number_9 (lv_at hl 0 rfl) ?_
  refine lo_ifnonnull (tgt := 21) hx hb dX11_number_11 (by decide) (fun c2 => ?_) (fun c2 => ?_)
  · rw [if_neg c2] at hs
    refine lv_iload hx hb dX11_number_21 (lv_at hl 5 rfl) ?_
    obtain ⟨q9, hsq9, hs⟩ := bd hs
    have KJ49 : ∀ (ls : Array Slot) (H : Heap) (locs : List Loc), lv_has ls 7 [(0, .ref th)] → Mo D cy A H0 v1.2 H locs → W p l e rm_X11_number s m args below meth c H locs 0 0 (MQ below (QR D cy qF.2 A (some (.int qF.1))) args s 0 0 A) (F0 m 49 ls [.int q9]) := by
      intro ls H locs hl M
      refine lv_istore (i := 6) (lv' := [(6, .int q9), (0, .ref th)]) hx hb dX11_number_49 hl (by decide) rfl (fun ls hl => ?_)
      refine lv_iload hx hb dX11_number_51 (lv_at hl 0 rfl) ?_
      refine lv_iconst (v := (-1)) hx hb dX11_number_53 (by decide) ?_
      obtain ⟨q15, hsq15, hs⟩ := bd hs
      have KJ72 : ∀ (ls : Array Slot) (H : Heap) (locs : List Loc), lv_has ls 7 [] → Mo D cy A H0 q15.2 H locs → W p l e rm_X11_number s m args below meth c H locs 0 0 (MQ below (QR D cy qF.2 A (some (.int qF.1))) args s 0 0 A) (F0 m 72 ls [.long q15.1]) := by
        intro ls H locs hl M
        refine lv_l2i hx hb dX11_number_72 rfl ?_
        obtain rfl := Option.some.inj hs
        exact re_i F M dX11_number_73
      clear hs
      have hs := hsq15
      refine lv_icmp_ne (tgt := 65) hx hb dX11_number_54 (by decide) (fun c10 => ?_) (fun c10 => ?_)
      · rw [if_neg c10] at hs
        refine lv_aload_n hx hb dX11_number_65 rfl (lv_at hl 1 rfl) ?_
        refine lv_iload hx hb dX11_number_66 (lv_at hl 0 rfl) ?_
        refine lv_i2l hx hb dX11_number_68 rfl ?_
        obtain ⟨v13, g_v13, hs⟩ := bd hs
        obtain ⟨a14, e_a14, k_a14, g_v13⟩ := cV_some g_v13
        obtain rfl := Option.some.inj e_a14
        refine ca_Vl (bq := th) (As := [.long q9.toInt64]) (rest := []) F M (c_X11_answered g_v13) mf_X11_answered t_665 k_a14 rfl ⟨by decide, by decide⟩ ⟨rfl, rfl⟩ ⟨Nat.zero_le _, Nat.zero_le _⟩ hl.1 rfl (by decide) dX11_number_69 (fun H locs M => ?_)
        obtain rfl := Option.some.inj hs
        exact KJ72 _ _ _ (lv_sub hl [] rfl) M
      · rw [if_pos c10] at hs
        refine lv_aload_n hx hb dX11_number_57 rfl (lv_at hl 1 rfl) ?_
        refine lv_iconst (v := 2) hx hb dX11_number_58 (by decide) ?_
        obtain ⟨v11, g_v11, hs⟩ := bd hs
        obtain ⟨a12, e_a12, k_a12, g_v11⟩ := cV_some g_v11
        obtain rfl := Option.some.inj e_a12
        refine ca_Vl (bq := th) (As := [.int 2]) (rest := []) F M (c_X11_refused g_v11) mf_X11_refused t_685 k_a12 rfl ⟨by decide, by decide⟩ ⟨rfl, rfl⟩ ⟨Nat.zero_le _, Nat.zero_le _⟩ hl.1 rfl (by decide) dX11_number_59 (fun H locs M => ?_)
        refine lv_goto (tgt := 72) hx hb dX11_number_62 (by decide) ?_
        obtain rfl := Option.some.inj hs
        exact KJ72 _ _ _ (lv_sub hl [] rfl) M
    clear hs
    have hs := hsq9
    refine lv_if_ne (tgt := 34) hx hb dX11_number_23 (by decide) (fun c5 => ?_) (fun c5 => ?_)
    · rw [if_neg c5] at hs
      refine lv_iload hx hb dX11_number_34 (lv_at hl 5 rfl) ?_
      refine lv_iconst (v := 1) hx hb dX11_number_36 (by decide) ?_
      refine lv_icmp_ne (tgt := 48) hx hb dX11_number_37 (by decide) (fun c7 => ?_) (fun c7 => ?_)
      · rw [if_neg c7] at hs
        refine lv_iconst (v := (-1)) hx hb dX11_number_48 (by decide) ?_
        obtain rfl := Option.some.inj hs
        exact KJ49 _ _ _ (lv_sub hl [1] rfl) M
      · rw [if_pos c7] at hs
        refine lo_aload hx hb dX11_number_40 (lv_at hl 0 rfl) ?_
        obtain ⟨v8, g_v8, hs⟩ := bd hs
        refine ro_gIN F M fg_2_5 tN_116 g_v8 dX11_number_42 ?_
        refine lv_goto (tgt := 49) hx hb dX11_number_45 (by decide) ?_
        obtain rfl := Option.some.inj hs
        exact KJ49 _ _ _ (lv_sub hl [1] rfl) M
    · rw [if_pos c5] at hs
      refine lo_aload hx hb dX11_number_26 (lv_at hl 0 rfl) ?_
      obtain ⟨v6, g_v6, hs⟩ := bd hs
      refine ro_gIN F M fg_2_4 tN_112 g_v6 dX11_number_28 ?_
      refine lv_goto (tgt := 49) hx hb dX11_number_31 (by decide) ?_
      obtain rfl := Option.some.inj hs
      exact KJ49 _ _ _ (lv_sub hl [1] rfl) M
  · rw [if_pos c2] at hs
    refine lv_aload_n hx hb dX11_number_14 rfl (lv_at hl 1 rfl) ?_
    refine lv_lconst (v := 0) hx hb dX11_number_15 (by decide) ?_
    obtain ⟨v3, g_v3, hs⟩ := bd hs
    obtain ⟨a4, e_a4, k_a4, g_v3⟩ := cV_some g_v3
    obtain rfl := Option.some.inj e_a4
    refine ca_Vl (bq := th) (As := [.long 0]) (rest := []) F M (c_X11_answered g_v3) mf_X11_answered t_665 k_a4 rfl ⟨by decide, by decide⟩ ⟨rfl, rfl⟩ ⟨Nat.zero_le _, Nat.zero_le _⟩ hl.1 rfl (by decide) dX11_number_16 (fun H locs M => ?_)
    refine lv_l2i hx hb dX11_number_19 rfl ?_
    obtain rfl := Option.some.inj hs
    exact re_i F M dX11_number_20
abbrev rm_X4_contactAt : Room := { frames := 0, cells := 0, slots := 0, locals := 0 }
theorem mf_X4_contactAt : MV 4 yX4_contactAt cX4_contactAt 2 (some (.object "ContactHouse$Entry")) 1 RX4 := ⟨t_727, t_726, tS_39, t_6, ⟨by decide +kernel, by decide +kernel, by decide +kernel⟩, rfl, by decide⟩
def s_X4_contactAt (h : IH) (th : Nat) (a0 : Int32) : Option (Option Nat) := ((if a0 < 0 then some none else (gI h 4 1 (some th)).bind fun v2 => if v2 ≤ a0 then some none else (gR h 4 0 (some th)).bind fun v4 => (aR h 3 v4 a0).bind fun v5 => (gI h 2 0 v5).bind fun v6 => if v6 = 0 then (gR h 4 0 (some th)).bind fun v8 => (aR h 3 v8 a0).bind fun v9 => some v9 else some none) : Option (Option Nat)).bind fun q10 => some q10
set_option maxHeartbeats 4000000 in
set_option maxRecDepth 100000 in
theorem c_X4_contactAt {l : Launch} {D : va_G} {cy : Nat → ClassId} {sz : Nat} {h : IH} {th : Nat} {a0 : Int32} {qF : Option Nat} (hs : s_X4_contactAt h th a0 = some qF) : Ct l D cy yX4_contactAt cX4_contactAt 2 (some (.object "ContactHouse$Entry")) rm_X4_contactAt h sz [.ref th, .int a0] h (some (va_rf qF)) := by
  refine ct_start (by decide +kernel) [(0, .ref th), (1, .int a0)] (Nat.le_of_ble_eq_true rfl) rfl ?_
  intro p e s m args below meth c A H0 ls F hin hsz M hl
  obtain ⟨hx, hb, hr, hml, hown, hlk, hts, hK, hN, hA, hH⟩ := id F
  generalize s.heap = H at M ⊢
  generalize ([] : List Loc) = locs at M ⊢
  unfold s_X4_contactAt at hs
  refine lv_iload_n hx hb dX4_contactAt_0 rfl (lv_at hl 1 rfl) ?_
  obtain ⟨q10, hsq10, hs⟩ := bd hs
  have KJ34 : ∀ (ls : Array Slot) (H : Heap) (locs : List Loc), lv_has ls 2 [] → Mo D cy A H0 h H locs → W p l e rm_X4_contactAt s m args below meth c H locs 0 0 (MQ below (QR D cy h A (some (va_rf qF))) args s 0 0 A) (F0 m 34 ls [va_rf q10]) := by
    intro ls H locs hl M
    obtain rfl := Option.some.inj hs
    exact re_a F M dX4_contactAt_34
  clear hs
  have hs := hsq10
  refine lv_if_lt (tgt := 33) hx hb dX4_contactAt_1 (by decide) (fun c1 => ?_) (fun c1 => ?_)
  · rw [if_pos c1] at hs
    refine lv_null hx hb dX4_contactAt_33 ?_
    obtain rfl := Option.some.inj hs
    exact KJ34 _ _ _ (lv_sub hl [] rfl) M
  · rw [if_neg c1] at hs
    refine lv_iload_n hx hb dX4_contactAt_4 rfl (lv_at hl 1 rfl) ?_
    refine lv_aload_n hx hb dX4_contactAt_5 rfl (lv_at hl 0 rfl) ?_
    obtain ⟨v2, g_v2, hs⟩ := bd hs
    refine ro_gI F M fg_4_1 t_166 g_v2 dX4_contactAt_6 ?_
    refine lv_icmp_ge (tgt := 33) hx hb dX4_contactAt_9 (by decide) (fun c3 => ?_) (fun c3 => ?_)
    · rw [if_pos c3] at hs
      refine lv_null hx hb dX4_contactAt_33 ?_
      obtain rfl := Option.some.inj hs
      exact KJ34 _ _ _ (lv_sub hl [] rfl) M
    · rw [if_neg c3] at hs
      refine lv_aload_n hx hb dX4_contactAt_12 rfl (lv_at hl 0 rfl) ?_
      obtain ⟨v4, g_v4, hs⟩ := bd hs
      refine ro_gR F M fg_4_0 t_165 g_v4 dX4_contactAt_13 ?_
      refine lv_iload_n hx hb dX4_contactAt_16 rfl (lv_at hl 1 rfl) ?_
      obtain ⟨v5, g_v5, hs⟩ := bd hs
      refine ro_aR (k := 3) (by decide) rfl F M g_v5 dX4_contactAt_17 ?_
      obtain ⟨v6, g_v6, hs⟩ := bd hs
      refine ro_gIN F M fg_2_0 tN_91 g_v6 dX4_contactAt_18 ?_
      refine lv_if_ne (tgt := 33) hx hb dX4_contactAt_21 (by decide) (fun c7 => ?_) (fun c7 => ?_)
      · rw [if_neg c7] at hs
        refine lv_null hx hb dX4_contactAt_33 ?_
        obtain rfl := Option.some.inj hs
        exact KJ34 _ _ _ (lv_sub hl [] rfl) M
      · rw [if_pos c7] at hs
        refine lv_aload_n hx hb dX4_contactAt_24 rfl (lv_at hl 0 rfl) ?_
        obtain ⟨v8, g_v8, hs⟩ := bd hs
        refine ro_gR F M fg_4_0 t_165 g_v8 dX4_contactAt_25 ?_
        refine lv_iload_n hx hb dX4_contactAt_28 rfl (lv_at hl 1 rfl) ?_
        obtain ⟨v9, g_v9, hs⟩ := bd hs
        refine ro_aR (k := 3) (by decide) rfl F M g_v9 dX4_contactAt_29 ?_
        refine lv_goto (tgt := 34) hx hb dX4_contactAt_30 (by decide) ?_
        obtain rfl := Option.some.inj hs
        exact KJ34 _ _ _ (lv_sub hl [] rfl) M
abbrev rm_X0_clearContacts : Room := { frames := 1, cells := 0, slots := 0, locals := 23 }
theorem mf_X0_clearContacts : MV 0 yX0_clearContacts cX0_clearContacts 7 none 1 RX0 := ⟨t_721, t_720, tS_38, t_8, ⟨by decide +kernel, by decide +kernel, by decide +kernel⟩, rfl, by decide⟩
def s_X0_clearContacts_L30 (N : Nat) : Nat → Nat → Option Nat → Int32 → Option Nat → Int32 → IH → Option (IH)
  | 0, _, _, _, _, _, _ => none
  | n + 1, th, x2, x3, x4, x5, h => if x4 = none then some h else (gI h 4 1 x4).bind fun v7 => if v7 ≤ x5 then some h else (cV h 4 x4 fun a18 => s_X4_contactAt h a18 x5).bind fun v9 => ((if v9 = none then some h else (gR h 0 0 (some th)).bind fun v11 => (gL h 2 3 v9).bind fun v12 => (cV h 7 v11 fun a16 => s_X7_numberOf N h a16 v12).bind fun v13 => (pI h 2 6 v9 v13).bind fun h14 => (pI h14 2 7 v9 (-1)).bind fun h15 => some h15) : Option (IH)).bind fun q17 => s_X0_clearContacts_L30 N n th x2 x3 x4 (x5 + 1) q17
def s_X0_clearContacts_L11 (N : Nat) : Nat → Nat → Option Nat → Int32 → IH → Option (IH)
  | 0, _, _, _, _ => none
  | n + 1, th, x2, x3, h => if 3 ≤ x3 then some h else if x2 = none then some h else (cV h 9 x2 fun a20 => s_X9_logOf h a20 x3).bind fun v5 => (s_X0_clearContacts_L30 N N th x2 x3 v5 0 h).bind fun q19 => s_X0_clearContacts_L11 N n th x2 (x3 + 1) q19
def s_X0_clearContacts (N : Nat) (h : IH) (th : Nat) (a0 : Int32) : Option (IH) := (gR h 0 0 (some th)).bind fun v1 => (cV h 7 v1 fun a22 => s_X7_at h a22 a0).bind fun v2 => (s_X0_clearContacts_L11 N N th v2 0 h).bind fun q21 => some q21
set_option maxHeartbeats 4000000 in
set_option maxRecDepth 100000 in
theorem w_X0_clearContacts_L30 {p : Program} {l : Launch} {e : Env} {s : State} {m : MethodId} {args : Array Value} {below : List Frame} {meth : Method} {c : Code} {D : va_G} {cy : Nat → ClassId} {A : Nat → Prop} {H0 : Heap} {N th : Nat} {x2 : Option Nat} {x3 : Int32} {x4 : Option Nat} {qF : IH} (F : Fx p s m args meth c D cy A H0 yX0_clearContacts cX0_clearContacts 7 none) : ∀ (n : Nat) (x5 : Int32) (h : IH) (ls : Array Slot) (H : Heap) (locs : List Loc) (q : IH), s_X0_clearContacts_L30 N n th x2 x3 x4 x5 h = some q → lv_has ls 7 [(0, .ref th), (2, va_rf x2), (3, .int x3), (4, va_rf x4), (5, .int x5)] → Mo D cy A H0 h H locs → (∀ (t : IH) (ls : Array Slot) (H : Heap) (locs : List Loc), q = t → lv_has ls 7 [(0, .ref th), (2, va_rf x2), (3, .int x3)] → Mo D cy A H0 t H locs → W p l e rm_X0_clearContacts s m args below meth c H locs 0 0 (MQ below (QR D cy qF A none) args s 0 0 A) (F0 m 88 ls [])) → (∀ v : IH, False → v = qF) → W p l e rm_X0_clearContacts s m args below meth c H locs 0 0 (MQ below (QR D cy qF A none) args s 0 0 A) (F0 m 30 ls []) := by
  intro n
  induction n with
  | zero => intro x5 h ls H locs q hs; rw [s_X0_clearContacts_L30.eq_1] at hs; cases hs
  | succ n ih =>
    intro x5 h ls H locs q hs hl M kx kr
    obtain ⟨hx, hb, hr, hml, hown, hlk, hts, hK, hN, hA, hH⟩ := id F
    rw [s_X0_clearContacts_L30.eq_2] at hs
    refine lo_aload hx hb dX0_clearContacts_30 (lv_at hl 3 rfl) ?_
    refine lo_ifnull (tgt := 88) hx hb dX0_clearContacts_32 (by decide) (fun c6 => ?_) (fun c6 => ?_)
    · rw [if_pos c6] at hs
      exact kx h _ _ _ (Option.some.inj hs).symm (lv_sub hl [0, 1, 2] rfl) M
    · rw [if_neg c6] at hs
      refine lv_iload hx hb dX0_clearContacts_35 (lv_at hl 4 rfl) ?_
      refine lo_aload hx hb dX0_clearContacts_37 (lv_at hl 3 rfl) ?_
      obtain ⟨v7, g_v7, hs⟩ := bd hs
      refine ro_gIN F M fg_4_1 tN_169 g_v7 dX0_clearContacts_39 ?_
      refine lv_icmp_ge (tgt := 88) hx hb dX0_clearContacts_42 (by decide) (fun c8 => ?_) (fun c8 => ?_)
      · rw [if_pos c8] at hs
        exact kx h _ _ _ (Option.some.inj hs).symm (lv_sub hl [0, 1, 2] rfl) M
      · rw [if_neg c8] at hs
        refine lo_aload hx hb dX0_clearContacts_45 (lv_at hl 3 rfl) ?_
        refine lv_iload hx hb dX0_clearContacts_47 (lv_at hl 4 rfl) ?_
        obtain ⟨v9, g_v9, hs⟩ := bd hs
        obtain ⟨a18, e_a18, k_a18, g_v9⟩ := cV_some g_v9
        refine ca_VNa (bq := a18) (As := [.int x5]) (rest := []) F M (c_X4_contactAt g_v9) mf_X4_contactAt tN_724 k_a18 rfl ⟨by decide, by decide⟩ ⟨rfl, rfl⟩ ⟨Nat.zero_le _, Nat.zero_le _⟩ hl.1 (by rw [e_a18]; rfl) (by decide) dX0_clearContacts_49 (fun H locs M => ?_)
        refine lo_astore (i := 6) (lv' := [(6, va_rf v9), (0, .ref th), (2, va_rf x2), (3, .int x3), (4, va_rf x4), (5, .int x5)]) hx hb dX0_clearContacts_52 hl (by decide) rfl (fun ls hl => ?_)
        refine lo_aload hx hb dX0_clearContacts_54 (lv_at hl 0 rfl) ?_
        obtain ⟨q17, hsq17, hs⟩ := bd hs
        have KJ82 : ∀ (ls : Array Slot) (H : Heap) (locs : List Loc), lv_has ls 7 [(0, .ref th), (2, va_rf x2), (3, .int x3), (4, va_rf x4), (5, .int x5)] → Mo D cy A H0 q17 H locs → W p l e rm_X0_clearContacts s m args below meth c H locs 0 0 (MQ below (QR D cy qF A none) args s 0 0 A) (F0 m 82 ls []) := by
          intro ls H locs hl M
          refine lv_iinc (v := x5 + 1) (lv' := [(5, .int (x5 + 1)), (0, .ref th), (2, va_rf x2), (3, .int x3), (4, va_rf x4)]) hx hb dX0_clearContacts_82 hl (k := 4) rfl rfl (by decide) (by simp [cat_rf, cat_i, cat_j, cat_r]) (fun ls hl => ?_)
          refine lv_goto (tgt := 30) hx hb dX0_clearContacts_85 (by decide) ?_
          exact ih (x5 + 1) q17 _ _ _ _ hs (lv_sub hl [1, 2, 3, 4, 0] rfl) M kx kr
        clear hs
        have hs := hsq17
        refine lo_ifnull (tgt := 82) hx hb dX0_clearContacts_56 (by decide) (fun c10 => ?_) (fun c10 => ?_)
        · rw [if_pos c10] at hs
          obtain rfl := Option.some.inj hs
          exact KJ82 _ _ _ (lv_sub hl [1, 2, 3, 4, 5] rfl) M
        · rw [if_neg c10] at hs
          refine lo_aload hx hb dX0_clearContacts_59 (lv_at hl 0 rfl) ?_
          refine lv_aload_n hx hb dX0_clearContacts_61 rfl (lv_at hl 1 rfl) ?_
          obtain ⟨v11, g_v11, hs⟩ := bd hs
          refine ro_gR F M fg_0_0 t_295 g_v11 dX0_clearContacts_62 ?_
          refine lo_aload hx hb dX0_clearContacts_65 (lv_at hl 0 rfl) ?_
          obtain ⟨v12, g_v12, hs⟩ := bd hs
          refine ro_gLN F M fg_2_3 tN_105 g_v12 dX0_clearContacts_67 ?_
          obtain ⟨v13, g_v13, hs⟩ := bd hs
          obtain ⟨a16, e_a16, k_a16, g_v13⟩ := cV_some g_v13
          refine ca_VNi (bq := a16) (As := [.long v12]) (rest := [va_rf v9]) F M (c_X7_numberOf g_v13) mf_X7_numberOf tN_728 k_a16 rfl ⟨by decide, by decide⟩ ⟨rfl, rfl⟩ ⟨Nat.zero_le _, Nat.zero_le _⟩ hl.1 (by rw [e_a16]; rfl) (by simp [cat_rf, cat_i, cat_j, cat_r]) dX0_clearContacts_70 (fun H locs M => ?_)
          obtain ⟨h14, g_h14, hs⟩ := bd hs
          refine ro_pIN F M fg_2_6 fp_2_6 rfl tN_118 g_h14 dX0_clearContacts_73 (fun H locs M => ?_)
          refine lo_aload hx hb dX0_clearContacts_76 (lv_at hl 0 rfl) ?_
          refine lv_iconst (v := (-1)) hx hb dX0_clearContacts_78 (by decide) ?_
          obtain ⟨h15, g_h15, hs⟩ := bd hs
          refine ro_pIN F M fg_2_7 fp_2_7 rfl tN_123 g_h15 dX0_clearContacts_79 (fun H locs M => ?_)
          obtain rfl := Option.some.inj hs
          exact KJ82 _ _ _ (lv_sub hl [1, 2, 3, 4, 5] rfl) M
set_option maxHeartbeats 4000000 in
set_option maxRecDepth 100000 in
theorem w_X0_clearContacts_L11 {p : Program} {l : Launch} {e : Env} {s : State} {m : MethodId} {args : Array Value} {below : List Frame} {meth : Method} {c : Code} {D : va_G} {cy : Nat → ClassId} {A : Nat → Prop} {H0 : Heap} {N th : Nat} {x2 : Option Nat} {qF : IH} (F : Fx p s m args meth c D cy A H0 yX0_clearContacts cX0_clearContacts 7 none) : ∀ (n : Nat) (x3 : Int32) (h : IH) (ls : Array Slot) (H : Heap) (locs : List Loc) (q : IH), s_X0_clearContacts_L11 N n th x2 x3 h = some q → lv_has ls 7 [(0, .ref th), (2, va_rf x2), (3, .int x3)] → Mo D cy A H0 h H locs → (∀ (t : IH) (ls : Array Slot) (H : Heap) (locs : List Loc), q = t → lv_has ls 7 [] → Mo D cy A H0 t H locs → W p l e rm_X0_clearContacts s m args below meth c H locs 0 0 (MQ below (QR D cy qF A none) args s 0 0 A) (F0 m 94 ls [])) → (∀ v : IH, False → v = qF) → W p l e rm_X0_clearContacts s m args below meth c H locs 0 0 (MQ below (QR D cy qF A none) args s 0 0 A) (F0 m 11 ls []) := by
  intro n
  induction n with
  | zero => intro x3 h ls H locs q hs; rw [s_X0_clearContacts_L11.eq_1] at hs; cases hs
  | succ n ih =>
    intro x3 h ls H locs q hs hl M kx kr
    obtain ⟨hx, hb, hr, hml, hown, hlk, hts, hK, hN, hA, hH⟩ := id F
    rw [s_X0_clearContacts_L11.eq_2] at hs
    refine lv_iload_n hx hb dX0_clearContacts_11 rfl (lv_at hl 2 rfl) ?_
    refine lv_iconst (v := 3) hx hb dX0_clearContacts_12 (by decide) ?_
    refine lv_icmp_ge (tgt := 94) hx hb dX0_clearContacts_13 (by decide) (fun c3 => ?_) (fun c3 => ?_)
    · rw [if_pos c3] at hs
      exact kx h _ _ _ (Option.some.inj hs).symm (lv_sub hl [] rfl) M
    · rw [if_neg c3] at hs
      refine lo_aload_n hx hb dX0_clearContacts_16 rfl (lv_at hl 1 rfl) ?_
      refine lo_ifnull (tgt := 94) hx hb dX0_clearContacts_17 (by decide) (fun c4 => ?_) (fun c4 => ?_)
      · rw [if_pos c4] at hs
        exact kx h _ _ _ (Option.some.inj hs).symm (lv_sub hl [] rfl) M
      · rw [if_neg c4] at hs
        refine lo_aload_n hx hb dX0_clearContacts_20 rfl (lv_at hl 1 rfl) ?_
        refine lv_iload_n hx hb dX0_clearContacts_21 rfl (lv_at hl 2 rfl) ?_
        obtain ⟨v5, g_v5, hs⟩ := bd hs
        obtain ⟨a20, e_a20, k_a20, g_v5⟩ := cV_some g_v5
        refine ca_VNa (bq := a20) (As := [.int x3]) (rest := []) F M (c_X9_logOf g_v5) mf_X9_logOf tN_723 k_a20 rfl ⟨by decide, by decide⟩ ⟨rfl, rfl⟩ ⟨Nat.zero_le _, Nat.zero_le _⟩ hl.1 (by rw [e_a20]; rfl) (by decide) dX0_clearContacts_22 (fun H locs M => ?_)
        refine lo_astore (i := 4) (lv' := [(4, va_rf v5), (0, .ref th), (2, va_rf x2), (3, .int x3)]) hx hb dX0_clearContacts_25 hl (by decide) rfl (fun ls hl => ?_)
        refine lv_iconst (v := 0) hx hb dX0_clearContacts_27 (by decide) ?_
        refine lv_istore (i := 5) (lv' := [(5, .int 0), (4, va_rf v5), (0, .ref th), (2, va_rf x2), (3, .int x3)]) hx hb dX0_clearContacts_28 hl (by decide) (by simp [cat_rf, cat_i, cat_j, cat_r]) (fun ls hl => ?_)
        obtain ⟨q19, g_q19, hs⟩ := bd hs
        refine w_X0_clearContacts_L30 F N 0 h _ _ _ q19 g_q19 (lv_sub hl [2, 3, 4, 1, 0] rfl) M (fun t_ ls H locs eq_ hl M => ?_) (fun v eq_ => eq_.elim)
        subst eq_
        refine lv_iinc (v := x3 + 1) (lv' := [(3, .int (x3 + 1)), (0, .ref th), (2, va_rf x2)]) hx hb dX0_clearContacts_88 hl (k := 2) rfl rfl (by decide) (by simp [cat_rf, cat_i, cat_j, cat_r]) (fun ls hl => ?_)
        refine lv_goto (tgt := 11) hx hb dX0_clearContacts_91 (by decide) ?_
        exact ih (x3 + 1) q19 _ _ _ _ hs (lv_sub hl [1, 2, 0] rfl) M kx kr
set_option maxHeartbeats 4000000 in
set_option maxRecDepth 100000 in
theorem c_X0_clearContacts {l : Launch} {D : va_G} {cy : Nat → ClassId} {sz N : Nat} {h : IH} {th : Nat} {a0 : Int32} {qF : IH} (hs : s_X0_clearContacts N h th a0 = some qF) : Ct l D cy yX0_clearContacts cX0_clearContacts 7 none rm_X0_clearContacts h sz [.ref th, .int a0] qF none := by
  refine ct_start (by decide +kernel) [(0, .ref th), (1, .int a0)] (Nat.le_of_ble_eq_true rfl) rfl ?_
  intro p e s m args below meth c A H0 ls F hin hsz M hl
  obtain ⟨hx, hb, hr, hml, hown, hlk, hts, hK, hN, hA, hH⟩ := id F
  generalize s.heap = H at M ⊢
  generalize ([] : List Loc) = locs at M ⊢
  unfold s_X0_clearContacts at hs
  refine lv_aload_n hx hb dX0_clearContacts_0 rfl (lv_at hl 0 rfl) ?_
  obtain ⟨v1, g_v1, hs⟩ := bd hs
  refine ro_gR F M fg_0_0 t_295 g_v1 dX0_clearContacts_1 ?_
  refine lv_iload_n hx hb dX0_clearContacts_4 rfl (lv_at hl 1 rfl) ?_
  obtain ⟨v2, g_v2, hs⟩ := bd hs
  obtain ⟨a22, e_a22, k_a22, g_v2⟩ := cV_some g_v2
  refine ca_VNa (bq := a22) (As := [.int a0]) (rest := []) F M (c_X7_at g_v2) mf_X7_at tN_722 k_a22 rfl ⟨by decide, by decide⟩ ⟨rfl, rfl⟩ ⟨Nat.zero_le _, Nat.zero_le _⟩ hl.1 (by rw [e_a22]; rfl) (by decide) dX0_clearContacts_5 (fun H locs M => ?_)
  refine lo_astore_n (i := 2) (lv' := [(2, va_rf v2), (0, .ref th), (1, .int a0)]) hx hb dX0_clearContacts_8 rfl hl (by decide) rfl (fun ls hl => ?_)
  refine lv_iconst (v := 0) hx hb dX0_clearContacts_9 (by decide) ?_
  refine lv_istore_n (i := 3) (lv' := [(3, .int 0), (2, va_rf v2), (0, .ref th), (1, .int a0)]) hx hb dX0_clearContacts_10 rfl hl (by decide) (by simp [cat_rf, cat_i, cat_j, cat_r]) (fun ls hl => ?_)
  obtain ⟨q21, g_q21, hs⟩ := bd hs
  refine w_X0_clearContacts_L11 F N 0 h _ _ _ q21 g_q21 (lv_sub hl [2, 1, 0] rfl) M (fun t_ ls H locs eq_ hl M => ?_) (fun v eq_ => eq_.elim)
  subst eq_
  obtain rfl := Option.some.inj hs
  exact re_v F M dX0_clearContacts_94
abbrev rm_X9_hasLog : Room := { frames := 0, cells := 0, slots := 0, locals := 0 }
theorem mf_X9_hasLog : MV 9 yX9_hasLog cX9_hasLog 5 (some .boolean) 0 RX9 := ⟨t_752, t_751, tS_44, t_13, ⟨by decide +kernel, by decide +kernel, by decide +kernel⟩, rfl, by decide⟩
def s_X9_hasLog_L10 (N : Nat) : Nat → Option Nat → Int32 → Int32 → IH → Option ((Int32) ⊕ (Unit))
  | 0, _, _, _, _ => none
  | n + 1, x1, x2, x3, h => if x2 ≤ x3 then some (.inr ()) else (aR h 4 x1 x3).bind fun v4 => (gI h 4 2 v4).bind fun v5 => if v5 = 0 then some (.inl 1) else s_X9_hasLog_L10 N n x1 x2 (x3 + 1) h
def s_X9_hasLog (N : Nat) (h : IH) (th : Nat) : Option (Int32) := (gR h 9 5 (some th)).bind fun v1 => (lnO h v1).bind fun v2 => (s_X9_hasLog_L10 N N v1 v2 0 h).bind fun q7 => Sum.elim (fun v => some v) (fun t8 => some 0) q7
set_option maxHeartbeats 4000000 in
set_option maxRecDepth 100000 in
theorem w_X9_hasLog_L10 {p : Program} {l : Launch} {e : Env} {s : State} {m : MethodId} {args : Array Value} {below : List Frame} {meth : Method} {c : Code} {D : va_G} {cy : Nat → ClassId} {A : Nat → Prop} {H0 : Heap} {N : Nat} {x1 : Option Nat} {x2 : Int32} {h : IH} {qF : Int32} (F : Fx p s m args meth c D cy A H0 yX9_hasLog cX9_hasLog 5 (some .boolean)) : ∀ (n : Nat) (x3 : Int32) (ls : Array Slot) (H : Heap) (locs : List Loc) (q : (Int32) ⊕ (Unit)), s_X9_hasLog_L10 N n x1 x2 x3 h = some q → lv_has ls 5 [(1, va_rf x1), (2, .int x2), (3, .int x3)] → Mo D cy A H0 h H locs → (∀ (t : Unit) (ls : Array Slot) (H : Heap) (locs : List Loc), q = .inr t → lv_has ls 5 [] → Mo D cy A H0 h H locs → W p l e rm_X9_hasLog s m args below meth c H locs 0 0 (MQ below (QR D cy h A (some (.int qF))) args s 0 0 A) (F0 m 36 ls [])) → (∀ v, q = .inl v → v = qF) → W p l e rm_X9_hasLog s m args below meth c H locs 0 0 (MQ below (QR D cy h A (some (.int qF))) args s 0 0 A) (F0 m 10 ls []) := by
  intro n
  induction n with
  | zero => intro x3 ls H locs q hs; rw [s_X9_hasLog_L10.eq_1] at hs; cases hs
  | succ n ih =>
    intro x3 ls H locs q hs hl M kx kr
    obtain ⟨hx, hb, hr, hml, hown, hlk, hts, hK, hN, hA, hH⟩ := id F
    rw [s_X9_hasLog_L10.eq_2] at hs
    refine lv_iload_n hx hb dX9_hasLog_10 rfl (lv_at hl 2 rfl) ?_
    refine lv_iload_n hx hb dX9_hasLog_11 rfl (lv_at hl 1 rfl) ?_
    refine lv_icmp_ge (tgt := 36) hx hb dX9_hasLog_12 (by decide) (fun c3 => ?_) (fun c3 => ?_)
    · rw [if_pos c3] at hs
      exact kx () _ _ _ (Option.some.inj hs).symm (lv_sub hl [] rfl) M
    · rw [if_neg c3] at hs
      refine lo_aload_n hx hb dX9_hasLog_15 rfl (lv_at hl 0 rfl) ?_
      refine lv_iload_n hx hb dX9_hasLog_16 rfl (lv_at hl 2 rfl) ?_
      obtain ⟨v4, g_v4, hs⟩ := bd hs
      refine ro_aR (k := 4) (by decide) rfl F M g_v4 dX9_hasLog_17 ?_
      refine lo_astore (i := 4) (lv' := [(4, va_rf v4), (1, va_rf x1), (2, .int x2), (3, .int x3)]) hx hb dX9_hasLog_18 hl (by decide) rfl (fun ls hl => ?_)
      refine lo_aload hx hb dX9_hasLog_20 (lv_at hl 0 rfl) ?_
      obtain ⟨v5, g_v5, hs⟩ := bd hs
      refine ro_gIN F M fg_4_2 tN_176 g_v5 dX9_hasLog_22 ?_
      refine lv_if_ne (tgt := 30) hx hb dX9_hasLog_25 (by decide) (fun c6 => ?_) (fun c6 => ?_)
      · rw [if_neg c6] at hs
        refine lv_iinc (v := x3 + 1) (lv' := [(3, .int (x3 + 1)), (4, va_rf v4), (1, va_rf x1), (2, .int x2)]) hx hb dX9_hasLog_30 hl (k := 3) rfl rfl (by decide) rfl (fun ls hl => ?_)
        refine lv_goto (tgt := 10) hx hb dX9_hasLog_33 (by decide) ?_
        exact ih (x3 + 1) _ _ _ _ hs (lv_sub hl [2, 3, 0] rfl) M kx kr
      · rw [if_pos c6] at hs
        refine lv_iconst (v := 1) hx hb dX9_hasLog_28 (by decide) ?_
        obtain rfl := kr _ (Option.some.inj hs).symm
        exact re_z F M (Or.inr rfl) dX9_hasLog_29
set_option maxHeartbeats 4000000 in
set_option maxRecDepth 100000 in
theorem c_X9_hasLog {l : Launch} {D : va_G} {cy : Nat → ClassId} {sz N : Nat} {h : IH} {th : Nat} {qF : Int32} (hs : s_X9_hasLog N h th = some qF) : Ct l D cy yX9_hasLog cX9_hasLog 5 (some .boolean) rm_X9_hasLog h sz [.ref th] h (some (.int qF)) := by
  refine ct_start (by decide +kernel) [(0, .ref th)] (Nat.le_of_ble_eq_true rfl) rfl ?_
  intro p e s m args below meth c A H0 ls F hin hsz M hl
  obtain ⟨hx, hb, hr, hml, hown, hlk, hts, hK, hN, hA, hH⟩ := id F
  generalize s.heap = H at M ⊢
  generalize ([] : List Loc) = locs at M ⊢
  unfold s_X9_hasLog at hs
  refine lv_aload_n hx hb dX9_hasLog_0 rfl (lv_at hl 0 rfl) ?_
  obtain ⟨v1, g_v1, hs⟩ := bd hs
  refine ro_gR F M fg_9_5 t_432 g_v1 dX9_hasLog_1 ?_
  refine lo_astore_n (i := 1) (lv' := [(1, va_rf v1), (0, .ref th)]) hx hb dX9_hasLog_4 rfl hl (by decide) rfl (fun ls hl => ?_)
  refine lo_aload_n hx hb dX9_hasLog_5 rfl (lv_at hl 0 rfl) ?_
  obtain ⟨v2, g_v2, hs⟩ := bd hs
  refine ro_len F M g_v2 dX9_hasLog_6 ?_
  refine lv_istore_n (i := 2) (lv' := [(2, .int v2), (1, va_rf v1), (0, .ref th)]) hx hb dX9_hasLog_7 rfl hl (by decide) (by simp [cat_rf, cat_i, cat_j, cat_r]) (fun ls hl => ?_)
  refine lv_iconst (v := 0) hx hb dX9_hasLog_8 (by decide) ?_
  refine lv_istore_n (i := 3) (lv' := [(3, .int 0), (2, .int v2), (1, va_rf v1), (0, .ref th)]) hx hb dX9_hasLog_9 rfl hl (by decide) rfl (fun ls hl => ?_)
  obtain ⟨q7, g_q7, hs⟩ := bd hs
  refine w_X9_hasLog_L10 F N 0 _ _ _ q7 g_q7 (lv_sub hl [2, 1, 0] rfl) M (fun t8 ls H locs eq_ hl M => ?_) (fun v eq_ => ?_)
  · subst eq_
    have hs := se_r hs
    refine lv_iconst (v := 0) hx hb dX9_hasLog_36 (by decide) ?_
    obtain rfl := Option.some.inj hs
    exact re_z F M (Or.inl rfl) dX9_hasLog_37
  · subst eq_
    have hs := se_l hs
    exact (Option.some.inj hs)
abbrev rm_X7_withLogAt : Room := { frames := 1, cells := 0, slots := 0, locals := 24 }
theorem mf_X7_withLogAt : MV 7 yX7_withLogAt cX7_withLogAt 3 (some (.object "ContactHouse$Station")) 1 RX7 := ⟨t_747, t_746, tS_43, t_3, ⟨by decide +kernel, by decide +kernel, by decide +kernel⟩, rfl, by decide⟩
def s_X7_withLogAt (N : Nat) (h : IH) (th : Nat) (a0 : Int32) : Option (Option Nat) := (cV h 7 (some th) fun a7 => s_X7_at h a7 a0).bind fun v1 => ((if v1 = none then some none else (cV h 9 v1 fun a5 => s_X9_hasLog N h a5 ).bind fun v3 => if v3 = 0 then some none else some v1) : Option (Option Nat)).bind fun q6 => some q6
set_option maxHeartbeats 4000000 in
set_option maxRecDepth 100000 in
theorem c_X7_withLogAt {l : Launch} {D : va_G} {cy : Nat → ClassId} {sz N : Nat} {h : IH} {th : Nat} {a0 : Int32} {qF : Option Nat} (hs : s_X7_withLogAt N h th a0 = some qF) : Ct l D cy yX7_withLogAt cX7_withLogAt 3 (some (.object "ContactHouse$Station")) rm_X7_withLogAt h sz [.ref th, .int a0] h (some (va_rf qF)) := by
  refine ct_start (by decide +kernel) [(0, .ref th), (1, .int a0)] (Nat.le_of_ble_eq_true rfl) rfl ?_
  intro p e s m args below meth c A H0 ls F hin hsz M hl
  obtain ⟨hx, hb, hr, hml, hown, hlk, hts, hK, hN, hA, hH⟩ := id F
  generalize s.heap = H at M ⊢
  generalize ([] : List Loc) = locs at M ⊢
  unfold s_X7_withLogAt at hs
  refine lv_aload_n hx hb dX7_withLogAt_0 rfl (lv_at hl 0 rfl) ?_
  refine lv_iload_n hx hb dX7_withLogAt_1 rfl (lv_at hl 1 rfl) ?_
  obtain ⟨v1, g_v1, hs⟩ := bd hs
  obtain ⟨a7, e_a7, k_a7, g_v1⟩ := cV_some g_v1
  obtain rfl := Option.some.inj e_a7
  refine ca_Va (bq := th) (As := [.int a0]) (rest := []) F M (c_X7_at g_v1) mf_X7_at t_748 k_a7 rfl ⟨by decide, by decide⟩ ⟨rfl, rfl⟩ ⟨Nat.zero_le _, Nat.zero_le _⟩ hl.1 rfl (by decide) dX7_withLogAt_2 (fun H locs M => ?_)
  refine lo_astore_n (i := 2) (lv' := [(2, va_rf v1), (0, .ref th), (1, .int a0)]) hx hb dX7_withLogAt_5 rfl hl (by decide) rfl (fun ls hl => ?_)
  refine lo_aload_n hx hb dX7_withLogAt_6 rfl (lv_at hl 0 rfl) ?_
  obtain ⟨q6, hsq6, hs⟩ := bd hs
  have KJ22 : ∀ (ls : Array Slot) (H : Heap) (locs : List Loc), lv_has ls 3 [] → Mo D cy A H0 h H locs → W p l e rm_X7_withLogAt s m args below meth c H locs 0 0 (MQ below (QR D cy h A (some (va_rf qF))) args s 0 0 A) (F0 m 22 ls [va_rf q6]) := by
    intro ls H locs hl M
    obtain rfl := Option.some.inj hs
    exact re_a F M dX7_withLogAt_22
  clear hs
  have hs := hsq6
  refine lo_ifnull (tgt := 21) hx hb dX7_withLogAt_7 (by decide) (fun c2 => ?_) (fun c2 => ?_)
  · rw [if_pos c2] at hs
    refine lv_null hx hb dX7_withLogAt_21 ?_
    obtain rfl := Option.some.inj hs
    exact KJ22 _ _ _ (lv_sub hl [] rfl) M
  · rw [if_neg c2] at hs
    refine lo_aload_n hx hb dX7_withLogAt_10 rfl (lv_at hl 0 rfl) ?_
    obtain ⟨v3, g_v3, hs⟩ := bd hs
    obtain ⟨a5, e_a5, k_a5, g_v3⟩ := cV_some g_v3
    refine ca_VNi (bq := a5) (As := []) (rest := []) F M (c_X9_hasLog g_v3) mf_X9_hasLog tN_749 k_a5 rfl ⟨by decide, by decide⟩ ⟨rfl, rfl⟩ ⟨Nat.zero_le _, Nat.zero_le _⟩ hl.1 (by rw [e_a5]; rfl) (by decide) dX7_withLogAt_11 (fun H locs M => ?_)
    refine lv_if_eq (tgt := 21) hx hb dX7_withLogAt_14 (by decide) (fun c4 => ?_) (fun c4 => ?_)
    · rw [if_pos c4] at hs
      refine lv_null hx hb dX7_withLogAt_21 ?_
      obtain rfl := Option.some.inj hs
      exact KJ22 _ _ _ (lv_sub hl [] rfl) M
    · rw [if_neg c4] at hs
      refine lo_aload_n hx hb dX7_withLogAt_17 rfl (lv_at hl 0 rfl) ?_
      refine lv_goto (tgt := 22) hx hb dX7_withLogAt_18 (by decide) ?_
      obtain rfl := Option.some.inj hs
      exact KJ22 _ _ _ (lv_sub hl [] rfl) M
abbrev rm_X2_answersTo : Room := { frames := 0, cells := 0, slots := 0, locals := 0 }
theorem mf_X2_answersTo : MV 2 yX2_answersTo cX2_answersTo 2 (some .boolean) 1 RX2 := ⟨t_756, t_755, tS_45, t_5, ⟨by decide +kernel, by decide +kernel, by decide +kernel⟩, rfl, by decide⟩
def s_X2_answersTo (h : IH) (th : Nat) (a0 : Option Nat) : Option (Int32) := (gI h 2 4 (some th)).bind fun v1 => ((if v1 = (-1) then some 0 else (gI h 2 5 (some th)).bind fun v3 => if v3 = (-1) then some 0 else (gI h 2 5 (some th)).bind fun v5 => (gI h 2 4 a0).bind fun v6 => if v5 = v6 then (gI h 2 4 (some th)).bind fun v8 => (gI h 2 5 a0).bind fun v9 => if v8 = v9 then some 1 else some 0 else some 0) : Option (Int32)).bind fun q11 => if q11 = 0 ∨ q11 = 1 then some q11 else none
set_option maxHeartbeats 4000000 in
set_option maxRecDepth 100000 in
theorem c_X2_answersTo {l : Launch} {D : va_G} {cy : Nat → ClassId} {sz : Nat} {h : IH} {th : Nat} {a0 : Option Nat} {qF : Int32} (hs : s_X2_answersTo h th a0 = some qF) : Ct l D cy yX2_answersTo cX2_answersTo 2 (some .boolean) rm_X2_answersTo h sz [.ref th, va_rf a0] h (some (.int qF)) := by
  refine ct_start (by decide +kernel) [(0, .ref th), (1, va_rf a0)] (by simp [lg_sl, cat_rf, cat_i, cat_j, cat_r]) (by simp [lv_args, cat_rf, cat_i, cat_j, cat_r]) ?_
  intro p e s m args below meth c A H0 ls F hin hsz M hl
  obtain ⟨hx, hb, hr, hml, hown, hlk, hts, hK, hN, hA, hH⟩ := id F
  generalize s.heap = H at M ⊢
  generalize ([] : List Loc) = locs at M ⊢
  unfold s_X2_answersTo at hs
  refine lv_aload_n hx hb dX2_answersTo_0 rfl (lv_at hl 0 rfl) ?_
  obtain ⟨v1, g_v1, hs⟩ := bd hs
  refine ro_gI F M fg_2_4 t_109 g_v1 dX2_answersTo_1 ?_
  refine lv_iconst (v := (-1)) hx hb dX2_answersTo_4 (by decide) ?_
  obtain ⟨q11, hsq11, hs⟩ := bd hs
  have KJ43 : ∀ (ls : Array Slot) (H : Heap) (locs : List Loc), lv_has ls 2 [] → Mo D cy A H0 h H locs → W p l e rm_X2_answersTo s m args below meth c H locs 0 0 (MQ below (QR D cy h A (some (.int qF))) args s 0 0 A) (F0 m 43 ls [.int q11]) := by
    intro ls H locs hl M
    by_cases zg : q11 = 0 ∨ q11 = 1
    · rw [if_pos zg] at hs
      obtain rfl := Option.some.inj hs
      exact re_z F M zg dX2_answersTo_43
    · rw [if_neg zg] at hs; cases hs
  clear hs
  have hs := hsq11
  refine lv_icmp_eq (tgt := 42) hx hb dX2_answersTo_5 (by decide) (fun c2 => ?_) (fun c2 => ?_)
  · rw [if_pos c2] at hs
    refine lv_iconst (v := 0) hx hb dX2_answersTo_42 (by decide) ?_
    obtain rfl := Option.some.inj hs
    exact KJ43 _ _ _ (lv_sub hl [] rfl) M
  · rw [if_neg c2] at hs
    refine lv_aload_n hx hb dX2_answersTo_8 rfl (lv_at hl 0 rfl) ?_
    obtain ⟨v3, g_v3, hs⟩ := bd hs
    refine ro_gI F M fg_2_5 t_113 g_v3 dX2_answersTo_9 ?_
    refine lv_iconst (v := (-1)) hx hb dX2_answersTo_12 (by decide) ?_
    refine lv_icmp_eq (tgt := 42) hx hb dX2_answersTo_13 (by decide) (fun c4 => ?_) (fun c4 => ?_)
    · rw [if_pos c4] at hs
      refine lv_iconst (v := 0) hx hb dX2_answersTo_42 (by decide) ?_
      obtain rfl := Option.some.inj hs
      exact KJ43 _ _ _ (lv_sub hl [] rfl) M
    · rw [if_neg c4] at hs
      refine lv_aload_n hx hb dX2_answersTo_16 rfl (lv_at hl 0 rfl) ?_
      obtain ⟨v5, g_v5, hs⟩ := bd hs
      refine ro_gI F M fg_2_5 t_113 g_v5 dX2_answersTo_17 ?_
      refine lo_aload_n hx hb dX2_answersTo_20 rfl (lv_at hl 1 rfl) ?_
      obtain ⟨v6, g_v6, hs⟩ := bd hs
      refine ro_gI F M fg_2_4 t_109 g_v6 dX2_answersTo_21 ?_
      refine lv_icmp_ne (tgt := 42) hx hb dX2_answersTo_24 (by decide) (fun c7 => ?_) (fun c7 => ?_)
      · rw [if_neg c7] at hs
        refine lv_iconst (v := 0) hx hb dX2_answersTo_42 (by decide) ?_
        obtain rfl := Option.some.inj hs
        exact KJ43 _ _ _ (lv_sub hl [] rfl) M
      · rw [if_pos c7] at hs
        refine lv_aload_n hx hb dX2_answersTo_27 rfl (lv_at hl 0 rfl) ?_
        obtain ⟨v8, g_v8, hs⟩ := bd hs
        refine ro_gI F M fg_2_4 t_109 g_v8 dX2_answersTo_28 ?_
        refine lo_aload_n hx hb dX2_answersTo_31 rfl (lv_at hl 1 rfl) ?_
        obtain ⟨v9, g_v9, hs⟩ := bd hs
        refine ro_gI F M fg_2_5 t_113 g_v9 dX2_answersTo_32 ?_
        refine lv_icmp_ne (tgt := 42) hx hb dX2_answersTo_35 (by decide) (fun c10 => ?_) (fun c10 => ?_)
        · rw [if_neg c10] at hs
          refine lv_iconst (v := 0) hx hb dX2_answersTo_42 (by decide) ?_
          obtain rfl := Option.some.inj hs
          exact KJ43 _ _ _ (lv_sub hl [] rfl) M
        · rw [if_pos c10] at hs
          refine lv_iconst (v := 1) hx hb dX2_answersTo_38 (by decide) ?_
          refine lv_goto (tgt := 43) hx hb dX2_answersTo_39 (by decide) ?_
          obtain rfl := Option.some.inj hs
          exact KJ43 _ _ _ (lv_sub hl [] rfl) M
