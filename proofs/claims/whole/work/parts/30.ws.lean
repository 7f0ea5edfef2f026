abbrev rm_X10_wordIs : Room := { frames := 4, cells := 0, slots := 0, locals := 85 }
theorem mf_X10_wordIs : MV 10 yX10_wordIs cX10_wordIs 3 (some .boolean) 1 RX10 := ⟨t_499, t_498, tS_12, t_2, ⟨by decide +kernel, by decide +kernel, by decide +kernel⟩, rfl, by decide⟩
def s_X10_wordIs_L15 (N : Nat) : Nat → Nat → Nat → Int32 → IH → Option ((Int32) ⊕ (Unit))
  | 0, _, _, _, _ => none
  | n + 1, th, x1, x2, h => (slen x1).bind fun v4 => if v4 ≤ x2 then some (.inr ()) else (gI h 10 4 (some th)).bind fun v6 => (cV h 10 (some th) fun a10 => s_X10_byteAt h a10 (v6 + x2)).bind fun v7 => (schar x1 x2).bind fun v8 => if v7 = v8 then s_X10_wordIs_L15 N n th x1 (x2 + 1) h else some (.inl 0)
def s_X10_wordIs (N : Nat) (h : IH) (th : Nat) (a0 : Nat) : Option (Int32) := (gI h 10 5 (some th)).bind fun v1 => (slen a0).bind fun v2 => if v1 = v2 then (s_X10_wordIs_L15 N N th a0 0 h).bind fun q11 => Sum.elim (fun v => some v) (fun t12 => some 1) q11 else some 0
set_option maxHeartbeats 4000000 in
set_option maxRecDepth 100000 in
theorem w_X10_wordIs_L15 {p : Program} {l : Launch} {e : Env} {s : State} {m : MethodId} {args : Array Value} {below : List Frame} {meth : Method} {c : Code} {D : va_G} {cy : Nat → ClassId} {A : Nat → Prop} {H0 : Heap} {N th : Nat} {x1 : Nat} {h : IH} {qF : Int32} (F : Fx p s m args meth c D cy A H0 yX10_wordIs cX10_wordIs 3 (some .boolean)) : ∀ (n : Nat) (x2 : Int32) (ls : Array Slot) (H : Heap) (locs : List Loc) (q : (Int32) ⊕ (Unit)), s_X10_wordIs_L15 N n th x1 x2 h = some q → lv_has ls 3 [(0, .ref th), (1, .ref (cy (100 + x1))), (2, .int x2)] → Mo D cy A H0 h H locs → (∀ (t : Unit) (ls : Array Slot) (H : Heap) (locs : List Loc), q = .inr t → lv_has ls 3 [] → Mo D cy A H0 h H locs → W p l e rm_X10_wordIs s m args below meth c H locs 0 0 (MQ below (QR D cy h A (some (.int qF))) args s 0 0 A) (F0 m 49 ls [])) → (∀ v, q = .inl v → v = qF) → W p l e rm_X10_wordIs s m args below meth c H locs 0 0 (MQ below (QR D cy h A (some (.int qF))) args s 0 0 A) (F0 m 15 ls []) := by
  intro n
  induction n with
  | zero => intro x2 ls H locs q hs; rw [s_X10_wordIs_L15.eq_1] at hs; cases hs
  | succ n ih =>
    intro x2 ls H locs q hs hl M kx kr
    obtain ⟨hx, hb, hr, hml, hown, hlk, hts, hK, hN, hA, hH⟩ := id F
    rw [s_X10_wordIs_L15.eq_2] at hs
    refine lv_iload_n hx hb dX10_wordIs_15 rfl (lv_at hl 2 rfl) ?_
    refine lv_aload_n hx hb dX10_wordIs_16 rfl (lv_at hl 1 rfl) ?_
    obtain ⟨v4, g_v4, hs⟩ := bd hs
    refine ro_slen (rest := [.int x2]) F M g_v4 t_500 ⟨by decide, by decide⟩ ⟨Nat.zero_le _, Nat.zero_le _⟩ hl.1 (by simp [cat_rf, cat_i, cat_j, cat_r]) dX10_wordIs_17 (fun H locs M => ?_)
    refine lv_icmp_ge (tgt := 49) hx hb dX10_wordIs_20 (by decide) (fun c5 => ?_) (fun c5 => ?_)
    · rw [if_pos c5] at hs
      exact kx () _ _ _ (Option.some.inj hs).symm (lv_sub hl [] rfl) M
    · rw [if_neg c5] at hs
      refine lv_aload_n hx hb dX10_wordIs_23 rfl (lv_at hl 0 rfl) ?_
      refine lv_aload_n hx hb dX10_wordIs_24 rfl (lv_at hl 0 rfl) ?_
      obtain ⟨v6, g_v6, hs⟩ := bd hs
      refine ro_gI F M fg_10_4 t_44 g_v6 dX10_wordIs_25 ?_
      refine lv_iload_n hx hb dX10_wordIs_28 rfl (lv_at hl 2 rfl) ?_
      refine lv_iadd hx hb dX10_wordIs_29 ?_
      obtain ⟨v7, g_v7, hs⟩ := bd hs
      obtain ⟨a10, e_a10, k_a10, g_v7⟩ := cV_some g_v7
      obtain rfl := Option.some.inj e_a10
      refine ca_Vi (bq := th) (As := [.int (v6 + x2)]) (rest := []) F M (c_X10_byteAt g_v7) mf_X10_byteAt t_397 k_a10 rfl ⟨by decide, by decide⟩ ⟨rfl, rfl⟩ ⟨Nat.zero_le _, Nat.zero_le _⟩ hl.1 rfl (by decide) dX10_wordIs_30 (fun H locs M => ?_)
      refine lv_aload_n hx hb dX10_wordIs_33 rfl (lv_at hl 1 rfl) ?_
      refine lv_iload_n hx hb dX10_wordIs_34 rfl (lv_at hl 2 rfl) ?_
      obtain ⟨v8, g_v8, hs⟩ := bd hs
      refine ro_schar (rest := [.int v7]) F M g_v8 t_510 ⟨by decide, by decide⟩ ⟨Nat.zero_le _, Nat.zero_le _⟩ hl.1 (by simp [cat_rf, cat_i, cat_j, cat_r]) dX10_wordIs_35 (fun H locs M => ?_)
      refine lv_icmp_eq (tgt := 43) hx hb dX10_wordIs_38 (by decide) (fun c9 => ?_) (fun c9 => ?_)
      · rw [if_pos c9] at hs
        refine lv_iinc (v := x2 + 1) (lv' := [(2, .int (x2 + 1)), (0, .ref th), (1, .ref (cy (100 + x1)))]) hx hb dX10_wordIs_43 hl (k := 2) rfl rfl (by decide) rfl (fun ls hl => ?_)
        refine lv_goto (tgt := 15) hx hb dX10_wordIs_46 (by decide) ?_
        exact ih (x2 + 1) _ _ _ _ hs (lv_sub hl [1, 2, 0] rfl) M kx kr
      · rw [if_neg c9] at hs
        refine lv_iconst (v := 0) hx hb dX10_wordIs_41 (by decide) ?_
        obtain rfl := kr _ (Option.some.inj hs).symm
        exact re_z F M (Or.inl rfl) dX10_wordIs_42
set_option maxHeartbeats 4000000 in
set_option maxRecDepth 100000 in
theorem c_X10_wordIs {l : Launch} {D : va_G} {cy : Nat → ClassId} {sz N : Nat} {h : IH} {th : Nat} {a0 : Nat} {qF : Int32} (hs : s_X10_wordIs N h th a0 = some qF) : Ct l D cy yX10_wordIs cX10_wordIs 3 (some .boolean) rm_X10_wordIs h sz [.ref th, .ref (cy (100 + a0))] h (some (.int qF)) := by
  refine ct_start (by decide +kernel) [(0, .ref th), (1, .ref (cy (100 + a0)))] (Nat.le_of_ble_eq_true rfl) rfl ?_
  intro p e s m args below meth c A H0 ls F hin hsz M hl
  obtain ⟨hx, hb, hr, hml, hown, hlk, hts, hK, hN, hA, hH⟩ := id F
  generalize s.heap = H at M ⊢
  generalize ([] : List Loc) = locs at M ⊢
  unfold s_X10_wordIs at hs
  refine lv_aload_n hx hb dX10_wordIs_0 rfl (lv_at hl 0 rfl) ?_
  obtain ⟨v1, g_v1, hs⟩ := bd hs
  refine ro_gI F M fg_10_5 t_45 g_v1 dX10_wordIs_1 ?_
  refine lv_aload_n hx hb dX10_wordIs_4 rfl (lv_at hl 1 rfl) ?_
  obtain ⟨v2, g_v2, hs⟩ := bd hs
  refine ro_slen (rest := [.int v1]) F M g_v2 t_500 ⟨by decide, by decide⟩ ⟨Nat.zero_le _, Nat.zero_le _⟩ hl.1 (by simp [cat_rf, cat_i, cat_j, cat_r]) dX10_wordIs_5 (fun H locs M => ?_)
  refine lv_icmp_eq (tgt := 13) hx hb dX10_wordIs_8 (by decide) (fun c3 => ?_) (fun c3 => ?_)
  · rw [if_pos c3] at hs
    refine lv_iconst (v := 0) hx hb dX10_wordIs_13 (by decide) ?_
    refine lv_istore_n (i := 2) (lv' := [(2, .int 0), (0, .ref th), (1, .ref (cy (100 + a0)))]) hx hb dX10_wordIs_14 rfl hl (by decide) rfl (fun ls hl => ?_)
    obtain ⟨q11, g_q11, hs⟩ := bd hs
    refine w_X10_wordIs_L15 F N 0 _ _ _ q11 g_q11 (lv_sub hl [1, 2, 0] rfl) M (fun t12 ls H locs eq_ hl M => ?_) (fun v eq_ => ?_)
    · subst eq_
      have hs := se_r hs
      refine lv_iconst (v := 1) hx hb dX10_wordIs_49 (by decide) ?_
      obtain rfl := Option.some.inj hs
      exact re_z F M (Or.inr rfl) dX10_wordIs_50
    · subst eq_
      have hs := se_l hs
      exact (Option.some.inj hs)
  · rw [if_neg c3] at hs
    refine lv_iconst (v := 0) hx hb dX10_wordIs_11 (by decide) ?_
    obtain rfl := Option.some.inj hs
    exact re_z F M (Or.inl rfl) dX10_wordIs_12
abbrev rm_X5_readLine : Room := { frames := 5, cells := 0, slots := 0, locals := 107 }
theorem mf_X5_readLine : MV 5 yX5_readLine cX5_readLine 1 (some .boolean) 0 RX5 := ⟨t_490, t_489, tS_10, t_4, ⟨by decide +kernel, by decide +kernel, by decide +kernel⟩, rfl, by decide⟩
def s_X5_readLine (N : Nat) (h : IH) (th : Nat) : Option (Int32 × IH) := (gR h 5 0 (some th)).bind fun v1 => (cV h 10 v1 fun a24 => s_X10_nextWord N h a24 ).bind fun v2 => (gR v2.2 5 0 (some th)).bind fun v3 => (cV v2.2 10 v3 fun a23 => s_X10_wordIs N v2.2 a23 0).bind fun v4 => if v4 = 0 then (gR v2.2 5 0 (some th)).bind fun v6 => (cV v2.2 10 v6 fun a18 => s_X10_wordIs N v2.2 a18 1).bind fun v7 => if v7 = 0 then (gR v2.2 5 1 (some th)).bind fun v9 => (pI v2.2 2 0 v9 2).bind fun h10 => (gR h10 5 0 (some th)).bind fun v11 => (cV h10 10 v11 fun a13 => s_X10_wordIs N h10 a13 2).bind fun v12 => if v12 = 0 ∨ v12 = 1 then some (v12, h10) else none else (gR v2.2 5 1 (some th)).bind fun v14 => (pI v2.2 2 0 v14 1).bind fun h15 => (cV h15 5 (some th) fun a17 => s_X5_readRest N h15 a17 ).bind fun v16 => if v16.1 = 0 ∨ v16.1 = 1 then some (v16.1, v16.2) else none else (gR v2.2 5 1 (some th)).bind fun v19 => (pI v2.2 2 0 v19 0).bind fun h20 => (cV h20 5 (some th) fun a22 => s_X5_readContact N h20 a22 ).bind fun v21 => if v21.1 = 0 ∨ v21.1 = 1 then some (v21.1, v21.2) else none
set_option maxHeartbeats 4000000 in
set_option maxRecDepth 100000 in
theorem c_X5_readLine {l : Launch} {D : va_G} {cy : Nat → ClassId} {sz N : Nat} {h : IH} {th : Nat} {qF : Int32 × IH} (hs : s_X5_readLine N h th = some qF) : Ct l D cy yX5_readLine cX5_readLine 1 (some .boolean) rm_X5_readLine h sz [.ref th] qF.2 (some (.int qF.1)) := by
  refine ct_start (by decide +kernel) [(0, .ref th)] (Nat.le_of_ble_eq_true rfl) rfl ?_
  intro p e s m args below meth c A H0 ls F hin hsz M hl
  obtain ⟨hx, hb, hr, hml, hown, hlk, hts, hK, hN, hA, hH⟩ := id F
  generalize s.heap = H at M ⊢
  generalize ([] : List Loc) = locs at M ⊢
  unfold s_X5_readLine at hs
  refine lv_aload_n hx hb dX5_readLine_0 rfl (lv_at hl 0 rfl) ?_
  obtain ⟨v1, g_v1, hs⟩ := bd hs
  refine ro_gR F M fg_5_0 t_185 g_v1 dX5_readLine_1 ?_
  obtain ⟨v2, g_v2, hs⟩ := bd hs
  obtain ⟨a24, e_a24, k_a24, g_v2⟩ := cV_some g_v2
  refine ca_VNi (bq := a24) (As := []) (rest := []) F M (c_X10_nextWord g_v2) mf_X10_nextWord tN_491 k_a24 rfl ⟨by decide, by decide⟩ ⟨rfl, rfl⟩ ⟨Nat.zero_le _, Nat.zero_le _⟩ hl.1 (by rw [e_a24]; rfl) (by decide) dX5_readLine_4 (fun H locs M => ?_)
  refine lv_pop hx hb dX5_readLine_7 rfl ?_
  refine lv_aload_n hx hb dX5_readLine_8 rfl (lv_at hl 0 rfl) ?_
  obtain ⟨v3, g_v3, hs⟩ := bd hs
  refine ro_gR F M fg_5_0 t_185 g_v3 dX5_readLine_9 ?_
  refine st_ldc (k := 0) F M (by decide) rfl rfl dX5_readLine_12 ?_
  obtain ⟨v4, g_v4, hs⟩ := bd hs
  obtain ⟨a23, e_a23, k_a23, g_v4⟩ := cV_some g_v4
  refine ca_VNi (bq := a23) (As := [.ref (cy (100 + 0))]) (rest := []) F M (c_X10_wordIs g_v4) mf_X10_wordIs tN_496 k_a23 rfl ⟨by decide, by decide⟩ ⟨rfl, rfl⟩ ⟨Nat.zero_le _, Nat.zero_le _⟩ hl.1 (by rw [e_a23]; rfl) (by decide) dX5_readLine_14 (fun H locs M => ?_)
  refine lv_if_eq (tgt := 33) hx hb dX5_readLine_17 (by decide) (fun c5 => ?_) (fun c5 => ?_)
  · rw [if_pos c5] at hs
    refine lv_aload_n hx hb dX5_readLine_33 rfl (lv_at hl 0 rfl) ?_
    obtain ⟨v6, g_v6, hs⟩ := bd hs
    refine ro_gR F M fg_5_0 t_185 g_v6 dX5_readLine_34 ?_
    refine st_ldc (k := 1) F M (by decide) rfl rfl dX5_readLine_37 ?_
    obtain ⟨v7, g_v7, hs⟩ := bd hs
    obtain ⟨a18, e_a18, k_a18, g_v7⟩ := cV_some g_v7
    refine ca_VNi (bq := a18) (As := [.ref (cy (100 + 1))]) (rest := []) F M (c_X10_wordIs g_v7) mf_X10_wordIs tN_496 k_a18 rfl ⟨by decide, by decide⟩ ⟨rfl, rfl⟩ ⟨Nat.zero_le _, Nat.zero_le _⟩ hl.1 (by rw [e_a18]; rfl) (by decide) dX5_readLine_39 (fun H locs M => ?_)
    refine lv_if_eq (tgt := 58) hx hb dX5_readLine_42 (by decide) (fun c8 => ?_) (fun c8 => ?_)
    · rw [if_pos c8] at hs
      refine lv_aload_n hx hb dX5_readLine_58 rfl (lv_at hl 0 rfl) ?_
      obtain ⟨v9, g_v9, hs⟩ := bd hs
      refine ro_gR F M fg_5_1 t_186 g_v9 dX5_readLine_59 ?_
      refine lv_iconst (v := 2) hx hb dX5_readLine_62 (by decide) ?_
      obtain ⟨h10, g_h10, hs⟩ := bd hs
      refine ro_pIN F M fg_2_0 fp_2_0 rfl tN_92 g_h10 dX5_readLine_63 (fun H locs M => ?_)
      refine lv_aload_n hx hb dX5_readLine_66 rfl (lv_at hl 0 rfl) ?_
      obtain ⟨v11, g_v11, hs⟩ := bd hs
      refine ro_gR F M fg_5_0 t_185 g_v11 dX5_readLine_67 ?_
      refine st_ldc (k := 2) F M (by decide) rfl rfl dX5_readLine_70 ?_
      obtain ⟨v12, g_v12, hs⟩ := bd hs
      obtain ⟨a13, e_a13, k_a13, g_v12⟩ := cV_some g_v12
      refine ca_VNi (bq := a13) (As := [.ref (cy (100 + 2))]) (rest := []) F M (c_X10_wordIs g_v12) mf_X10_wordIs tN_496 k_a13 rfl ⟨by decide, by decide⟩ ⟨rfl, rfl⟩ ⟨Nat.zero_le _, Nat.zero_le _⟩ hl.1 (by rw [e_a13]; rfl) (by decide) dX5_readLine_72 (fun H locs M => ?_)
      by_cases zg : v12 = 0 ∨ v12 = 1
      · rw [if_pos zg] at hs
        obtain rfl := Option.some.inj hs
        exact re_z F M zg dX5_readLine_75
      · rw [if_neg zg] at hs; cases hs
    · rw [if_neg c8] at hs
      refine lv_aload_n hx hb dX5_readLine_45 rfl (lv_at hl 0 rfl) ?_
      obtain ⟨v14, g_v14, hs⟩ := bd hs
      refine ro_gR F M fg_5_1 t_186 g_v14 dX5_readLine_46 ?_
      refine lv_iconst (v := 1) hx hb dX5_readLine_49 (by decide) ?_
      obtain ⟨h15, g_h15, hs⟩ := bd hs
      refine ro_pIN F M fg_2_0 fp_2_0 rfl tN_92 g_h15 dX5_readLine_50 (fun H locs M => ?_)
      refine lv_aload_n hx hb dX5_readLine_53 rfl (lv_at hl 0 rfl) ?_
      obtain ⟨v16, g_v16, hs⟩ := bd hs
      obtain ⟨a17, e_a17, k_a17, g_v16⟩ := cV_some g_v16
      obtain rfl := Option.some.inj e_a17
      refine ca_Vi (bq := th) (As := []) (rest := []) F M (c_X5_readRest g_v16) mf_X5_readRest t_569 k_a17 rfl ⟨by decide, by decide⟩ ⟨rfl, rfl⟩ ⟨Nat.zero_le _, Nat.zero_le _⟩ hl.1 rfl (by decide) dX5_readLine_54 (fun H locs M => ?_)
      by_cases zg : v16.1 = 0 ∨ v16.1 = 1
      · rw [if_pos zg] at hs
        obtain rfl := Option.some.inj hs
        exact re_z F M zg dX5_readLine_57
      · rw [if_neg zg] at hs; cases hs
  · rw [if_neg c5] at hs
    refine lv_aload_n hx hb dX5_readLine_20 rfl (lv_at hl 0 rfl) ?_
    obtain ⟨v19, g_v19, hs⟩ := bd hs
    refine ro_gR F M fg_5_1 t_186 g_v19 dX5_readLine_21 ?_
    refine lv_iconst (v := 0) hx hb dX5_readLine_24 (by decide) ?_
    obtain ⟨h20, g_h20, hs⟩ := bd hs
    refine ro_pIN F M fg_2_0 fp_2_0 rfl tN_92 g_h20 dX5_readLine_25 (fun H locs M => ?_)
    refine lv_aload_n hx hb dX5_readLine_28 rfl (lv_at hl 0 rfl) ?_
    obtain ⟨v21, g_v21, hs⟩ := bd hs
    obtain ⟨a22, e_a22, k_a22, g_v21⟩ := cV_some g_v21
    obtain rfl := Option.some.inj e_a22
    refine ca_Vi (bq := th) (As := []) (rest := []) F M (c_X5_readContact g_v21) mf_X5_readContact t_548 k_a22 rfl ⟨by decide, by decide⟩ ⟨rfl, rfl⟩ ⟨Nat.zero_le _, Nat.zero_le _⟩ hl.1 rfl (by decide) dX5_readLine_29 (fun H locs M => ?_)
    by_cases zg : v21.1 = 0 ∨ v21.1 = 1
    · rw [if_pos zg] at hs
      obtain rfl := Option.some.inj hs
      exact re_z F M zg dX5_readLine_32
    · rw [if_neg zg] at hs; cases hs
abbrev rm_X5_readTape : Room := { frames := 6, cells := 0, slots := 0, locals := 127 }
theorem mf_X5_readTape : MV 5 yX5_readTape cX5_readTape 4 (some .boolean) 0 RX5 := ⟨t_478, t_477, tS_7, t_4, ⟨by decide +kernel, by decide +kernel, by decide +kernel⟩, rfl, by decide⟩
def s_X5_readTape_L25 (N : Nat) : Nat → Nat → Int32 → Int32 → IH → Option ((Int32 × IH) ⊕ (IH))
  | 0, _, _, _, _ => none
  | n + 1, th, x1, x2, h => (gR h 5 0 (some th)).bind fun v6 => (gI h 10 1 v6).bind fun v7 => if v7 ≤ x1 then some (.inr h) else if 1000 ≤ x2 then some (.inr h) else (gR h 5 0 (some th)).bind fun v10 => (cV h 10 v10 fun a27 => s_X10_lineEnd N h a27 x1).bind fun v11 => (gR h 5 0 (some th)).bind fun v12 => (cV h 10 v12 fun a26 => s_X10_startWords h a26 x1 v11).bind fun v13 => (cV v13 5 (some th) fun a25 => s_X5_readLine N v13 a25 ).bind fun v14 => if v14.1 = 0 then (gR v14.2 5 0 (some th)).bind fun v16 => (gI v14.2 10 4 v16).bind fun v17 => (cV v14.2 5 (some th) fun a19 => s_X5_addWrong v14.2 a19 (((1000 * x2) + v17) - x1)).bind fun v18 => s_X5_readTape_L25 N n th (v11 + 1) (x2 + 1) v18 else (gR v14.2 5 4 (some th)).bind fun v20 => (gR v14.2 5 1 (some th)).bind fun v21 => (cV v14.2 4 v20 fun a24 => s_X4_add v14.2 a24 v21).bind fun v22 => if v22.1 = 0 then some (.inl (0, v22.2)) else s_X5_readTape_L25 N n th (v11 + 1) (x2 + 1) v22.2
def s_X5_readTape (N : Nat) (h : IH) (th : Nat) : Option (Int32 × IH) := (gR h 5 4 (some th)).bind fun v1 => (pI h 4 1 v1 0).bind fun h2 => (gR h2 5 4 (some th)).bind fun v3 => (pZ h2 4 2 v3 0).bind fun h4 => (pI h4 5 3 (some th) 0).bind fun h5 => (s_X5_readTape_L25 N N th 0 0 h5).bind fun q28 => Sum.elim (fun v => some v) (fun t29 => some (1, t29)) q28
set_option maxHeartbeats 4000000 in
set_option maxRecDepth 100000 in
theorem w_X5_readTape_L25 {p : Program} {l : Launch} {e : Env} {s : State} {m : MethodId} {args : Array Value} {below : List Frame} {meth : Method} {c : Code} {D : va_G} {cy : Nat → ClassId} {A : Nat → Prop} {H0 : Heap} {N th : Nat} {qF : Int32 × IH} (F : Fx p s m args meth c D cy A H0 yX5_readTape cX5_readTape 4 (some .boolean)) : ∀ (n : Nat) (x1 : Int32) (x2 : Int32) (h : IH) (ls : Array Slot) (H : Heap) (locs : List Loc) (q : (Int32 × IH) ⊕ (IH)), s_X5_readTape_L25 N n th x1 x2 h = some q → lv_has ls 4 [(0, .ref th), (1, .int x1), (2, .int x2)] → Mo D cy A H0 h H locs → (∀ (t : IH) (ls : Array Slot) (H : Heap) (locs : List Loc), q = .inr t → lv_has ls 4 [] → Mo D cy A H0 t H locs → W p l e rm_X5_readTape s m args below meth c H locs 0 0 (MQ below (QR D cy qF.2 A (some (.int qF.1))) args s 0 0 A) (F0 m 116 ls [])) → (∀ v, q = .inl v → v = qF) → W p l e rm_X5_readTape s m args below meth c H locs 0 0 (MQ below (QR D cy qF.2 A (some (.int qF.1))) args s 0 0 A) (F0 m 25 ls []) := by
  intro n
  induction n with
  | zero => intro x1 x2 h ls H locs q hs; rw [s_X5_readTape_L25.eq_1] at hs; cases hs
  | succ n ih =>
    intro x1 x2 h ls H locs q hs hl M kx kr
    obtain ⟨hx, hb, hr, hml, hown, hlk, hts, hK, hN, hA, hH⟩ := id F
    rw [s_X5_readTape_L25.eq_2] at hs
    refine lv_iload_n hx hb dX5_readTape_25 rfl (lv_at hl 1 rfl) ?_
    refine lv_aload_n hx hb dX5_readTape_26 rfl (lv_at hl 0 rfl) ?_
    obtain ⟨v6, g_v6, hs⟩ := bd hs
    refine ro_gR F M fg_5_0 t_185 g_v6 dX5_readTape_27 ?_
    obtain ⟨v7, g_v7, hs⟩ := bd hs
    refine ro_gIN F M fg_10_1 tN_38 g_v7 dX5_readTape_30 ?_
    refine lv_icmp_ge (tgt := 116) hx hb dX5_readTape_33 (by decide) (fun c8 => ?_) (fun c8 => ?_)
    · rw [if_pos c8] at hs
      exact kx h _ _ _ (Option.some.inj hs).symm (lv_sub hl [] rfl) M
    · rw [if_neg c8] at hs
      refine lv_iload_n hx hb dX5_readTape_36 rfl (lv_at hl 2 rfl) ?_
      refine lv_sipush (v := 1000) hx hb dX5_readTape_37 (by decide) ?_
      refine lv_icmp_ge (tgt := 116) hx hb dX5_readTape_40 (by decide) (fun c9 => ?_) (fun c9 => ?_)
      · rw [if_pos c9] at hs
        exact kx h _ _ _ (Option.some.inj hs).symm (lv_sub hl [] rfl) M
      · rw [if_neg c9] at hs
        refine lv_aload_n hx hb dX5_readTape_43 rfl (lv_at hl 0 rfl) ?_
        obtain ⟨v10, g_v10, hs⟩ := bd hs
        refine ro_gR F M fg_5_0 t_185 g_v10 dX5_readTape_44 ?_
        refine lv_iload_n hx hb dX5_readTape_47 rfl (lv_at hl 1 rfl) ?_
        obtain ⟨v11, g_v11, hs⟩ := bd hs
        obtain ⟨a27, e_a27, k_a27, g_v11⟩ := cV_some g_v11
        refine ca_VNi (bq := a27) (As := [.int x1]) (rest := []) F M (c_X10_lineEnd g_v11) mf_X10_lineEnd tN_479 k_a27 rfl ⟨by decide, by decide⟩ ⟨rfl, rfl⟩ ⟨Nat.zero_le _, Nat.zero_le _⟩ hl.1 (by rw [e_a27]; rfl) (by decide) dX5_readTape_48 (fun H locs M => ?_)
        refine lv_istore_n (i := 3) (lv' := [(3, .int v11), (0, .ref th), (1, .int x1), (2, .int x2)]) hx hb dX5_readTape_51 rfl hl (by decide) rfl (fun ls hl => ?_)
        refine lv_aload_n hx hb dX5_readTape_52 rfl (lv_at hl 1 rfl) ?_
        obtain ⟨v12, g_v12, hs⟩ := bd hs
        refine ro_gR F M fg_5_0 t_185 g_v12 dX5_readTape_53 ?_
        refine lv_iload_n hx hb dX5_readTape_56 rfl (lv_at hl 2 rfl) ?_
        refine lv_iload_n hx hb dX5_readTape_57 rfl (lv_at hl 0 rfl) ?_
        obtain ⟨v13, g_v13, hs⟩ := bd hs
        obtain ⟨a26, e_a26, k_a26, g_v13⟩ := cV_some g_v13
        refine ca_VNv (bq := a26) (As := [.int x1, .int v11]) (rest := []) F M (c_X10_startWords g_v13) mf_X10_startWords tN_483 k_a26 rfl ⟨by decide, by decide⟩ ⟨rfl, rfl⟩ ⟨Nat.zero_le _, Nat.zero_le _⟩ hl.1 (by rw [e_a26]; rfl) (by decide) dX5_readTape_58 (fun H locs M => ?_)
        refine lv_aload_n hx hb dX5_readTape_61 rfl (lv_at hl 1 rfl) ?_
        obtain ⟨v14, g_v14, hs⟩ := bd hs
        obtain ⟨a25, e_a25, k_a25, g_v14⟩ := cV_some g_v14
        obtain rfl := Option.some.inj e_a25
        refine ca_Vi (bq := th) (As := []) (rest := []) F M (c_X5_readLine g_v14) mf_X5_readLine t_487 k_a25 rfl ⟨by decide, by decide⟩ ⟨rfl, rfl⟩ ⟨Nat.zero_le _, Nat.zero_le _⟩ hl.1 rfl (by decide) dX5_readTape_62 (fun H locs M => ?_)
        refine lv_if_ne (tgt := 90) hx hb dX5_readTape_65 (by decide) (fun c15 => ?_) (fun c15 => ?_)
        · rw [if_neg c15] at hs
          refine lv_aload_n hx hb dX5_readTape_90 rfl (lv_at hl 1 rfl) ?_
          obtain ⟨v20, g_v20, hs⟩ := bd hs
          refine ro_gR F M fg_5_4 t_191 g_v20 dX5_readTape_91 ?_
          refine lv_aload_n hx hb dX5_readTape_94 rfl (lv_at hl 1 rfl) ?_
          obtain ⟨v21, g_v21, hs⟩ := bd hs
          refine ro_gR F M fg_5_1 t_186 g_v21 dX5_readTape_95 ?_
          obtain ⟨v22, g_v22, hs⟩ := bd hs
          obtain ⟨a24, e_a24, k_a24, g_v22⟩ := cV_some g_v22
          refine ca_VNi (bq := a24) (As := [va_rf v21]) (rest := []) F M (c_X4_add g_v22) mf_X4_add tN_578 k_a24 rfl ⟨by decide, by decide⟩ ⟨rfl, rfl⟩ ⟨Nat.zero_le _, Nat.zero_le _⟩ hl.1 (by rw [e_a24]; rfl) (by decide) dX5_readTape_98 (fun H locs M => ?_)
          refine lv_if_ne (tgt := 106) hx hb dX5_readTape_101 (by decide) (fun c23 => ?_) (fun c23 => ?_)
          · rw [if_neg c23] at hs
            refine lv_iload_n hx hb dX5_readTape_106 rfl (lv_at hl 0 rfl) ?_
            refine lv_iconst (v := 1) hx hb dX5_readTape_107 (by decide) ?_
            refine lv_iadd hx hb dX5_readTape_108 ?_
            refine lv_istore_n (i := 1) (lv' := [(1, .int (v11 + 1)), (3, .int v11), (0, .ref th), (2, .int x2)]) hx hb dX5_readTape_109 rfl hl (by decide) rfl (fun ls hl => ?_)
            refine lv_iinc (v := x2 + 1) (lv' := [(2, .int (x2 + 1)), (1, .int (v11 + 1)), (3, .int v11), (0, .ref th)]) hx hb dX5_readTape_110 hl (k := 3) rfl rfl (by decide) rfl (fun ls hl => ?_)
            refine lv_goto (tgt := 25) hx hb dX5_readTape_113 (by decide) ?_
            exact ih (v11 + 1) (x2 + 1) v22.2 _ _ _ _ hs (lv_sub hl [3, 1, 0] rfl) M kx kr
          · rw [if_pos c23] at hs
            refine lv_iconst (v := 0) hx hb dX5_readTape_104 (by decide) ?_
            obtain rfl := kr _ (Option.some.inj hs).symm
            exact re_z F M (Or.inl rfl) dX5_readTape_105
        · rw [if_pos c15] at hs
          refine lv_aload_n hx hb dX5_readTape_68 rfl (lv_at hl 1 rfl) ?_
          refine lv_sipush (v := 1000) hx hb dX5_readTape_69 (by decide) ?_
          refine lv_iload_n hx hb dX5_readTape_72 rfl (lv_at hl 3 rfl) ?_
          refine lv_imul hx hb dX5_readTape_73 ?_
          refine lv_aload_n hx hb dX5_readTape_74 rfl (lv_at hl 1 rfl) ?_
          obtain ⟨v16, g_v16, hs⟩ := bd hs
          refine ro_gR F M fg_5_0 t_185 g_v16 dX5_readTape_75 ?_
          obtain ⟨v17, g_v17, hs⟩ := bd hs
          refine ro_gIN F M fg_10_4 tN_43 g_v17 dX5_readTape_78 ?_
          refine lv_iadd hx hb dX5_readTape_81 ?_
          refine lv_iload_n hx hb dX5_readTape_82 rfl (lv_at hl 2 rfl) ?_
          refine lv_isub hx hb dX5_readTape_83 ?_
          obtain ⟨v18, g_v18, hs⟩ := bd hs
          obtain ⟨a19, e_a19, k_a19, g_v18⟩ := cV_some g_v18
          obtain rfl := Option.some.inj e_a19
          refine ca_Vv (bq := th) (As := [.int (((1000 * x2) + v17) - x1)]) (rest := []) F M (c_X5_addWrong g_v18) mf_X5_addWrong t_574 k_a19 rfl ⟨by decide, by decide⟩ ⟨rfl, rfl⟩ ⟨Nat.zero_le _, Nat.zero_le _⟩ hl.1 rfl (by decide) dX5_readTape_84 (fun H locs M => ?_)
          refine lv_goto (tgt := 106) hx hb dX5_readTape_87 (by decide) ?_
          refine lv_iload_n hx hb dX5_readTape_106 rfl (lv_at hl 0 rfl) ?_
          refine lv_iconst (v := 1) hx hb dX5_readTape_107 (by decide) ?_
          refine lv_iadd hx hb dX5_readTape_108 ?_
          refine lv_istore_n (i := 1) (lv' := [(1, .int (v11 + 1)), (3, .int v11), (0, .ref th), (2, .int x2)]) hx hb dX5_readTape_109 rfl hl (by decide) rfl (fun ls hl => ?_)
          refine lv_iinc (v := x2 + 1) (lv' := [(2, .int (x2 + 1)), (1, .int (v11 + 1)), (3, .int v11), (0, .ref th)]) hx hb dX5_readTape_110 hl (k := 3) rfl rfl (by decide) rfl (fun ls hl => ?_)
          refine lv_goto (tgt := 25) hx hb dX5_readTape_113 (by decide) ?_
          exact ih (v11 + 1) (x2 + 1) v18 _ _ _ _ hs (lv_sub hl [3, 1, 0] rfl) M kx kr
set_option maxHeartbeats 4000000 in
set_option maxRecDepth 100000 in
theorem c_X5_readTape {l : Launch} {D : va_G} {cy : Nat → ClassId} {sz N : Nat} {h : IH} {th : Nat} {qF : Int32 × IH} (hs : s_X5_readTape N h th = some qF) : Ct l D cy yX5_readTape cX5_readTape 4 (some .boolean) rm_X5_readTape h sz [.ref th] qF.2 (some (.int qF.1)) := by
  refine ct_start (by decide +kernel) [(0, .ref th)] (Nat.le_of_ble_eq_true rfl) rfl ?_
  intro p e s m args below meth c A H0 ls F hin hsz M hl
  obtain ⟨hx, hb, hr, hml, hown, hlk, hts, hK, hN, hA, hH⟩ := id F
  generalize s.heap = H at M ⊢
  generalize ([] : List Loc) = locs at M ⊢
  unfold s_X5_readTape at hs
  refine lv_aload_n hx hb dX5_readTape_0 rfl (lv_at hl 0 rfl) ?_
  obtain ⟨v1, g_v1, hs⟩ := bd hs
  refine ro_gR F M fg_5_4 t_191 g_v1 dX5_readTape_1 ?_
  refine lv_iconst (v := 0) hx hb dX5_readTape_4 (by decide) ?_
  obtain ⟨h2, g_h2, hs⟩ := bd hs
  refine ro_pIN F M fg_4_1 fp_4_1 rfl tN_167 g_h2 dX5_readTape_5 (fun H locs M => ?_)
  refine lv_aload_n hx hb dX5_readTape_8 rfl (lv_at hl 0 rfl) ?_
  obtain ⟨v3, g_v3, hs⟩ := bd hs
  refine ro_gR F M fg_5_4 t_191 g_v3 dX5_readTape_9 ?_
  refine lv_iconst (v := 0) hx hb dX5_readTape_12 (by decide) ?_
  obtain ⟨h4, g_h4, hs⟩ := bd hs
  refine ro_pZN F M fg_4_2 fp_4_2 rfl tN_175 g_h4 dX5_readTape_13 (fun H locs M => ?_)
  refine lv_aload_n hx hb dX5_readTape_16 rfl (lv_at hl 0 rfl) ?_
  refine lv_iconst (v := 0) hx hb dX5_readTape_17 (by decide) ?_
  obtain ⟨h5, g_h5, hs⟩ := bd hs
  refine ro_pI F M fg_5_3 fp_5_3 rfl t_189 g_h5 dX5_readTape_18 (fun H locs M => ?_)
  refine lv_iconst (v := 0) hx hb dX5_readTape_21 (by decide) ?_
  refine lv_istore_n (i := 1) (lv' := [(1, .int 0), (0, .ref th)]) hx hb dX5_readTape_22 rfl hl (by decide) rfl (fun ls hl => ?_)
  refine lv_iconst (v := 0) hx hb dX5_readTape_23 (by decide) ?_
  refine lv_istore_n (i := 2) (lv' := [(2, .int 0), (1, .int 0), (0, .ref th)]) hx hb dX5_readTape_24 rfl hl (by decide) rfl (fun ls hl => ?_)
  obtain ⟨q28, g_q28, hs⟩ := bd hs
  refine w_X5_readTape_L25 F N 0 0 h5 _ _ _ q28 g_q28 (lv_sub hl [2, 1, 0] rfl) M (fun t29 ls H locs eq_ hl M => ?_) (fun v eq_ => ?_)
  · subst eq_
    have hs := se_r hs
    refine lv_iconst (v := 1) hx hb dX5_readTape_116 (by decide) ?_
    obtain rfl := Option.some.inj hs
    exact re_z F M (Or.inr rfl) dX5_readTape_117
  · subst eq_
    have hs := se_l hs
    exact (Option.some.inj hs)
abbrev rm_X11_log : Room := { frames := 7, cells := 0, slots := 0, locals := 150 }
theorem mf_X11_log : MV 11 yX11_log cX11_log 5 (some .int) 2 RX11 := ⟨t_474, t_472, t_473, t_1, ⟨by decide +kernel, by decide +kernel, by decide +kernel⟩, rfl, by decide⟩
def s_X11_log (N : Nat) (h : IH) (th : Nat) (a0 : Int32) (a1 : Int32) : Option (Int32 × IH) := (gR h 11 1 (some th)).bind fun v1 => (cV h 7 v1 fun a33 => s_X7_at h a33 a0).bind fun v2 => ((if v2 = none then some ((-1), h) else (s_X11_isBelow h a1 3).bind fun v4 => if v4 = 0 then some ((-1), h) else (gI h 9 0 v2).bind fun v6 => if v6 = 4 then some ((-2), h) else (gR h 11 2 (some th)).bind fun v8 => (cV h 5 v8 fun a15 => s_X5_readTape N h a15 ).bind fun v9 => ((if v9.1 = 0 then some (-3) else (gR v9.2 11 2 (some th)).bind fun v11 => (gR v9.2 5 4 v11).bind fun v12 => (gI v9.2 4 1 v12).bind fun v13 => some v13) : Option (Int32)).bind fun q14 => some (q14, v9.2)) : Option (Int32 × IH)).bind fun q16 => (gR q16.2 11 0 (some th)).bind fun v17 => (pI q16.2 10 1 v17 0).bind fun h18 => if v2 = none then (gR h18 11 2 (some th)).bind fun v20 => (pI h18 5 3 v20 0).bind fun h21 => some (q16.1, h21) else if 0 ≤ q16.1 then (gR h18 11 2 (some th)).bind fun v23 => (gR h18 11 2 (some th)).bind fun v24 => (gR h18 5 4 v24).bind fun v25 => (cV h18 9 v2 fun a30 => s_X9_putLog h18 a30 a1 v25).bind fun v26 => (pR v26.2 5 4 v23 v26.1).bind fun h27 => (gR h27 11 4 (some th)).bind fun v28 => (pZ h27 0 4 v28 0).bind fun h29 => some (q16.1, h29) else (gR h18 11 2 (some th)).bind fun v31 => (pI h18 5 3 v31 0).bind fun h32 => some (q16.1, h32)
set_option maxHeartbeats 4000000 in
set_option maxRecDepth 100000 in
theorem c_X11_log {l : Launch} {D : va_G} {cy : Nat → ClassId} {sz N : Nat} {h : IH} {th : Nat} {a0 : Int32} {a1 : Int32} {qF : Int32 × IH} (hs : s_X11_log N h th a0 a1 = some qF) : Ct l D cy yX11_log cX11_log 5 (some .int) rm_X11_log h sz [.ref th, .int a0, .int a1] qF.2 (some (.int qF.1)) := by
  refine ct_start (by decide +kernel) [(0, .ref th), (1, .int a0), (2, .int a1)] (Nat.le_of_ble_eq_true rfl) rfl ?_
  intro p e s m args below meth c A H0 ls F hin hsz M hl
  obtain ⟨hx, hb, hr, hml, hown, hlk, hts, hK, hN, hA, hH⟩ := id F
  generalize s.heap = H at M ⊢
  generalize ([] : List Loc) = locs at M ⊢
  unfold s_X11_log at hs
  refine lv_aload_n hx hb dX11_log_0 rfl (lv_at hl 0 rfl) ?_
  obtain ⟨v1, g_v1, hs⟩ := bd hs
  refine ro_gR F M fg_11_1 t_331 g_v1 dX11_log_1 ?_
  refine lv_iload_n hx hb dX11_log_4 rfl (lv_at hl 1 rfl) ?_
  obtain ⟨v2, g_v2, hs⟩ := bd hs
  obtain ⟨a33, e_a33, k_a33, g_v2⟩ := cV_some g_v2
  refine ca_VNa (bq := a33) (As := [.int a0]) (rest := []) F M (c_X7_at g_v2) mf_X7_at tN_467 k_a33 rfl ⟨by decide, by decide⟩ ⟨rfl, rfl⟩ ⟨Nat.zero_le _, Nat.zero_le _⟩ hl.1 (by rw [e_a33]; rfl) (by decide) dX11_log_5 (fun H locs M => ?_)
  refine lo_astore_n (i := 3) (lv' := [(3, va_rf v2), (0, .ref th), (1, .int a0), (2, .int a1)]) hx hb dX11_log_8 rfl hl (by decide) rfl (fun ls hl => ?_)
  refine lo_aload_n hx hb dX11_log_9 rfl (lv_at hl 0 rfl) ?_
  obtain ⟨q16, hsq16, hs⟩ := bd hs
  have KJ69 : ∀ (ls : Array Slot) (H : Heap) (locs : List Loc), lv_has ls 5 [(0, .ref th), (2, .int a1), (3, va_rf v2), (4, .int q16.1)] → Mo D cy A H0 q16.2 H locs → W p l e rm_X11_log s m args below meth c H locs 0 0 (MQ below (QR D cy qF.2 A (some (.int qF.1))) args s 0 0 A) (F0 m 69 ls []) := by
    intro ls H locs hl M
    refine lv_aload_n hx hb dX11_log_69 rfl (lv_at hl 0 rfl) ?_
    obtain ⟨v17, g_v17, hs⟩ := bd hs
    refine ro_gR F M fg_11_0 t_330 g_v17 dX11_log_70 ?_
    refine lv_iconst (v := 0) hx hb dX11_log_73 (by decide) ?_
    obtain ⟨h18, g_h18, hs⟩ := bd hs
    refine ro_pIN F M fg_10_1 fp_10_1 rfl tN_39 g_h18 dX11_log_74 (fun H locs M => ?_)
    refine lo_aload_n hx hb dX11_log_77 rfl (lv_at hl 2 rfl) ?_
    refine lo_ifnull (tgt := 86) hx hb dX11_log_78 (by decide) (fun c19 => ?_) (fun c19 => ?_)
    · rw [if_pos c19] at hs
      refine lv_aload_n hx hb dX11_log_86 rfl (lv_at hl 0 rfl) ?_
      obtain ⟨v20, g_v20, hs⟩ := bd hs
      refine ro_gR F M fg_11_2 t_332 g_v20 dX11_log_87 ?_
      refine lv_iconst (v := 0) hx hb dX11_log_90 (by decide) ?_
      obtain ⟨h21, g_h21, hs⟩ := bd hs
      refine ro_pIN F M fg_5_3 fp_5_3 rfl tN_190 g_h21 dX11_log_91 (fun H locs M => ?_)
      refine lv_iload hx hb dX11_log_94 (lv_at hl 3 rfl) ?_
      obtain rfl := Option.some.inj hs
      exact re_i F M dX11_log_96
    · rw [if_neg c19] at hs
      refine lv_iload hx hb dX11_log_81 (lv_at hl 3 rfl) ?_
      refine lv_if_ge (tgt := 97) hx hb dX11_log_83 (by decide) (fun c22 => ?_) (fun c22 => ?_)
      · rw [if_pos c22] at hs
        refine lv_aload_n hx hb dX11_log_97 rfl (lv_at hl 0 rfl) ?_
        obtain ⟨v23, g_v23, hs⟩ := bd hs
        refine ro_gR F M fg_11_2 t_332 g_v23 dX11_log_98 ?_
        refine lo_aload_n hx hb dX11_log_101 rfl (lv_at hl 2 rfl) ?_
        refine lv_iload_n hx hb dX11_log_102 rfl (lv_at hl 1 rfl) ?_
        refine lv_aload_n hx hb dX11_log_103 rfl (lv_at hl 0 rfl) ?_
        obtain ⟨v24, g_v24, hs⟩ := bd hs
        refine ro_gR F M fg_11_2 t_332 g_v24 dX11_log_104 ?_
        obtain ⟨v25, g_v25, hs⟩ := bd hs
        refine ro_gRN F M fg_5_4 tN_192 g_v25 dX11_log_107 ?_
        obtain ⟨v26, g_v26, hs⟩ := bd hs
        obtain ⟨a30, e_a30, k_a30, g_v26⟩ := cV_some g_v26
        refine ca_VNa (bq := a30) (As := [.int a1, va_rf v25]) (rest := [va_rf v23]) F M (c_X9_putLog g_v26) mf_X9_putLog tN_586 k_a30 rfl ⟨by decide, by decide⟩ ⟨rfl, rfl⟩ ⟨Nat.zero_le _, Nat.zero_le _⟩ hl.1 (by rw [e_a30]; rfl) (by simp [cat_rf, cat_i, cat_j, cat_r]) dX11_log_110 (fun H locs M => ?_)
        obtain ⟨h27, g_h27, hs⟩ := bd hs
        refine ro_pRN F M fg_5_4 fp_5_4 rfl tN_192 g_h27 dX11_log_113 (fun H locs M => ?_)
        refine lv_aload_n hx hb dX11_log_116 rfl (lv_at hl 0 rfl) ?_
        obtain ⟨v28, g_v28, hs⟩ := bd hs
        refine ro_gR F M fg_11_4 t_334 g_v28 dX11_log_117 ?_
        refine lv_iconst (v := 0) hx hb dX11_log_120 (by decide) ?_
        obtain ⟨h29, g_h29, hs⟩ := bd hs
        refine ro_pZN F M fg_0_4 fp_0_4 rfl tN_300 g_h29 dX11_log_121 (fun H locs M => ?_)
        refine lv_iload hx hb dX11_log_124 (lv_at hl 3 rfl) ?_
        obtain rfl := Option.some.inj hs
        exact re_i F M dX11_log_126
      · rw [if_neg c22] at hs
        refine lv_aload_n hx hb dX11_log_86 rfl (lv_at hl 0 rfl) ?_
        obtain ⟨v31, g_v31, hs⟩ := bd hs
        refine ro_gR F M fg_11_2 t_332 g_v31 dX11_log_87 ?_
        refine lv_iconst (v := 0) hx hb dX11_log_90 (by decide) ?_
        obtain ⟨h32, g_h32, hs⟩ := bd hs
        refine ro_pIN F M fg_5_3 fp_5_3 rfl tN_190 g_h32 dX11_log_91 (fun H locs M => ?_)
        refine lv_iload hx hb dX11_log_94 (lv_at hl 3 rfl) ?_
        obtain rfl := Option.some.inj hs
        exact re_i F M dX11_log_96
  clear hs
  have hs := hsq16
  refine lo_ifnull (tgt := 21) hx hb dX11_log_10 (by decide) (fun c3 => ?_) (fun c3 => ?_)
  · rw [if_pos c3] at hs
    refine lv_iconst (v := (-1)) hx hb dX11_log_21 (by decide) ?_
    refine lv_istore (i := 4) (lv' := [(4, .int (-1)), (3, va_rf v2), (0, .ref th), (1, .int a0), (2, .int a1)]) hx hb dX11_log_22 hl (by decide) (by simp [cat_rf, cat_i, cat_j, cat_r]) (fun ls hl => ?_)
    refine lv_goto (tgt := 69) hx hb dX11_log_24 (by decide) ?_
    obtain rfl := Option.some.inj hs
    exact KJ69 _ _ _ (lv_sub hl [2, 4, 1, 0] rfl) M
  · rw [if_neg c3] at hs
    refine lv_iload_n hx hb dX11_log_13 rfl (lv_at hl 3 rfl) ?_
    refine lv_iconst (v := 3) hx hb dX11_log_14 (by decide) ?_
    obtain ⟨v4, g_v4, hs⟩ := bd hs
    refine ca_Si (As := [.int a1, .int 3]) (rest := []) F M (c_X11_isBelow g_v4) mf_X11_isBelow t_404 rfl ⟨by decide, by decide⟩ ⟨rfl, rfl⟩ ⟨Nat.zero_le _, Nat.zero_le _⟩ hl.1 rfl (by decide) dX11_log_15 (fun H locs M => ?_)
    refine lv_if_ne (tgt := 27) hx hb dX11_log_18 (by decide) (fun c5 => ?_) (fun c5 => ?_)
    · rw [if_neg c5] at hs
      refine lo_aload_n hx hb dX11_log_27 rfl (lv_at hl 0 rfl) ?_
      obtain ⟨v6, g_v6, hs⟩ := bd hs
      refine ro_gIN F M fg_9_0 tN_422 g_v6 dX11_log_28 ?_
      refine lv_iconst (v := 4) hx hb dX11_log_31 (by decide) ?_
      refine lv_icmp_ne (tgt := 42) hx hb dX11_log_32 (by decide) (fun c7 => ?_) (fun c7 => ?_)
      · rw [if_neg c7] at hs
        refine lv_aload_n hx hb dX11_log_42 rfl (lv_at hl 1 rfl) ?_
        obtain ⟨v8, g_v8, hs⟩ := bd hs
        refine ro_gR F M fg_11_2 t_332 g_v8 dX11_log_43 ?_
        obtain ⟨v9, g_v9, hs⟩ := bd hs
        obtain ⟨a15, e_a15, k_a15, g_v9⟩ := cV_some g_v9
        refine ca_VNi (bq := a15) (As := []) (rest := []) F M (c_X5_readTape g_v9) mf_X5_readTape tN_475 k_a15 rfl ⟨by decide, by decide⟩ ⟨rfl, rfl⟩ ⟨Nat.zero_le _, Nat.zero_le _⟩ hl.1 (by rw [e_a15]; rfl) (by decide) dX11_log_46 (fun H locs M => ?_)
        obtain ⟨q14, hsq14, hs⟩ := bd hs
        have KJ67 : ∀ (ls : Array Slot) (H : Heap) (locs : List Loc), lv_has ls 5 [(0, .ref th), (2, .int a1), (3, va_rf v2)] → Mo D cy A H0 v9.2 H locs → W p l e rm_X11_log s m args below meth c H locs 0 0 (MQ below (QR D cy qF.2 A (some (.int qF.1))) args s 0 0 A) (F0 m 67 ls [.int q14]) := by
          intro ls H locs hl M
          refine lv_istore (i := 4) (lv' := [(4, .int q14), (0, .ref th), (2, .int a1), (3, va_rf v2)]) hx hb dX11_log_67 hl (by decide) (by simp [cat_rf, cat_i, cat_j, cat_r]) (fun ls hl => ?_)
          obtain rfl := Option.some.inj hs
          exact KJ69 _ _ _ (lv_sub hl [1, 2, 3, 0] rfl) M
        clear hs
        have hs := hsq14
        refine lv_if_eq (tgt := 65) hx hb dX11_log_49 (by decide) (fun c10 => ?_) (fun c10 => ?_)
        · rw [if_pos c10] at hs
          refine lv_bipush (v := (-3)) hx hb dX11_log_65 (by decide) ?_
          obtain rfl := Option.some.inj hs
          exact KJ67 _ _ _ (lv_sub hl [1, 3, 0] rfl) M
        · rw [if_neg c10] at hs
          refine lv_aload_n hx hb dX11_log_52 rfl (lv_at hl 1 rfl) ?_
          obtain ⟨v11, g_v11, hs⟩ := bd hs
          refine ro_gR F M fg_11_2 t_332 g_v11 dX11_log_53 ?_
          obtain ⟨v12, g_v12, hs⟩ := bd hs
          refine ro_gRN F M fg_5_4 tN_192 g_v12 dX11_log_56 ?_
          obtain ⟨v13, g_v13, hs⟩ := bd hs
          refine ro_gIN F M fg_4_1 tN_172 g_v13 dX11_log_59 ?_
          refine lv_goto (tgt := 67) hx hb dX11_log_62 (by decide) ?_
          obtain rfl := Option.some.inj hs
          exact KJ67 _ _ _ (lv_sub hl [1, 3, 0] rfl) M
      · rw [if_pos c7] at hs
        refine lv_bipush (v := (-2)) hx hb dX11_log_35 (by decide) ?_
        refine lv_istore (i := 4) (lv' := [(4, .int (-2)), (3, va_rf v2), (0, .ref th), (1, .int a0), (2, .int a1)]) hx hb dX11_log_37 hl (by decide) (by simp [cat_rf, cat_i, cat_j, cat_r]) (fun ls hl => ?_)
        refine lv_goto (tgt := 69) hx hb dX11_log_39 (by decide) ?_
        obtain rfl := Option.some.inj hs
        exact KJ69 _ _ _ (lv_sub hl [2, 4, 1, 0] rfl) M
    · rw [if_pos c5] at hs
      refine lv_iconst (v := (-1)) hx hb dX11_log_21 (by decide) ?_
      refine lv_istore (i := 4) (lv' := [(4, .int (-1)), (3, va_rf v2), (0, .ref th), (1, .int a0), (2, .int a1)]) hx hb dX11_log_22 hl (by decide) (by simp [cat_rf, cat_i, cat_j, cat_r]) (fun ls hl => ?_)
      refine lv_goto (tgt := 69) hx hb dX11_log_24 (by decide) ?_
      obtain rfl := Option.some.inj hs
      exact KJ69 _ _ _ (lv_sub hl [2, 4, 1, 0] rfl) M
abbrev rm_X3_codeOf : Room := { frames := 5, cells := 0, slots := 0, locals := 107 }
theorem mf_X3_codeOf : MS yX3_codeOf cX3_codeOf 3 (some .int) 1 := ⟨t_607, t_606, t_7, ⟨by decide +kernel, by decide +kernel, by decide +kernel⟩⟩
def s_X3_codeOf (N : Nat) (h : IH) (a0 : Option Nat) : Option (Int32) := (cV h 10 a0 fun a34 => s_X10_wordAsNumber N h a34 4).bind fun v1 => if (lg_cmp v1 (-1)) = 0 then (cV h 10 a0 fun a33 => s_X10_wordIs N h a33 3).bind fun v3 => ((if v3 = 0 then (cV h 10 a0 fun a31 => s_X10_wordIs N h a31 4).bind fun v5 => if v5 = 0 then (cV h 10 a0 fun a30 => s_X10_wordIs N h a30 5).bind fun v7 => if v7 = 0 then (cV h 10 a0 fun a29 => s_X10_wordIs N h a29 6).bind fun v9 => if v9 = 0 then (cV h 10 a0 fun a28 => s_X10_wordIs N h a28 7).bind fun v11 => if v11 = 0 then (cV h 10 a0 fun a27 => s_X10_wordIs N h a27 8).bind fun v13 => if v13 = 0 then (cV h 10 a0 fun a26 => s_X10_wordIs N h a26 9).bind fun v15 => if v15 = 0 then (cV h 10 a0 fun a25 => s_X10_wordIs N h a25 10).bind fun v17 => if v17 = 0 then (cV h 10 a0 fun a24 => s_X10_wordIs N h a24 11).bind fun v19 => if v19 = 0 then (cV h 10 a0 fun a23 => s_X10_wordIs N h a23 12).bind fun v21 => if v21 = 0 then some (-11) else some (-10) else some (-9) else some (-8) else some (-7) else some (-6) else some (-5) else some (-4) else some (-3) else some (-2) else some (-1)) : Option (Int32)).bind fun q32 => some q32 else some v1.toInt32
set_option maxHeartbeats 4000000 in
set_option maxRecDepth 100000 in
theorem c_X3_codeOf {l : Launch} {D : va_G} {cy : Nat → ClassId} {sz N : Nat} {h : IH} {a0 : Option Nat} {qF : Int32} (hs : s_X3_codeOf N h a0 = some qF) : Ct l D cy yX3_codeOf cX3_codeOf 3 (some .int) rm_X3_codeOf h sz [va_rf a0] h (some (.int qF)) := by
  refine ct_start (by decide +kernel) [(0, va_rf a0)] (by simp [lg_sl, cat_rf, cat_i, cat_j, cat_r]) (by simp [lv_args, cat_rf, cat_i, cat_j, cat_r]) ?_
  intro p e s m args below meth c A H0 ls F hin hsz M hl
  obtain ⟨hx, hb, hr, hml, hown, hlk, hts, hK, hN, hA, hH⟩ := id F
  generalize s.heap = H at M ⊢
  generalize ([] : List Loc) = locs at M ⊢
  unfold s_X3_codeOf at hs
  refine lo_aload_n hx hb dX3_codeOf_0 rfl (lv_at hl 0 rfl) ?_
  refine lv_iconst (v := 4) hx hb dX3_codeOf_1 (by decide) ?_
  obtain ⟨v1, g_v1, hs⟩ := bd hs
  obtain ⟨a34, e_a34, k_a34, g_v1⟩ := cV_some g_v1
  refine ca_VNl (bq := a34) (As := [.int 4]) (rest := []) F M (c_X10_wordAsNumber g_v1) mf_X10_wordAsNumber tN_608 k_a34 rfl ⟨by decide, by decide⟩ ⟨rfl, rfl⟩ ⟨Nat.zero_le _, Nat.zero_le _⟩ hl.1 (by rw [e_a34]; rfl) (by decide) dX3_codeOf_2 (fun H locs M => ?_)
  refine lv_lstore_n (i := 1) (lv' := [(1, .long v1), (0, va_rf a0)]) hx hb dX3_codeOf_5 rfl hl (by decide) (by simp [cat_rf, cat_i, cat_j, cat_r]) (fun ls hl => ?_)
  refine lv_lload_n hx hb dX3_codeOf_6 rfl (lv_at hl 0 rfl) ?_
  refine lv_ldc2 (v := (-1)) hx hb hown (hts _ (List.mem_cons_of_mem _ t_609)) dX3_codeOf_7 ?_
  refine W.lcmp hx hb dX3_codeOf_10 ?_
  refine lv_if_eq (tgt := 17) hx hb dX3_codeOf_11 (by decide) (fun c2 => ?_) (fun c2 => ?_)
  · rw [if_pos c2] at hs
    refine lo_aload_n hx hb dX3_codeOf_17 rfl (lv_at hl 1 rfl) ?_
    refine st_ldc (k := 3) F M (by decide) rfl rfl dX3_codeOf_18 ?_
    obtain ⟨v3, g_v3, hs⟩ := bd hs
    obtain ⟨a33, e_a33, k_a33, g_v3⟩ := cV_some g_v3
    refine ca_VNi (bq := a33) (As := [.ref (cy (100 + 3))]) (rest := []) F M (c_X10_wordIs g_v3) mf_X10_wordIs tN_611 k_a33 rfl ⟨by decide, by decide⟩ ⟨rfl, rfl⟩ ⟨Nat.zero_le _, Nat.zero_le _⟩ hl.1 (by rw [e_a33]; rfl) (by decide) dX3_codeOf_20 (fun H locs M => ?_)
    obtain ⟨q32, hsq32, hs⟩ := bd hs
    have KJ158 : ∀ (ls : Array Slot) (H : Heap) (locs : List Loc), lv_has ls 3 [] → Mo D cy A H0 h H locs → W p l e rm_X3_codeOf s m args below meth c H locs 0 0 (MQ below (QR D cy h A (some (.int qF))) args s 0 0 A) (F0 m 158 ls [.int q32]) := by
      intro ls H locs hl M
      obtain rfl := Option.some.inj hs
      exact re_i F M dX3_codeOf_158
    clear hs
    have hs := hsq32
    refine lv_if_eq (tgt := 30) hx hb dX3_codeOf_23 (by decide) (fun c4 => ?_) (fun c4 => ?_)
    · rw [if_pos c4] at hs
      refine lo_aload_n hx hb dX3_codeOf_30 rfl (lv_at hl 1 rfl) ?_
      refine st_ldc (k := 4) F M (by decide) rfl rfl dX3_codeOf_31 ?_
      obtain ⟨v5, g_v5, hs⟩ := bd hs
      obtain ⟨a31, e_a31, k_a31, g_v5⟩ := cV_some g_v5
      refine ca_VNi (bq := a31) (As := [.ref (cy (100 + 4))]) (rest := []) F M (c_X10_wordIs g_v5) mf_X10_wordIs tN_611 k_a31 rfl ⟨by decide, by decide⟩ ⟨rfl, rfl⟩ ⟨Nat.zero_le _, Nat.zero_le _⟩ hl.1 (by rw [e_a31]; rfl) (by decide) dX3_codeOf_33 (fun H locs M => ?_)
      refine lv_if_eq (tgt := 44) hx hb dX3_codeOf_36 (by decide) (fun c6 => ?_) (fun c6 => ?_)
      · rw [if_pos c6] at hs
        refine lo_aload_n hx hb dX3_codeOf_44 rfl (lv_at hl 1 rfl) ?_
        refine st_ldc (k := 5) F M (by decide) rfl rfl dX3_codeOf_45 ?_
        obtain ⟨v7, g_v7, hs⟩ := bd hs
        obtain ⟨a30, e_a30, k_a30, g_v7⟩ := cV_some g_v7
        refine ca_VNi (bq := a30) (As := [.ref (cy (100 + 5))]) (rest := []) F M (c_X10_wordIs g_v7) mf_X10_wordIs tN_611 k_a30 rfl ⟨by decide, by decide⟩ ⟨rfl, rfl⟩ ⟨Nat.zero_le _, Nat.zero_le _⟩ hl.1 (by rw [e_a30]; rfl) (by decide) dX3_codeOf_47 (fun H locs M => ?_)
        refine lv_if_eq (tgt := 58) hx hb dX3_codeOf_50 (by decide) (fun c8 => ?_) (fun c8 => ?_)
        · rw [if_pos c8] at hs
          refine lo_aload_n hx hb dX3_codeOf_58 rfl (lv_at hl 1 rfl) ?_
          refine st_ldc (k := 6) F M (by decide) rfl rfl dX3_codeOf_59 ?_
          obtain ⟨v9, g_v9, hs⟩ := bd hs
          obtain ⟨a29, e_a29, k_a29, g_v9⟩ := cV_some g_v9
          refine ca_VNi (bq := a29) (As := [.ref (cy (100 + 6))]) (rest := []) F M (c_X10_wordIs g_v9) mf_X10_wordIs tN_611 k_a29 rfl ⟨by decide, by decide⟩ ⟨rfl, rfl⟩ ⟨Nat.zero_le _, Nat.zero_le _⟩ hl.1 (by rw [e_a29]; rfl) (by decide) dX3_codeOf_61 (fun H locs M => ?_)
          refine lv_if_eq (tgt := 72) hx hb dX3_codeOf_64 (by decide) (fun c10 => ?_) (fun c10 => ?_)
          · rw [if_pos c10] at hs
            refine lo_aload_n hx hb dX3_codeOf_72 rfl (lv_at hl 1 rfl) ?_
            refine st_ldc (k := 7) F M (by decide) rfl rfl dX3_codeOf_73 ?_
            obtain ⟨v11, g_v11, hs⟩ := bd hs
            obtain ⟨a28, e_a28, k_a28, g_v11⟩ := cV_some g_v11
            refine ca_VNi (bq := a28) (As := [.ref (cy (100 + 7))]) (rest := []) F M (c_X10_wordIs g_v11) mf_X10_wordIs tN_611 k_a28 rfl ⟨by decide, by decide⟩ ⟨rfl, rfl⟩ ⟨Nat.zero_le _, Nat.zero_le _⟩ hl.1 (by rw [e_a28]; rfl) (by decide) dX3_codeOf_75 (fun H locs M => ?_)
            refine lv_if_eq (tgt := 86) hx hb dX3_codeOf_78 (by decide) (fun c12 => ?_) (fun c12 => ?_)
            · rw [if_pos c12] at hs
              refine lo_aload_n hx hb dX3_codeOf_86 rfl (lv_at hl 1 rfl) ?_
              refine st_ldc (k := 8) F M (by decide) rfl rfl dX3_codeOf_87 ?_
              obtain ⟨v13, g_v13, hs⟩ := bd hs
              obtain ⟨a27, e_a27, k_a27, g_v13⟩ := cV_some g_v13
              refine ca_VNi (bq := a27) (As := [.ref (cy (100 + 8))]) (rest := []) F M (c_X10_wordIs g_v13) mf_X10_wordIs tN_611 k_a27 rfl ⟨by decide, by decide⟩ ⟨rfl, rfl⟩ ⟨Nat.zero_le _, Nat.zero_le _⟩ hl.1 (by rw [e_a27]; rfl) (by decide) dX3_codeOf_89 (fun H locs M => ?_)
              refine lv_if_eq (tgt := 100) hx hb dX3_codeOf_92 (by decide) (fun c14 => ?_) (fun c14 => ?_)
              · rw [if_pos c14] at hs
                refine lo_aload_n hx hb dX3_codeOf_100 rfl (lv_at hl 1 rfl) ?_
                refine st_ldc (k := 9) F M (by decide) rfl rfl dX3_codeOf_101 ?_
                obtain ⟨v15, g_v15, hs⟩ := bd hs
                obtain ⟨a26, e_a26, k_a26, g_v15⟩ := cV_some g_v15
                refine ca_VNi (bq := a26) (As := [.ref (cy (100 + 9))]) (rest := []) F M (c_X10_wordIs g_v15) mf_X10_wordIs tN_611 k_a26 rfl ⟨by decide, by decide⟩ ⟨rfl, rfl⟩ ⟨Nat.zero_le _, Nat.zero_le _⟩ hl.1 (by rw [e_a26]; rfl) (by decide) dX3_codeOf_103 (fun H locs M => ?_)
                refine lv_if_eq (tgt := 114) hx hb dX3_codeOf_106 (by decide) (fun c16 => ?_) (fun c16 => ?_)
                · rw [if_pos c16] at hs
                  refine lo_aload_n hx hb dX3_codeOf_114 rfl (lv_at hl 1 rfl) ?_
                  refine st_ldc (k := 10) F M (by decide) rfl rfl dX3_codeOf_115 ?_
                  obtain ⟨v17, g_v17, hs⟩ := bd hs
                  obtain ⟨a25, e_a25, k_a25, g_v17⟩ := cV_some g_v17
                  refine ca_VNi (bq := a25) (As := [.ref (cy (100 + 10))]) (rest := []) F M (c_X10_wordIs g_v17) mf_X10_wordIs tN_611 k_a25 rfl ⟨by decide, by decide⟩ ⟨rfl, rfl⟩ ⟨Nat.zero_le _, Nat.zero_le _⟩ hl.1 (by rw [e_a25]; rfl) (by decide) dX3_codeOf_117 (fun H locs M => ?_)
                  refine lv_if_eq (tgt := 128) hx hb dX3_codeOf_120 (by decide) (fun c18 => ?_) (fun c18 => ?_)
                  · rw [if_pos c18] at hs
                    refine lo_aload_n hx hb dX3_codeOf_128 rfl (lv_at hl 1 rfl) ?_
                    refine st_ldc (k := 11) F M (by decide) rfl rfl dX3_codeOf_129 ?_
                    obtain ⟨v19, g_v19, hs⟩ := bd hs
                    obtain ⟨a24, e_a24, k_a24, g_v19⟩ := cV_some g_v19
                    refine ca_VNi (bq := a24) (As := [.ref (cy (100 + 11))]) (rest := []) F M (c_X10_wordIs g_v19) mf_X10_wordIs tN_611 k_a24 rfl ⟨by decide, by decide⟩ ⟨rfl, rfl⟩ ⟨Nat.zero_le _, Nat.zero_le _⟩ hl.1 (by rw [e_a24]; rfl) (by decide) dX3_codeOf_131 (fun H locs M => ?_)
                    refine lv_if_eq (tgt := 142) hx hb dX3_codeOf_134 (by decide) (fun c20 => ?_) (fun c20 => ?_)
                    · rw [if_pos c20] at hs
                      refine lo_aload_n hx hb dX3_codeOf_142 rfl (lv_at hl 1 rfl) ?_
                      refine st_ldc (k := 12) F M (by decide) rfl rfl dX3_codeOf_143 ?_
                      obtain ⟨v21, g_v21, hs⟩ := bd hs
                      obtain ⟨a23, e_a23, k_a23, g_v21⟩ := cV_some g_v21
                      refine ca_VNi (bq := a23) (As := [.ref (cy (100 + 12))]) (rest := []) F M (c_X10_wordIs g_v21) mf_X10_wordIs tN_611 k_a23 rfl ⟨by decide, by decide⟩ ⟨rfl, rfl⟩ ⟨Nat.zero_le _, Nat.zero_le _⟩ hl.1 (by rw [e_a23]; rfl) (by decide) dX3_codeOf_145 (fun H locs M => ?_)
                      refine lv_if_eq (tgt := 156) hx hb dX3_codeOf_148 (by decide) (fun c22 => ?_) (fun c22 => ?_)
                      · rw [if_pos c22] at hs
                        refine lv_bipush (v := (-11)) hx hb dX3_codeOf_156 (by decide) ?_
                        obtain rfl := Option.some.inj hs
                        exact KJ158 _ _ _ (lv_sub hl [] rfl) M
                      · rw [if_neg c22] at hs
                        refine lv_bipush (v := (-10)) hx hb dX3_codeOf_151 (by decide) ?_
                        refine lv_goto (tgt := 158) hx hb dX3_codeOf_153 (by decide) ?_
                        obtain rfl := Option.some.inj hs
                        exact KJ158 _ _ _ (lv_sub hl [] rfl) M
                    · rw [if_neg c20] at hs
                      refine lv_bipush (v := (-9)) hx hb dX3_codeOf_137 (by decide) ?_
                      refine lv_goto (tgt := 158) hx hb dX3_codeOf_139 (by decide) ?_
                      obtain rfl := Option.some.inj hs
                      exact KJ158 _ _ _ (lv_sub hl [] rfl) M
                  · rw [if_neg c18] at hs
                    refine lv_bipush (v := (-8)) hx hb dX3_codeOf_123 (by decide) ?_
                    refine lv_goto (tgt := 158) hx hb dX3_codeOf_125 (by decide) ?_
                    obtain rfl := Option.some.inj hs
                    exact KJ158 _ _ _ (lv_sub hl [] rfl) M
                · rw [if_neg c16] at hs
                  refine lv_bipush (v := (-7)) hx hb dX3_codeOf_109 (by decide) ?_
                  refine lv_goto (tgt := 158) hx hb dX3_codeOf_111 (by decide) ?_
                  obtain rfl := Option.some.inj hs
                  exact KJ158 _ _ _ (lv_sub hl [] rfl) M
              · rw [if_neg c14] at hs
                refine lv_bipush (v := (-6)) hx hb dX3_codeOf_95 (by decide) ?_
                refine lv_goto (tgt := 158) hx hb dX3_codeOf_97 (by decide) ?_
                obtain rfl := Option.some.inj hs
                exact KJ158 _ _ _ (lv_sub hl [] rfl) M
            · rw [if_neg c12] at hs
              refine lv_bipush (v := (-5)) hx hb dX3_codeOf_81 (by decide) ?_
              refine lv_goto (tgt := 158) hx hb dX3_codeOf_83 (by decide) ?_
              obtain rfl := Option.some.inj hs
              exact KJ158 _ _ _ (lv_sub hl [] rfl) M
          · rw [if_neg c10] at hs
            refine lv_bipush (v := (-4)) hx hb dX3_codeOf_67 (by decide) ?_
            refine lv_goto (tgt := 158) hx hb dX3_codeOf_69 (by decide) ?_
            obtain rfl := Option.some.inj hs
            exact KJ158 _ _ _ (lv_sub hl [] rfl) M
        · rw [if_neg c8] at hs
          refine lv_bipush (v := (-3)) hx hb dX3_codeOf_53 (by decide) ?_
          refine lv_goto (tgt := 158) hx hb dX3_codeOf_55 (by decide) ?_
          obtain rfl := Option.some.inj hs
          exact KJ158 _ _ _ (lv_sub hl [] rfl) M
      · rw [if_neg c6] at hs
        refine lv_bipush (v := (-2)) hx hb dX3_codeOf_39 (by decide) ?_
        refine lv_goto (tgt := 158) hx hb dX3_codeOf_41 (by decide) ?_
        obtain rfl := Option.some.inj hs
        exact KJ158 _ _ _ (lv_sub hl [] rfl) M
    · rw [if_neg c4] at hs
      refine lv_iconst (v := (-1)) hx hb dX3_codeOf_26 (by decide) ?_
      refine lv_goto (tgt := 158) hx hb dX3_codeOf_27 (by decide) ?_
      obtain rfl := Option.some.inj hs
      exact KJ158 _ _ _ (lv_sub hl [] rfl) M
  · rw [if_neg c2] at hs
    refine lv_lload_n hx hb dX3_codeOf_14 rfl (lv_at hl 0 rfl) ?_
    refine lv_l2i hx hb dX3_codeOf_15 rfl ?_
    obtain rfl := Option.some.inj hs
    exact re_i F M dX3_codeOf_16
abbrev rm_X3_read : Room := { frames := 6, cells := 0, slots := 0, locals := 129 }
theorem mf_X3_read : MV 3 yX3_read cX3_read 3 (some .int) 1 RX3 := ⟨t_602, t_601, tS_22, t_7, ⟨by decide +kernel, by decide +kernel, by decide +kernel⟩, rfl, by decide⟩
def s_X3_read_L23 (N : Nat) : Nat → Nat → Option Nat → Int32 → IH → Option ((Int32 × IH) ⊕ (Int32 × IH))
  | 0, _, _, _, _ => none
  | n + 1, th, x1, x2, h => if 30 < x2 then some (.inr (x2, h)) else (cV h 10 x1 fun a16 => s_X10_nextWord N h a16 ).bind fun v7 => if v7.1 = 0 then some (.inr (x2, v7.2)) else if x2 = 30 then (gI v7.2 10 4 x1).bind fun v10 => some (.inl ((-1) - v10, v7.2)) else (s_X3_codeOf N v7.2 x1).bind fun v11 => (cV v7.2 3 (some th) fun a15 => s_X3_addCode N v7.2 a15 x2 v11).bind fun v12 => if v12.1 = 0 then (gI v12.2 10 4 x1).bind fun v14 => some (.inl ((-1) - v14, v12.2)) else s_X3_read_L23 N n th x1 (x2 + 1) v12.2
def s_X3_read (N : Nat) (h : IH) (th : Nat) (a0 : Option Nat) : Option (Int32 × IH) := (gI h 10 1 a0).bind fun v1 => (cV h 10 a0 fun a25 => s_X10_startWords h a25 0 v1).bind fun v2 => (pI v2 3 4 (some th) 0).bind fun h3 => (gR h3 3 3 (some th)).bind fun v4 => (sI h3 v4 0 1).bind fun h5 => (s_X3_read_L23 N N th a0 0 h5).bind fun q17 => Sum.elim (fun v => some v) (fun t18 => (gR t18.2 3 3 (some th)).bind fun v19 => (aI t18.2 v19 0).bind fun v20 => if v20 ≤ 0 then (cV t18.2 3 (some th) fun a23 => s_X3_takeDraft t18.2 a23 t18.1).bind fun v22 => some (t18.1, v22) else (gI t18.2 10 1 a0).bind fun v24 => some ((-1) - v24, t18.2)) q17
set_option maxHeartbeats 4000000 in
set_option maxRecDepth 100000 in
theorem w_X3_read_L23 {p : Program} {l : Launch} {e : Env} {s : State} {m : MethodId} {args : Array Value} {below : List Frame} {meth : Method} {c : Code} {D : va_G} {cy : Nat → ClassId} {A : Nat → Prop} {H0 : Heap} {N th : Nat} {x1 : Option Nat} {qF : Int32 × IH} (F : Fx p s m args meth c D cy A H0 yX3_read cX3_read 3 (some .int)) : ∀ (n : Nat) (x2 : Int32) (h : IH) (ls : Array Slot) (H : Heap) (locs : List Loc) (q : (Int32 × IH) ⊕ (Int32 × IH)), s_X3_read_L23 N n th x1 x2 h = some q → lv_has ls 3 [(0, .ref th), (1, va_rf x1), (2, .int x2)] → Mo D cy A H0 h H locs → (∀ (t : Int32 × IH) (ls : Array Slot) (H : Heap) (locs : List Loc), q = .inr t → lv_has ls 3 [(0, .ref th), (1, va_rf x1), (2, .int t.1)] → Mo D cy A H0 t.2 H locs → W p l e rm_X3_read s m args below meth c H locs 0 0 (MQ below (QR D cy qF.2 A (some (.int qF.1))) args s 0 0 A) (F0 m 67 ls [])) → (∀ v, q = .inl v → v = qF) → W p l e rm_X3_read s m args below meth c H locs 0 0 (MQ below (QR D cy qF.2 A (some (.int qF.1))) args s 0 0 A) (F0 m 23 ls []) := by
  intro n
  induction n with
  | zero => intro x2 h ls H locs q hs; rw [s_X3_read_L23.eq_1] at hs; cases hs
  | succ n ih =>
    intro x2 h ls H locs q hs hl M kx kr
    obtain ⟨hx, hb, hr, hml, hown, hlk, hts, hK, hN, hA, hH⟩ := id F
    rw [s_X3_read_L23.eq_2] at hs
    refine lv_iload_n hx hb dX3_read_23 rfl (lv_at hl 2 rfl) ?_
    refine lv_bipush (v := 30) hx hb dX3_read_24 (by decide) ?_
    refine lv_icmp_gt (tgt := 67) hx hb dX3_read_26 (by decide) (fun c6 => ?_) (fun c6 => ?_)
    · rw [if_pos c6] at hs
      exact kx (x2, h) _ _ _ (Option.some.inj hs).symm (lv_sub hl [0, 1, 2] rfl) M
    · rw [if_neg c6] at hs
      refine lo_aload_n hx hb dX3_read_29 rfl (lv_at hl 1 rfl) ?_
      obtain ⟨v7, g_v7, hs⟩ := bd hs
      obtain ⟨a16, e_a16, k_a16, g_v7⟩ := cV_some g_v7
      refine ca_VNi (bq := a16) (As := []) (rest := []) F M (c_X10_nextWord g_v7) mf_X10_nextWord tN_604 k_a16 rfl ⟨by decide, by decide⟩ ⟨rfl, rfl⟩ ⟨Nat.zero_le _, Nat.zero_le _⟩ hl.1 (by rw [e_a16]; rfl) (by decide) dX3_read_30 (fun H locs M => ?_)
      refine lv_if_eq (tgt := 67) hx hb dX3_read_33 (by decide) (fun c8 => ?_) (fun c8 => ?_)
      · rw [if_pos c8] at hs
        exact kx (x2, v7.2) _ _ _ (Option.some.inj hs).symm (lv_sub hl [0, 1, 2] rfl) M
      · rw [if_neg c8] at hs
        refine lv_iload_n hx hb dX3_read_36 rfl (lv_at hl 2 rfl) ?_
        refine lv_bipush (v := 30) hx hb dX3_read_37 (by decide) ?_
        refine lv_icmp_eq (tgt := 54) hx hb dX3_read_39 (by decide) (fun c9 => ?_) (fun c9 => ?_)
        · rw [if_pos c9] at hs
          refine lv_iconst (v := (-1)) hx hb dX3_read_54 (by decide) ?_
          refine lo_aload_n hx hb dX3_read_55 rfl (lv_at hl 1 rfl) ?_
          obtain ⟨v10, g_v10, hs⟩ := bd hs
          refine ro_gIN F M fg_10_4 tN_42 g_v10 dX3_read_56 ?_
          refine lv_isub hx hb dX3_read_59 ?_
          obtain rfl := kr _ (Option.some.inj hs).symm
          exact re_i F M dX3_read_60
        · rw [if_neg c9] at hs
          refine lv_aload_n hx hb dX3_read_42 rfl (lv_at hl 0 rfl) ?_
          refine lv_iload_n hx hb dX3_read_43 rfl (lv_at hl 2 rfl) ?_
          refine lo_aload_n hx hb dX3_read_44 rfl (lv_at hl 1 rfl) ?_
          obtain ⟨v11, g_v11, hs⟩ := bd hs
          refine ca_Si (As := [va_rf x1]) (rest := [.int x2, .ref th]) F M (c_X3_codeOf g_v11) mf_X3_codeOf t_605 rfl ⟨by decide, by decide⟩ ⟨rfl, rfl⟩ ⟨Nat.zero_le _, Nat.zero_le _⟩ hl.1 rfl (by simp [cat_rf, cat_i, cat_j, cat_r]) dX3_read_45 (fun H locs M => ?_)
          obtain ⟨v12, g_v12, hs⟩ := bd hs
          obtain ⟨a15, e_a15, k_a15, g_v12⟩ := cV_some g_v12
          obtain rfl := Option.some.inj e_a15
          refine ca_Vi (bq := th) (As := [.int x2, .int v11]) (rest := []) F M (c_X3_addCode g_v12) mf_X3_addCode t_621 k_a15 rfl ⟨by decide, by decide⟩ ⟨rfl, rfl⟩ ⟨Nat.zero_le _, Nat.zero_le _⟩ hl.1 rfl (by decide) dX3_read_48 (fun H locs M => ?_)
          refine lv_if_ne (tgt := 61) hx hb dX3_read_51 (by decide) (fun c13 => ?_) (fun c13 => ?_)
          · rw [if_neg c13] at hs
            refine lv_iinc (v := x2 + 1) (lv' := [(2, .int (x2 + 1)), (0, .ref th), (1, va_rf x1)]) hx hb dX3_read_61 hl (k := 2) rfl rfl (by decide) (by simp [cat_rf, cat_i, cat_j, cat_r]) (fun ls hl => ?_)
            refine lv_goto (tgt := 23) hx hb dX3_read_64 (by decide) ?_
            exact ih (x2 + 1) v12.2 _ _ _ _ hs (lv_sub hl [1, 2, 0] rfl) M kx kr
          · rw [if_pos c13] at hs
            refine lv_iconst (v := (-1)) hx hb dX3_read_54 (by decide) ?_
            refine lo_aload_n hx hb dX3_read_55 rfl (lv_at hl 1 rfl) ?_
            obtain ⟨v14, g_v14, hs⟩ := bd hs
            refine ro_gIN F M fg_10_4 tN_42 g_v14 dX3_read_56 ?_
            refine lv_isub hx hb dX3_read_59 ?_
            obtain rfl := kr _ (Option.some.inj hs).symm
            exact re_i F M dX3_read_60
set_option maxHeartbeats 4000000 in
set_option maxRecDepth 100000 in
theorem c_X3_read {l : Launch} {D : va_G} {cy : Nat → ClassId} {sz N : Nat} {h : IH} {th : Nat} {a0 : Option Nat} {qF : Int32 × IH} (hs : s_X3_read N h th a0 = some qF) : Ct l D cy yX3_read cX3_read 3 (some .int) rm_X3_read h sz [.ref th, va_rf a0] qF.2 (some (.int qF.1)) := by
  refine ct_start (by decide +kernel) [(0, .ref th), (1, va_rf a0)] (by simp [lg_sl, cat_rf, cat_i, cat_j, cat_r]) (by simp [lv_args, cat_rf, cat_i, cat_j, cat_r]) ?_
  intro p e s m args below meth c A H0 ls F hin hsz M hl
  obtain ⟨hx, hb, hr, hml, hown, hlk, hts, hK, hN, hA, hH⟩ := id F
  generalize s.heap = H at M ⊢
  generalize ([] : List Loc) = locs at M ⊢
  unfold s_X3_read at hs
  refine lo_aload_n hx hb dX3_read_0 rfl (lv_at hl 1 rfl) ?_
  refine lv_iconst (v := 0) hx hb dX3_read_1 (by decide) ?_
  refine lo_aload_n hx hb dX3_read_2 rfl (lv_at hl 1 rfl) ?_
  obtain ⟨v1, g_v1, hs⟩ := bd hs
  refine ro_gIN F M fg_10_1 tN_36 g_v1 dX3_read_3 ?_
  obtain ⟨v2, g_v2, hs⟩ := bd hs
  obtain ⟨a25, e_a25, k_a25, g_v2⟩ := cV_some g_v2
  refine ca_VNv (bq := a25) (As := [.int 0, .int v1]) (rest := []) F M (c_X10_startWords g_v2) mf_X10_startWords tN_603 k_a25 rfl ⟨by decide, by decide⟩ ⟨rfl, rfl⟩ ⟨Nat.zero_le _, Nat.zero_le _⟩ hl.1 (by rw [e_a25]; rfl) (by decide) dX3_read_6 (fun H locs M => ?_)
  refine lv_aload_n hx hb dX3_read_9 rfl (lv_at hl 0 rfl) ?_
  refine lv_iconst (v := 0) hx hb dX3_read_10 (by decide) ?_
  obtain ⟨h3, g_h3, hs⟩ := bd hs
  refine ro_pI F M fg_3_4 fp_3_4 rfl t_214 g_h3 dX3_read_11 (fun H locs M => ?_)
  refine lv_aload_n hx hb dX3_read_14 rfl (lv_at hl 0 rfl) ?_
  obtain ⟨v4, g_v4, hs⟩ := bd hs
  refine ro_gR F M fg_3_3 t_213 g_v4 dX3_read_15 ?_
  refine lv_iconst (v := 0) hx hb dX3_read_18 (by decide) ?_
  refine lv_iconst (v := 1) hx hb dX3_read_19 (by decide) ?_
  obtain ⟨h5, g_h5, hs⟩ := bd hs
  refine ro_sI F M g_h5 dX3_read_20 (fun H locs M => ?_)
  refine lv_iconst (v := 0) hx hb dX3_read_21 (by decide) ?_
  refine lv_istore_n (i := 2) (lv' := [(2, .int 0), (0, .ref th), (1, va_rf a0)]) hx hb dX3_read_22 rfl hl (by decide) (by simp [cat_rf, cat_i, cat_j, cat_r]) (fun ls hl => ?_)
  obtain ⟨q17, g_q17, hs⟩ := bd hs
  refine w_X3_read_L23 F N 0 h5 _ _ _ q17 g_q17 (lv_sub hl [1, 2, 0] rfl) M (fun t18 ls H locs eq_ hl M => ?_) (fun v eq_ => ?_)
  · subst eq_
    have hs := se_r hs
    refine lv_aload_n hx hb dX3_read_67 rfl (lv_at hl 0 rfl) ?_
    obtain ⟨v19, g_v19, hs⟩ := bd hs
    refine ro_gR F M fg_3_3 t_213 g_v19 dX3_read_68 ?_
    refine lv_iconst (v := 0) hx hb dX3_read_71 (by decide) ?_
    obtain ⟨v20, g_v20, hs⟩ := bd hs
    refine ro_aI F M g_v20 dX3_read_72 ?_
    refine lv_if_le (tgt := 83) hx hb dX3_read_73 (by decide) (fun c21 => ?_) (fun c21 => ?_)
    · rw [if_pos c21] at hs
      refine lv_aload_n hx hb dX3_read_83 rfl (lv_at hl 0 rfl) ?_
      refine lv_iload_n hx hb dX3_read_84 rfl (lv_at hl 2 rfl) ?_
      obtain ⟨v22, g_v22, hs⟩ := bd hs
      obtain ⟨a23, e_a23, k_a23, g_v22⟩ := cV_some g_v22
      obtain rfl := Option.some.inj e_a23
      refine ca_Vv (bq := th) (As := [.int t18.1]) (rest := []) F M (c_X3_takeDraft g_v22) mf_X3_takeDraft t_633 k_a23 rfl ⟨by decide, by decide⟩ ⟨rfl, rfl⟩ ⟨Nat.zero_le _, Nat.zero_le _⟩ hl.1 rfl (by decide) dX3_read_85 (fun H locs M => ?_)
      refine lv_iload_n hx hb dX3_read_88 rfl (lv_at hl 2 rfl) ?_
      obtain rfl := Option.some.inj hs
      exact re_i F M dX3_read_89
    · rw [if_neg c21] at hs
      refine lv_iconst (v := (-1)) hx hb dX3_read_76 (by decide) ?_
      refine lo_aload_n hx hb dX3_read_77 rfl (lv_at hl 1 rfl) ?_
      obtain ⟨v24, g_v24, hs⟩ := bd hs
      refine ro_gIN F M fg_10_1 tN_36 g_v24 dX3_read_78 ?_
      refine lv_isub hx hb dX3_read_81 ?_
      obtain rfl := Option.some.inj hs
      exact re_i F M dX3_read_82
  · subst eq_
    have hs := se_l hs
    exact (Option.some.inj hs)
abbrev rm_X11_rule : Room := { frames := 7, cells := 0, slots := 0, locals := 151 }
theorem mf_X11_rule : MV 11 yX11_rule cX11_rule 2 (some .int) 0 RX11 := ⟨t_598, t_596, t_597, t_1, ⟨by decide +kernel, by decide +kernel, by decide +kernel⟩, rfl, by decide⟩
def s_X11_rule (N : Nat) (h : IH) (th : Nat) : Option (Int32 × IH) := (gR h 11 3 (some th)).bind fun v1 => (gR h 11 0 (some th)).bind fun v2 => (cV h 3 v1 fun a6 => s_X3_read N h a6 v2).bind fun v3 => (gR v3.2 11 0 (some th)).bind fun v4 => (pI v3.2 10 1 v4 0).bind fun h5 => some (v3.1, h5)
set_option maxHeartbeats 4000000 in
set_option maxRecDepth 100000 in
theorem c_X11_rule {l : Launch} {D : va_G} {cy : Nat → ClassId} {sz N : Nat} {h : IH} {th : Nat} {qF : Int32 × IH} (hs : s_X11_rule N h th = some qF) : Ct l D cy yX11_rule cX11_rule 2 (some .int) rm_X11_rule h sz [.ref th] qF.2 (some (.int qF.1)) := by
  refine ct_start (by decide +kernel) [(0, .ref th)] (Nat.le_of_ble_eq_true rfl) rfl ?_
  intro p e s m args below meth c A H0 ls F hin hsz M hl
  obtain ⟨hx, hb, hr, hml, hown, hlk, hts, hK, hN, hA, hH⟩ := id F
  generalize s.heap = H at M ⊢
  generalize ([] : List Loc) = locs at M ⊢
  unfold s_X11_rule at hs
  refine lv_aload_n hx hb dX11_rule_0 rfl (lv_at hl 0 rfl) ?_
  obtain ⟨v1, g_v1, hs⟩ := bd hs
  refine ro_gR F M fg_11_3 t_333 g_v1 dX11_rule_1 ?_
  refine lv_aload_n hx hb dX11_rule_4 rfl (lv_at hl 0 rfl) ?_
  obtain ⟨v2, g_v2, hs⟩ := bd hs
  refine ro_gR F M fg_11_0 t_330 g_v2 dX11_rule_5 ?_
  obtain ⟨v3, g_v3, hs⟩ := bd hs
  obtain ⟨a6, e_a6, k_a6, g_v3⟩ := cV_some g_v3
  refine ca_VNi (bq := a6) (As := [va_rf v2]) (rest := []) F M (c_X3_read g_v3) mf_X3_read tN_599 k_a6 rfl ⟨by decide, by decide⟩ ⟨rfl, rfl⟩ ⟨Nat.zero_le _, Nat.zero_le _⟩ hl.1 (by rw [e_a6]; rfl) (by decide) dX11_rule_8 (fun H locs M => ?_)
  refine lv_istore_n (i := 1) (lv' := [(1, .int v3.1), (0, .ref th)]) hx hb dX11_rule_11 rfl hl (by decide) rfl (fun ls hl => ?_)
  refine lv_aload_n hx hb dX11_rule_12 rfl (lv_at hl 1 rfl) ?_
  obtain ⟨v4, g_v4, hs⟩ := bd hs
  refine ro_gR F M fg_11_0 t_330 g_v4 dX11_rule_13 ?_
  refine lv_iconst (v := 0) hx hb dX11_rule_16 (by decide) ?_
  obtain ⟨h5, g_h5, hs⟩ := bd hs
  refine ro_pIN F M fg_10_1 fp_10_1 rfl tN_39 g_h5 dX11_rule_17 (fun H locs M => ?_)
  refine lv_iload_n hx hb dX11_rule_20 rfl (lv_at hl 0 rfl) ?_
  obtain rfl := Option.some.inj hs
  exact re_i F M dX11_rule_21
