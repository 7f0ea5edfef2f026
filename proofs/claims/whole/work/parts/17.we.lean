abbrev rm_X0_isUnique : Room := { frames := 2, cells := 0, slots := 0, locals := 49 }
theorem mf_X0_isUnique : MV 0 yX0_isUnique cX0_isUnique 6 (some .boolean) 1 RX0 := ⟨t_861, t_860, tS_60, t_8, ⟨by decide +kernel, by decide +kernel, by decide +kernel⟩, rfl, by decide⟩
def s_X0_isUnique_L5 (N : Nat) : Nat → Nat → Int64 → Int32 → Int32 → IH → Option (Int32)
  | 0, _, _, _, _, _ => none
  | n + 1, th, x1, x3, x4, h => (gR h 0 0 (some th)).bind fun v1 => (gI h 7 1 v1).bind fun v2 => if v2 ≤ x4 then some x3 else (gR h 0 0 (some th)).bind fun v4 => (cV h 7 v4 fun a11 => s_X7_at h a11 x4).bind fun v5 => ((if v5 = none then some x3 else (cV h 9 v5 fun a9 => s_X9_holdsCall N h a9 x1).bind fun v7 => if v7 = 0 then some x3 else some (x3 + 1)) : Option (Int32)).bind fun q10 => s_X0_isUnique_L5 N n th x1 q10 (x4 + 1) h
def s_X0_isUnique (N : Nat) (h : IH) (th : Nat) (a0 : Int64) : Option (Int32) := (s_X0_isUnique_L5 N N th a0 0 0 h).bind fun q12 => ((if 3 ≤ q12 then some 0 else some 1) : Option (Int32)).bind fun q14 => if q14 = 0 ∨ q14 = 1 then some q14 else none
set_option maxHeartbeats 4000000 in
set_option maxRecDepth 100000 in
theorem w_X0_isUnique_L5 {p : Program} {l : Launch} {e : Env} {s : State} {m : MethodId} {args : Array Value} {below : List Frame} {meth : Method} {c : Code} {D : va_G} {cy : Nat → ClassId} {A : Nat → Prop} {H0 : Heap} {N th : Nat} {x1 : Int64} {h : IH} {qF : Int32} (F : Fx p s m args meth c D cy A H0 yX0_isUnique cX0_isUnique 6 (some .boolean)) : ∀ (n : Nat) (x3 : Int32) (x4 : Int32) (ls : Array Slot) (H : Heap) (locs : List Loc) (q : Int32), s_X0_isUnique_L5 N n th x1 x3 x4 h = some q → lv_has ls 6 [(0, .ref th), (1, .long x1), (3, .int x3), (4, .int x4)] → Mo D cy A H0 h H locs → (∀ (t : Int32) (ls : Array Slot) (H : Heap) (locs : List Loc), q = t → lv_has ls 6 [(3, .int t)] → Mo D cy A H0 h H locs → W p l e rm_X0_isUnique s m args below meth c H locs 0 0 (MQ below (QR D cy h A (some (.int qF))) args s 0 0 A) (F0 m 51 ls [])) → (∀ v : Int32, False → v = qF) → W p l e rm_X0_isUnique s m args below meth c H locs 0 0 (MQ below (QR D cy h A (some (.int qF))) args s 0 0 A) (F0 m 5 ls []) := by
  intro n
  induction n with
  | zero => intro x3 x4 ls H locs q hs; rw [s_X0_isUnique_L5.eq_1] at hs; cases hs
  | succ n ih =>
    intro x3 x4 ls H locs q hs hl M kx kr
    obtain ⟨hx, hb, hr, hml, hown, hlk, hts, hK, hN, hA, hH⟩ := id F
    rw [s_X0_isUnique_L5.eq_2] at hs
    refine lv_iload hx hb dX0_isUnique_5 (lv_at hl 3 rfl) ?_
    refine lv_aload_n hx hb dX0_isUnique_7 rfl (lv_at hl 0 rfl) ?_
    obtain ⟨v1, g_v1, hs⟩ := bd hs
    refine ro_gR F M fg_0_0 t_295 g_v1 dX0_isUnique_8 ?_
    obtain ⟨v2, g_v2, hs⟩ := bd hs
    refine ro_gIN F M fg_7_1 tN_71 g_v2 dX0_isUnique_11 ?_
    refine lv_icmp_ge (tgt := 51) hx hb dX0_isUnique_14 (by decide) (fun c3 => ?_) (fun c3 => ?_)
    · rw [if_pos c3] at hs
      exact kx x3 _ _ _ (Option.some.inj hs).symm (lv_sub hl [2] rfl) M
    · rw [if_neg c3] at hs
      refine lv_aload_n hx hb dX0_isUnique_17 rfl (lv_at hl 0 rfl) ?_
      obtain ⟨v4, g_v4, hs⟩ := bd hs
      refine ro_gR F M fg_0_0 t_295 g_v4 dX0_isUnique_18 ?_
      refine lv_iload hx hb dX0_isUnique_21 (lv_at hl 3 rfl) ?_
      obtain ⟨v5, g_v5, hs⟩ := bd hs
      obtain ⟨a11, e_a11, k_a11, g_v5⟩ := cV_some g_v5
      refine ca_VNa (bq := a11) (As := [.int x4]) (rest := []) F M (c_X7_at g_v5) mf_X7_at tN_722 k_a11 rfl ⟨by decide, by decide⟩ ⟨rfl, rfl⟩ ⟨Nat.zero_le _, Nat.zero_le _⟩ hl.1 (by rw [e_a11]; rfl) (by decide) dX0_isUnique_23 (fun H locs M => ?_)
      refine lo_astore (i := 5) (lv' := [(5, va_rf v5), (0, .ref th), (1, .long x1), (3, .int x3), (4, .int x4)]) hx hb dX0_isUnique_26 hl (by decide) rfl (fun ls hl => ?_)
      refine lo_aload hx hb dX0_isUnique_28 (lv_at hl 0 rfl) ?_
      obtain ⟨q10, hsq10, hs⟩ := bd hs
      have KJ45 : ∀ (ls : Array Slot) (H : Heap) (locs : List Loc), lv_has ls 6 [(0, .ref th), (1, .long x1), (3, .int q10), (4, .int x4)] → Mo D cy A H0 h H locs → W p l e rm_X0_isUnique s m args below meth c H locs 0 0 (MQ below (QR D cy h A (some (.int qF))) args s 0 0 A) (F0 m 45 ls []) := by
        intro ls H locs hl M
        refine lv_iinc (v := x4 + 1) (lv' := [(4, .int (x4 + 1)), (0, .ref th), (1, .long x1), (3, .int q10)]) hx hb dX0_isUnique_45 hl (k := 3) rfl rfl (by decide) rfl (fun ls hl => ?_)
        refine lv_goto (tgt := 5) hx hb dX0_isUnique_48 (by decide) ?_
        exact ih q10 (x4 + 1) _ _ _ _ hs (lv_sub hl [1, 2, 3, 0] rfl) M kx kr
      clear hs
      have hs := hsq10
      refine lo_ifnull (tgt := 45) hx hb dX0_isUnique_30 (by decide) (fun c6 => ?_) (fun c6 => ?_)
      · rw [if_pos c6] at hs
        obtain rfl := Option.some.inj hs
        exact KJ45 _ _ _ (lv_sub hl [1, 2, 3, 4] rfl) M
      · rw [if_neg c6] at hs
        refine lo_aload hx hb dX0_isUnique_33 (lv_at hl 0 rfl) ?_
        refine lv_lload_n hx hb dX0_isUnique_35 rfl (lv_at hl 2 rfl) ?_
        obtain ⟨v7, g_v7, hs⟩ := bd hs
        obtain ⟨a9, e_a9, k_a9, g_v7⟩ := cV_some g_v7
        refine ca_VNi (bq := a9) (As := [.long x1]) (rest := []) F M (c_X9_holdsCall g_v7) mf_X9_holdsCall tN_862 k_a9 rfl ⟨by decide, by decide⟩ ⟨rfl, rfl⟩ ⟨Nat.zero_le _, Nat.zero_le _⟩ hl.1 (by rw [e_a9]; rfl) (by decide) dX0_isUnique_36 (fun H locs M => ?_)
        refine lv_if_eq (tgt := 45) hx hb dX0_isUnique_39 (by decide) (fun c8 => ?_) (fun c8 => ?_)
        · rw [if_pos c8] at hs
          obtain rfl := Option.some.inj hs
          exact KJ45 _ _ _ (lv_sub hl [1, 2, 3, 4] rfl) M
        · rw [if_neg c8] at hs
          refine lv_iinc (v := x3 + 1) (lv' := [(3, .int (x3 + 1)), (5, va_rf v5), (0, .ref th), (1, .long x1), (4, .int x4)]) hx hb dX0_isUnique_42 hl (k := 3) rfl rfl (by decide) rfl (fun ls hl => ?_)
          obtain rfl := Option.some.inj hs
          exact KJ45 _ _ _ (lv_sub hl [2, 3, 0, 4] rfl) M
set_option maxHeartbeats 4000000 in
set_option maxRecDepth 100000 in
theorem c_X0_isUnique {l : Launch} {D : va_G} {cy : Nat → ClassId} {sz N : Nat} {h : IH} {th : Nat} {a0 : Int64} {qF : Int32} (hs : s_X0_isUnique N h th a0 = some qF) : Ct l D cy yX0_isUnique cX0_isUnique 6 (some .boolean) rm_X0_isUnique h sz [.ref th, .long a0] h (some (.int qF)) := by
  refine ct_start (by decide +kernel) [(0, .ref th), (1, .long a0)] (Nat.le_of_ble_eq_true rfl) rfl ?_
  intro p e s m args below meth c A H0 ls F hin hsz M hl
  obtain ⟨hx, hb, hr, hml, hown, hlk, hts, hK, hN, hA, hH⟩ := id F
  generalize s.heap = H at M ⊢
  generalize ([] : List Loc) = locs at M ⊢
  unfold s_X0_isUnique at hs
  refine lv_iconst (v := 0) hx hb dX0_isUnique_0 (by decide) ?_
  refine lv_istore_n (i := 3) (lv' := [(3, .int 0), (0, .ref th), (1, .long a0)]) hx hb dX0_isUnique_1 rfl hl (by decide) rfl (fun ls hl => ?_)
  refine lv_iconst (v := 0) hx hb dX0_isUnique_2 (by decide) ?_
  refine lv_istore (i := 4) (lv' := [(4, .int 0), (3, .int 0), (0, .ref th), (1, .long a0)]) hx hb dX0_isUnique_3 hl (by decide) rfl (fun ls hl => ?_)
  obtain ⟨q12, g_q12, hs⟩ := bd hs
  refine w_X0_isUnique_L5 F N 0 0 _ _ _ q12 g_q12 (lv_sub hl [2, 3, 1, 0] rfl) M (fun t_ ls H locs eq_ hl M => ?_) (fun v eq_ => eq_.elim)
  subst eq_
  refine lv_iload_n hx hb dX0_isUnique_51 rfl (lv_at hl 0 rfl) ?_
  refine lv_iconst (v := 3) hx hb dX0_isUnique_52 (by decide) ?_
  obtain ⟨q14, hsq14, hs⟩ := bd hs
  have KJ61 : ∀ (ls : Array Slot) (H : Heap) (locs : List Loc), lv_has ls 6 [] → Mo D cy A H0 h H locs → W p l e rm_X0_isUnique s m args below meth c H locs 0 0 (MQ below (QR D cy h A (some (.int qF))) args s 0 0 A) (F0 m 61 ls [.int q14]) := by
    intro ls H locs hl M
    by_cases zg : q14 = 0 ∨ q14 = 1
    · rw [if_pos zg] at hs
      obtain rfl := Option.some.inj hs
      exact re_z F M zg dX0_isUnique_61
    · rw [if_neg zg] at hs; cases hs
  clear hs
  have hs := hsq14
  refine lv_icmp_ge (tgt := 60) hx hb dX0_isUnique_53 (by decide) (fun c13 => ?_) (fun c13 => ?_)
  · rw [if_pos c13] at hs
    refine lv_iconst (v := 0) hx hb dX0_isUnique_60 (by decide) ?_
    obtain rfl := Option.some.inj hs
    exact KJ61 _ _ _ (lv_sub hl [] rfl) M
  · rw [if_neg c13] at hs
    refine lv_iconst (v := 1) hx hb dX0_isUnique_56 (by decide) ?_
    refine lv_goto (tgt := 61) hx hb dX0_isUnique_57 (by decide) ?_
    obtain rfl := Option.some.inj hs
    exact KJ61 _ _ _ (lv_sub hl [] rfl) M
abbrev rm_X0_explain : Room := { frames := 3, cells := 0, slots := 0, locals := 74 }
theorem mf_X0_explain : MV 0 yX0_explain cX0_explain 3 (some .int) 2 RX0 := ⟨t_857, t_856, tS_59, t_8, ⟨by decide +kernel, by decide +kernel, by decide +kernel⟩, rfl, by decide⟩
def s_X0_explain (N : Nat) (h : IH) (th : Nat) (a0 : Option Nat) (a1 : Int32) : Option (Int32) := (cV h 2 a0 fun a23 => s_X2_isPaired h a23 ).bind fun v1 => if v1 = 0 then (cV h 2 a0 fun a22 => s_X2_isComplete h a22 ).bind fun v3 => if v3 = 0 then some 2 else (gI h 2 6 a0).bind fun v5 => if v5 = (-1) then (gI h 2 10 a0).bind fun v7 => ((if v7 = (-1) then (gL h 2 3 a0).bind fun v9 => (cV h 0 (some th) fun a12 => s_X0_isUnique N h a12 v9).bind fun v10 => if v10 = 0 then some 6 else some 4 else some 3) : Option (Int32)).bind fun q13 => some q13 else (gI h 2 6 a0).bind fun v14 => ((if v14 = a1 then some 6 else (gR h 0 0 (some th)).bind fun v16 => (gI h 2 6 a0).bind fun v17 => (cV h 7 v16 fun a20 => s_X7_withLogAt N h a20 v17).bind fun v18 => if v18 = none then some 6 else some 5) : Option (Int32)).bind fun q21 => some q21 else some 0
set_option maxHeartbeats 4000000 in
set_option maxRecDepth 100000 in
theorem c_X0_explain {l : Launch} {D : va_G} {cy : Nat → ClassId} {sz N : Nat} {h : IH} {th : Nat} {a0 : Option Nat} {a1 : Int32} {qF : Int32} (hs : s_X0_explain N h th a0 a1 = some qF) : Ct l D cy yX0_explain cX0_explain 3 (some .int) rm_X0_explain h sz [.ref th, va_rf a0, .int a1] h (some (.int qF)) := by
  refine ct_start (by decide +kernel) [(0, .ref th), (1, va_rf a0), (2, .int a1)] (by simp [lg_sl, cat_rf, cat_i, cat_j, cat_r]) (by simp [lv_args, cat_rf, cat_i, cat_j, cat_r]) ?_
  intro p e s m args below meth c A H0 ls F hin hsz M hl
  obtain ⟨hx, hb, hr, hml, hown, hlk, hts, hK, hN, hA, hH⟩ := id F
  generalize s.heap = H at M ⊢
  generalize ([] : List Loc) = locs at M ⊢
  unfold s_X0_explain at hs
  refine lo_aload_n hx hb dX0_explain_0 rfl (lv_at hl 1 rfl) ?_
  obtain ⟨v1, g_v1, hs⟩ := bd hs
  obtain ⟨a23, e_a23, k_a23, g_v1⟩ := cV_some g_v1
  refine ca_VNi (bq := a23) (As := []) (rest := []) F M (c_X2_isPaired g_v1) mf_X2_isPaired tN_841 k_a23 rfl ⟨by decide, by decide⟩ ⟨rfl, rfl⟩ ⟨Nat.zero_le _, Nat.zero_le _⟩ hl.1 (by rw [e_a23]; rfl) (by decide) dX0_explain_1 (fun H locs M => ?_)
  refine lv_if_eq (tgt := 9) hx hb dX0_explain_4 (by decide) (fun c2 => ?_) (fun c2 => ?_)
  · rw [if_pos c2] at hs
    refine lo_aload_n hx hb dX0_explain_9 rfl (lv_at hl 1 rfl) ?_
    obtain ⟨v3, g_v3, hs⟩ := bd hs
    obtain ⟨a22, e_a22, k_a22, g_v3⟩ := cV_some g_v3
    refine ca_VNi (bq := a22) (As := []) (rest := []) F M (c_X2_isComplete g_v3) mf_X2_isComplete tN_826 k_a22 rfl ⟨by decide, by decide⟩ ⟨rfl, rfl⟩ ⟨Nat.zero_le _, Nat.zero_le _⟩ hl.1 (by rw [e_a22]; rfl) (by decide) dX0_explain_10 (fun H locs M => ?_)
    refine lv_if_ne (tgt := 18) hx hb dX0_explain_13 (by decide) (fun c4 => ?_) (fun c4 => ?_)
    · rw [if_neg c4] at hs
      refine lo_aload_n hx hb dX0_explain_18 rfl (lv_at hl 1 rfl) ?_
      obtain ⟨v5, g_v5, hs⟩ := bd hs
      refine ro_gIN F M fg_2_6 tN_118 g_v5 dX0_explain_19 ?_
      refine lv_iconst (v := (-1)) hx hb dX0_explain_22 (by decide) ?_
      refine lv_icmp_ne (tgt := 56) hx hb dX0_explain_23 (by decide) (fun c6 => ?_) (fun c6 => ?_)
      · rw [if_neg c6] at hs
        refine lo_aload_n hx hb dX0_explain_56 rfl (lv_at hl 1 rfl) ?_
        obtain ⟨v14, g_v14, hs⟩ := bd hs
        refine ro_gIN F M fg_2_6 tN_118 g_v14 dX0_explain_57 ?_
        refine lv_iload_n hx hb dX0_explain_60 rfl (lv_at hl 2 rfl) ?_
        obtain ⟨q21, hsq21, hs⟩ := bd hs
        have KJ84 : ∀ (ls : Array Slot) (H : Heap) (locs : List Loc), lv_has ls 3 [] → Mo D cy A H0 h H locs → W p l e rm_X0_explain s m args below meth c H locs 0 0 (MQ below (QR D cy h A (some (.int qF))) args s 0 0 A) (F0 m 84 ls [.int q21]) := by
          intro ls H locs hl M
          obtain rfl := Option.some.inj hs
          exact re_i F M dX0_explain_84
        clear hs
        have hs := hsq21
        refine lv_icmp_eq (tgt := 82) hx hb dX0_explain_61 (by decide) (fun c15 => ?_) (fun c15 => ?_)
        · rw [if_pos c15] at hs
          refine lv_bipush (v := 6) hx hb dX0_explain_82 (by decide) ?_
          obtain rfl := Option.some.inj hs
          exact KJ84 _ _ _ (lv_sub hl [] rfl) M
        · rw [if_neg c15] at hs
          refine lv_aload_n hx hb dX0_explain_64 rfl (lv_at hl 0 rfl) ?_
          obtain ⟨v16, g_v16, hs⟩ := bd hs
          refine ro_gR F M fg_0_0 t_295 g_v16 dX0_explain_65 ?_
          refine lo_aload_n hx hb dX0_explain_68 rfl (lv_at hl 1 rfl) ?_
          obtain ⟨v17, g_v17, hs⟩ := bd hs
          refine ro_gIN F M fg_2_6 tN_118 g_v17 dX0_explain_69 ?_
          obtain ⟨v18, g_v18, hs⟩ := bd hs
          obtain ⟨a20, e_a20, k_a20, g_v18⟩ := cV_some g_v18
          refine ca_VNa (bq := a20) (As := [.int v17]) (rest := []) F M (c_X7_withLogAt g_v18) mf_X7_withLogAt tN_870 k_a20 rfl ⟨by decide, by decide⟩ ⟨rfl, rfl⟩ ⟨Nat.zero_le _, Nat.zero_le _⟩ hl.1 (by rw [e_a20]; rfl) (by decide) dX0_explain_72 (fun H locs M => ?_)
          refine lo_ifnull (tgt := 82) hx hb dX0_explain_75 (by decide) (fun c19 => ?_) (fun c19 => ?_)
          · rw [if_pos c19] at hs
            refine lv_bipush (v := 6) hx hb dX0_explain_82 (by decide) ?_
            obtain rfl := Option.some.inj hs
            exact KJ84 _ _ _ (lv_sub hl [] rfl) M
          · rw [if_neg c19] at hs
            refine lv_iconst (v := 5) hx hb dX0_explain_78 (by decide) ?_
            refine lv_goto (tgt := 84) hx hb dX0_explain_79 (by decide) ?_
            obtain rfl := Option.some.inj hs
            exact KJ84 _ _ _ (lv_sub hl [] rfl) M
      · rw [if_pos c6] at hs
        refine lo_aload_n hx hb dX0_explain_26 rfl (lv_at hl 1 rfl) ?_
        obtain ⟨v7, g_v7, hs⟩ := bd hs
        refine ro_gIN F M fg_2_10 tN_131 g_v7 dX0_explain_27 ?_
        refine lv_iconst (v := (-1)) hx hb dX0_explain_30 (by decide) ?_
        obtain ⟨q13, hsq13, hs⟩ := bd hs
        have KJ55 : ∀ (ls : Array Slot) (H : Heap) (locs : List Loc), lv_has ls 3 [] → Mo D cy A H0 h H locs → W p l e rm_X0_explain s m args below meth c H locs 0 0 (MQ below (QR D cy h A (some (.int qF))) args s 0 0 A) (F0 m 55 ls [.int q13]) := by
          intro ls H locs hl M
          obtain rfl := Option.some.inj hs
          exact re_i F M dX0_explain_55
        clear hs
        have hs := hsq13
        refine lv_icmp_eq (tgt := 38) hx hb dX0_explain_31 (by decide) (fun c8 => ?_) (fun c8 => ?_)
        · rw [if_pos c8] at hs
          refine lv_aload_n hx hb dX0_explain_38 rfl (lv_at hl 0 rfl) ?_
          refine lo_aload_n hx hb dX0_explain_39 rfl (lv_at hl 1 rfl) ?_
          obtain ⟨v9, g_v9, hs⟩ := bd hs
          refine ro_gLN F M fg_2_3 tN_105 g_v9 dX0_explain_40 ?_
          obtain ⟨v10, g_v10, hs⟩ := bd hs
          obtain ⟨a12, e_a12, k_a12, g_v10⟩ := cV_some g_v10
          obtain rfl := Option.some.inj e_a12
          refine ca_Vi (bq := th) (As := [.long v9]) (rest := []) F M (c_X0_isUnique g_v10) mf_X0_isUnique t_858 k_a12 rfl ⟨by decide, by decide⟩ ⟨rfl, rfl⟩ ⟨Nat.zero_le _, Nat.zero_le _⟩ hl.1 rfl (by decide) dX0_explain_43 (fun H locs M => ?_)
          refine lv_if_eq (tgt := 53) hx hb dX0_explain_46 (by decide) (fun c11 => ?_) (fun c11 => ?_)
          · rw [if_pos c11] at hs
            refine lv_bipush (v := 6) hx hb dX0_explain_53 (by decide) ?_
            obtain rfl := Option.some.inj hs
            exact KJ55 _ _ _ (lv_sub hl [] rfl) M
          · rw [if_neg c11] at hs
            refine lv_iconst (v := 4) hx hb dX0_explain_49 (by decide) ?_
            refine lv_goto (tgt := 55) hx hb dX0_explain_50 (by decide) ?_
            obtain rfl := Option.some.inj hs
            exact KJ55 _ _ _ (lv_sub hl [] rfl) M
        · rw [if_neg c8] at hs
          refine lv_iconst (v := 3) hx hb dX0_explain_34 (by decide) ?_
          refine lv_goto (tgt := 55) hx hb dX0_explain_35 (by decide) ?_
          obtain rfl := Option.some.inj hs
          exact KJ55 _ _ _ (lv_sub hl [] rfl) M
    · rw [if_pos c4] at hs
      refine lv_iconst (v := 2) hx hb dX0_explain_16 (by decide) ?_
      obtain rfl := Option.some.inj hs
      exact re_i F M dX0_explain_17
  · rw [if_neg c2] at hs
    refine lv_iconst (v := 0) hx hb dX0_explain_7 (by decide) ?_
    obtain rfl := Option.some.inj hs
    exact re_i F M dX0_explain_8
abbrev rm_X0_explainContacts : Room := { frames := 4, cells := 0, slots := 0, locals := 96 }
theorem mf_X0_explainContacts : MV 0 yX0_explainContacts cX0_explainContacts 7 none 1 RX0 := ⟨t_822, t_821, tS_54, t_8, ⟨by decide +kernel, by decide +kernel, by decide +kernel⟩, rfl, by decide⟩
def s_X0_explainContacts_L30 (N : Nat) : Nat → Nat → Int32 → Option Nat → Int32 → Option Nat → Int32 → IH → Option (IH)
  | 0, _, _, _, _, _, _, _ => none
  | n + 1, th, x1, x2, x3, x4, x5, h => if x4 = none then some h else (gI h 4 1 x4).bind fun v7 => if v7 ≤ x5 then some h else (cV h 4 x4 fun a29 => s_X4_contactAt h a29 x5).bind fun v9 => ((if v9 = none then some h else (s_X0_mayBeMisheard h v9).bind fun v11 => ((if v11 = 0 then some (-1) else (cV h 0 (some th) fun a14 => s_X0_stationMeant N h a14 v9 x1 x3).bind fun v13 => some v13) : Option (Int32)).bind fun q15 => (pI h 2 10 v9 q15).bind fun h16 => (cV h16 2 v9 fun a27 => s_X2_isPaired h16 a27 ).bind fun v17 => ((if v17 = 0 then (cV h16 0 (some th) fun a20 => s_X0_explain N h16 a20 v9 x1).bind fun v19 => some v19 else (s_X0_isDupe N h16 v9 x4 x5).bind fun v21 => if v21 = 0 then (cV h16 0 (some th) fun a24 => s_X0_explain N h16 a24 v9 x1).bind fun v23 => some v23 else some 1) : Option (Int32)).bind fun q25 => (pI h16 2 9 v9 q25).bind fun h26 => some h26) : Option (IH)).bind fun q28 => s_X0_explainContacts_L30 N n th x1 x2 x3 x4 (x5 + 1) q28
def s_X0_explainContacts_L11 (N : Nat) : Nat → Nat → Int32 → Option Nat → Int32 → IH → Option (IH)
  | 0, _, _, _, _, _ => none
  | n + 1, th, x1, x2, x3, h => if 3 ≤ x3 then some h else if x2 = none then some h else (cV h 9 x2 fun a31 => s_X9_logOf h a31 x3).bind fun v5 => (s_X0_explainContacts_L30 N N th x1 x2 x3 v5 0 h).bind fun q30 => s_X0_explainContacts_L11 N n th x1 x2 (x3 + 1) q30
def s_X0_explainContacts (N : Nat) (h : IH) (th : Nat) (a0 : Int32) : Option (IH) := (gR h 0 0 (some th)).bind fun v1 => (cV h 7 v1 fun a33 => s_X7_at h a33 a0).bind fun v2 => (s_X0_explainContacts_L11 N N th a0 v2 0 h).bind fun q32 => some q32
set_option maxHeartbeats 4000000 in
set_option maxRecDepth 100000 in
theorem w_X0_explainContacts_L30 {p : Program} {l : Launch} {e : Env} {s : State} {m : MethodId} {args : Array Value} {below : List Frame} {meth : Method} {c : Code} {D : va_G} {cy : Nat → ClassId} {A : Nat → Prop} {H0 : Heap} {N th : Nat} {x1 : Int32} {x2 : Option Nat} {x3 : Int32} {x4 : Option Nat} {qF : IH} (F : Fx p s m args meth c D cy A H0 yX0_explainContacts cX0_explainContacts 7 none) : ∀ (n : Nat) (x5 : Int32) (h : IH) (ls : Array Slot) (H : Heap) (locs : List Loc) (q : IH), s_X0_explainContacts_L30 N n th x1 x2 x3 x4 x5 h = some q → lv_has ls 7 [(0, .ref th), (1, .int x1), (2, va_rf x2), (3, .int x3), (4, va_rf x4), (5, .int x5)] → Mo D cy A H0 h H locs → (∀ (t : IH) (ls : Array Slot) (H : Heap) (locs : List Loc), q = t → lv_has ls 7 [(0, .ref th), (1, .int x1), (2, va_rf x2), (3, .int x3)] → Mo D cy A H0 t H locs → W p l e rm_X0_explainContacts s m args below meth c H locs 0 0 (MQ below (QR D cy qF A none) args s 0 0 A) (F0 m 126 ls [])) → (∀ v : IH, False → v = qF) → W p l e rm_X0_explainContacts s m args below meth c H locs 0 0 (MQ below (QR D cy qF A none) args s 0 0 A) (F0 m 30 ls []) := by
  intro n
  induction n with
  | zero => intro x5 h ls H locs q hs; rw [s_X0_explainContacts_L30.eq_1] at hs; cases hs
  | succ n ih =>
    intro x5 h ls H locs q hs hl M kx kr
    obtain ⟨hx, hb, hr, hml, hown, hlk, hts, hK, hN, hA, hH⟩ := id F
    rw [s_X0_explainContacts_L30.eq_2] at hs
    refine lo_aload hx hb dX0_explainContacts_30 (lv_at hl 4 rfl) ?_
    refine lo_ifnull (tgt := 126) hx hb dX0_explainContacts_32 (by decide) (fun c6 => ?_) (fun c6 => ?_)
    · rw [if_pos c6] at hs
      exact kx h _ _ _ (Option.some.inj hs).symm (lv_sub hl [0, 1, 2, 3] rfl) M
    · rw [if_neg c6] at hs
      refine lv_iload hx hb dX0_explainContacts_35 (lv_at hl 5 rfl) ?_
      refine lo_aload hx hb dX0_explainContacts_37 (lv_at hl 4 rfl) ?_
      obtain ⟨v7, g_v7, hs⟩ := bd hs
      refine ro_gIN F M fg_4_1 tN_169 g_v7 dX0_explainContacts_39 ?_
      refine lv_icmp_ge (tgt := 126) hx hb dX0_explainContacts_42 (by decide) (fun c8 => ?_) (fun c8 => ?_)
      · rw [if_pos c8] at hs
        exact kx h _ _ _ (Option.some.inj hs).symm (lv_sub hl [0, 1, 2, 3] rfl) M
      · rw [if_neg c8] at hs
        refine lo_aload hx hb dX0_explainContacts_45 (lv_at hl 4 rfl) ?_
        refine lv_iload hx hb dX0_explainContacts_47 (lv_at hl 5 rfl) ?_
        obtain ⟨v9, g_v9, hs⟩ := bd hs
        obtain ⟨a29, e_a29, k_a29, g_v9⟩ := cV_some g_v9
        refine ca_VNa (bq := a29) (As := [.int x5]) (rest := []) F M (c_X4_contactAt g_v9) mf_X4_contactAt tN_724 k_a29 rfl ⟨by decide, by decide⟩ ⟨rfl, rfl⟩ ⟨Nat.zero_le _, Nat.zero_le _⟩ hl.1 (by rw [e_a29]; rfl) (by decide) dX0_explainContacts_49 (fun H locs M => ?_)
        refine lo_astore (i := 6) (lv' := [(6, va_rf v9), (0, .ref th), (1, .int x1), (2, va_rf x2), (3, .int x3), (4, va_rf x4), (5, .int x5)]) hx hb dX0_explainContacts_52 hl (by decide) rfl (fun ls hl => ?_)
        refine lo_aload hx hb dX0_explainContacts_54 (lv_at hl 0 rfl) ?_
        obtain ⟨q28, hsq28, hs⟩ := bd hs
        have KJ120 : ∀ (ls : Array Slot) (H : Heap) (locs : List Loc), lv_has ls 7 [(0, .ref th), (1, .int x1), (2, va_rf x2), (3, .int x3), (4, va_rf x4), (5, .int x5)] → Mo D cy A H0 q28 H locs → W p l e rm_X0_explainContacts s m args below meth c H locs 0 0 (MQ below (QR D cy qF A none) args s 0 0 A) (F0 m 120 ls []) := by
          intro ls H locs hl M
          refine lv_iinc (v := x5 + 1) (lv' := [(5, .int (x5 + 1)), (0, .ref th), (1, .int x1), (2, va_rf x2), (3, .int x3), (4, va_rf x4)]) hx hb dX0_explainContacts_120 hl (k := 5) rfl rfl (by decide) (by simp [cat_rf, cat_i, cat_j, cat_r]) (fun ls hl => ?_)
          refine lv_goto (tgt := 30) hx hb dX0_explainContacts_123 (by decide) ?_
          exact ih (x5 + 1) q28 _ _ _ _ hs (lv_sub hl [1, 2, 3, 4, 5, 0] rfl) M kx kr
        clear hs
        have hs := hsq28
        refine lo_ifnull (tgt := 120) hx hb dX0_explainContacts_56 (by decide) (fun c10 => ?_) (fun c10 => ?_)
        · rw [if_pos c10] at hs
          obtain rfl := Option.some.inj hs
          exact KJ120 _ _ _ (lv_sub hl [1, 2, 3, 4, 5, 6] rfl) M
        · rw [if_neg c10] at hs
          refine lo_aload hx hb dX0_explainContacts_59 (lv_at hl 0 rfl) ?_
          refine lo_aload hx hb dX0_explainContacts_61 (lv_at hl 0 rfl) ?_
          obtain ⟨v11, g_v11, hs⟩ := bd hs
          refine ca_Si (As := [va_rf v9]) (rest := [va_rf v9]) F M (c_X0_mayBeMisheard g_v11) mf_X0_mayBeMisheard t_823 rfl ⟨by decide, by decide⟩ ⟨rfl, rfl⟩ ⟨Nat.zero_le _, Nat.zero_le _⟩ hl.1 rfl (by simp [cat_rf, cat_i, cat_j, cat_r]) dX0_explainContacts_63 (fun H locs M => ?_)
          obtain ⟨q15, hsq15, hs⟩ := bd hs
          have KJ81 : ∀ (ls : Array Slot) (H : Heap) (locs : List Loc), lv_has ls 7 [(0, .ref th), (1, .int x1), (2, va_rf x2), (3, .int x3), (4, va_rf x4), (5, .int x5), (6, va_rf v9)] → Mo D cy A H0 h H locs → W p l e rm_X0_explainContacts s m args below meth c H locs 0 0 (MQ below (QR D cy qF A none) args s 0 0 A) (F0 m 81 ls [.int q15, va_rf v9]) := by
            intro ls H locs hl M
            obtain ⟨h16, g_h16, hs⟩ := bd hs
            refine ro_pIN F M fg_2_10 fp_2_10 rfl tN_131 g_h16 dX0_explainContacts_81 (fun H locs M => ?_)
            refine lo_aload hx hb dX0_explainContacts_84 (lv_at hl 6 rfl) ?_
            refine lo_aload hx hb dX0_explainContacts_86 (lv_at hl 6 rfl) ?_
            obtain ⟨v17, g_v17, hs⟩ := bd hs
            obtain ⟨a27, e_a27, k_a27, g_v17⟩ := cV_some g_v17
            refine ca_VNi (bq := a27) (As := []) (rest := [va_rf v9]) F M (c_X2_isPaired g_v17) mf_X2_isPaired tN_841 k_a27 rfl ⟨by decide, by decide⟩ ⟨rfl, rfl⟩ ⟨Nat.zero_le _, Nat.zero_le _⟩ hl.1 (by rw [e_a27]; rfl) (by simp [cat_rf, cat_i, cat_j, cat_r]) dX0_explainContacts_88 (fun H locs M => ?_)
            obtain ⟨q25, hsq25, hs⟩ := bd hs
            have KJ117 : ∀ (ls : Array Slot) (H : Heap) (locs : List Loc), lv_has ls 7 [(0, .ref th), (1, .int x1), (2, va_rf x2), (3, .int x3), (4, va_rf x4), (5, .int x5)] → Mo D cy A H0 h16 H locs → W p l e rm_X0_explainContacts s m args below meth c H locs 0 0 (MQ below (QR D cy qF A none) args s 0 0 A) (F0 m 117 ls [.int q25, va_rf v9]) := by
              intro ls H locs hl M
              obtain ⟨h26, g_h26, hs⟩ := bd hs
              refine ro_pIN F M fg_2_9 fp_2_9 rfl tN_128 g_h26 dX0_explainContacts_117 (fun H locs M => ?_)
              obtain rfl := Option.some.inj hs
              exact KJ120 _ _ _ (lv_sub hl [0, 1, 2, 3, 4, 5] rfl) M
            clear hs
            have hs := hsq25
            refine lv_if_eq (tgt := 110) hx hb dX0_explainContacts_91 (by decide) (fun c18 => ?_) (fun c18 => ?_)
            · rw [if_pos c18] at hs
              refine lv_aload_n hx hb dX0_explainContacts_110 rfl (lv_at hl 0 rfl) ?_
              refine lo_aload hx hb dX0_explainContacts_111 (lv_at hl 6 rfl) ?_
              refine lv_iload_n hx hb dX0_explainContacts_113 rfl (lv_at hl 1 rfl) ?_
              obtain ⟨v19, g_v19, hs⟩ := bd hs
              obtain ⟨a20, e_a20, k_a20, g_v19⟩ := cV_some g_v19
              obtain rfl := Option.some.inj e_a20
              refine ca_Vi (bq := th) (As := [va_rf v9, .int x1]) (rest := [va_rf v9]) F M (c_X0_explain g_v19) mf_X0_explain t_854 k_a20 rfl ⟨by decide, by decide⟩ ⟨rfl, rfl⟩ ⟨Nat.zero_le _, Nat.zero_le _⟩ hl.1 rfl (by simp [cat_rf, cat_i, cat_j, cat_r]) dX0_explainContacts_114 (fun H locs M => ?_)
              obtain rfl := Option.some.inj hs
              exact KJ117 _ _ _ (lv_sub hl [0, 1, 2, 3, 4, 5] rfl) M
            · rw [if_neg c18] at hs
              refine lo_aload hx hb dX0_explainContacts_94 (lv_at hl 6 rfl) ?_
              refine lo_aload hx hb dX0_explainContacts_96 (lv_at hl 4 rfl) ?_
              refine lv_iload hx hb dX0_explainContacts_98 (lv_at hl 5 rfl) ?_
              obtain ⟨v21, g_v21, hs⟩ := bd hs
              refine ca_Si (As := [va_rf v9, va_rf x4, .int x5]) (rest := [va_rf v9]) F M (c_X0_isDupe g_v21) mf_X0_isDupe t_851 rfl ⟨by decide, by decide⟩ ⟨rfl, rfl⟩ ⟨Nat.zero_le _, Nat.zero_le _⟩ hl.1 rfl (by simp [cat_rf, cat_i, cat_j, cat_r]) dX0_explainContacts_100 (fun H locs M => ?_)
              refine lv_if_eq (tgt := 110) hx hb dX0_explainContacts_103 (by decide) (fun c22 => ?_) (fun c22 => ?_)
              · rw [if_pos c22] at hs
                refine lv_aload_n hx hb dX0_explainContacts_110 rfl (lv_at hl 0 rfl) ?_
                refine lo_aload hx hb dX0_explainContacts_111 (lv_at hl 6 rfl) ?_
                refine lv_iload_n hx hb dX0_explainContacts_113 rfl (lv_at hl 1 rfl) ?_
                obtain ⟨v23, g_v23, hs⟩ := bd hs
                obtain ⟨a24, e_a24, k_a24, g_v23⟩ := cV_some g_v23
                obtain rfl := Option.some.inj e_a24
                refine ca_Vi (bq := th) (As := [va_rf v9, .int x1]) (rest := [va_rf v9]) F M (c_X0_explain g_v23) mf_X0_explain t_854 k_a24 rfl ⟨by decide, by decide⟩ ⟨rfl, rfl⟩ ⟨Nat.zero_le _, Nat.zero_le _⟩ hl.1 rfl (by simp [cat_rf, cat_i, cat_j, cat_r]) dX0_explainContacts_114 (fun H locs M => ?_)
                obtain rfl := Option.some.inj hs
                exact KJ117 _ _ _ (lv_sub hl [0, 1, 2, 3, 4, 5] rfl) M
              · rw [if_neg c22] at hs
                refine lv_iconst (v := 1) hx hb dX0_explainContacts_106 (by decide) ?_
                refine lv_goto (tgt := 117) hx hb dX0_explainContacts_107 (by decide) ?_
                obtain rfl := Option.some.inj hs
                exact KJ117 _ _ _ (lv_sub hl [0, 1, 2, 3, 4, 5] rfl) M
          clear hs
          have hs := hsq15
          refine lv_if_eq (tgt := 80) hx hb dX0_explainContacts_66 (by decide) (fun c12 => ?_) (fun c12 => ?_)
          · rw [if_pos c12] at hs
            refine lv_iconst (v := (-1)) hx hb dX0_explainContacts_80 (by decide) ?_
            obtain rfl := Option.some.inj hs
            exact KJ81 _ _ _ (lv_sub hl [1, 2, 3, 4, 5, 6, 0] rfl) M
          · rw [if_neg c12] at hs
            refine lv_aload_n hx hb dX0_explainContacts_69 rfl (lv_at hl 1 rfl) ?_
            refine lo_aload hx hb dX0_explainContacts_70 (lv_at hl 0 rfl) ?_
            refine lv_iload_n hx hb dX0_explainContacts_72 rfl (lv_at hl 2 rfl) ?_
            refine lv_iload_n hx hb dX0_explainContacts_73 rfl (lv_at hl 4 rfl) ?_
            obtain ⟨v13, g_v13, hs⟩ := bd hs
            obtain ⟨a14, e_a14, k_a14, g_v13⟩ := cV_some g_v13
            obtain rfl := Option.some.inj e_a14
            refine ca_Vi (bq := th) (As := [va_rf v9, .int x1, .int x3]) (rest := [va_rf v9]) F M (c_X0_stationMeant g_v13) mf_X0_stationMeant t_827 k_a14 rfl ⟨by decide, by decide⟩ ⟨rfl, rfl⟩ ⟨Nat.zero_le _, Nat.zero_le _⟩ hl.1 rfl (by simp [cat_rf, cat_i, cat_j, cat_r]) dX0_explainContacts_74 (fun H locs M => ?_)
            refine lv_goto (tgt := 81) hx hb dX0_explainContacts_77 (by decide) ?_
            obtain rfl := Option.some.inj hs
            exact KJ81 _ _ _ (lv_sub hl [1, 2, 3, 4, 5, 6, 0] rfl) M
set_option maxHeartbeats 4000000 in
set_option maxRecDepth 100000 in
theorem w_X0_explainContacts_L11 {p : Program} {l : Launch} {e : Env} {s : State} {m : MethodId} {args : Array Value} {below : List Frame} {meth : Method} {c : Code} {D : va_G} {cy : Nat → ClassId} {A : Nat → Prop} {H0 : Heap} {N th : Nat} {x1 : Int32} {x2 : Option Nat} {qF : IH} (F : Fx p s m args meth c D cy A H0 yX0_explainContacts cX0_explainContacts 7 none) : ∀ (n : Nat) (x3 : Int32) (h : IH) (ls : Array Slot) (H : Heap) (locs : List Loc) (q : IH), s_X0_explainContacts_L11 N n th x1 x2 x3 h = some q → lv_has ls 7 [(0, .ref th), (1, .int x1), (2, va_rf x2), (3, .int x3)] → Mo D cy A H0 h H locs → (∀ (t : IH) (ls : Array Slot) (H : Heap) (locs : List Loc), q = t → lv_has ls 7 [] → Mo D cy A H0 t H locs → W p l e rm_X0_explainContacts s m args below meth c H locs 0 0 (MQ below (QR D cy qF A none) args s 0 0 A) (F0 m 132 ls [])) → (∀ v : IH, False → v = qF) → W p l e rm_X0_explainContacts s m args below meth c H locs 0 0 (MQ below (QR D cy qF A none) args s 0 0 A) (F0 m 11 ls []) := by
  intro n
  induction n with
  | zero => intro x3 h ls H locs q hs; rw [s_X0_explainContacts_L11.eq_1] at hs; cases hs
  | succ n ih =>
    intro x3 h ls H locs q hs hl M kx kr
    obtain ⟨hx, hb, hr, hml, hown, hlk, hts, hK, hN, hA, hH⟩ := id F
    rw [s_X0_explainContacts_L11.eq_2] at hs
    refine lv_iload_n hx hb dX0_explainContacts_11 rfl (lv_at hl 3 rfl) ?_
    refine lv_iconst (v := 3) hx hb dX0_explainContacts_12 (by decide) ?_
    refine lv_icmp_ge (tgt := 132) hx hb dX0_explainContacts_13 (by decide) (fun c3 => ?_) (fun c3 => ?_)
    · rw [if_pos c3] at hs
      exact kx h _ _ _ (Option.some.inj hs).symm (lv_sub hl [] rfl) M
    · rw [if_neg c3] at hs
      refine lo_aload_n hx hb dX0_explainContacts_16 rfl (lv_at hl 2 rfl) ?_
      refine lo_ifnull (tgt := 132) hx hb dX0_explainContacts_17 (by decide) (fun c4 => ?_) (fun c4 => ?_)
      · rw [if_pos c4] at hs
        exact kx h _ _ _ (Option.some.inj hs).symm (lv_sub hl [] rfl) M
      · rw [if_neg c4] at hs
        refine lo_aload_n hx hb dX0_explainContacts_20 rfl (lv_at hl 2 rfl) ?_
        refine lv_iload_n hx hb dX0_explainContacts_21 rfl (lv_at hl 3 rfl) ?_
        obtain ⟨v5, g_v5, hs⟩ := bd hs
        obtain ⟨a31, e_a31, k_a31, g_v5⟩ := cV_some g_v5
        refine ca_VNa (bq := a31) (As := [.int x3]) (rest := []) F M (c_X9_logOf g_v5) mf_X9_logOf tN_723 k_a31 rfl ⟨by decide, by decide⟩ ⟨rfl, rfl⟩ ⟨Nat.zero_le _, Nat.zero_le _⟩ hl.1 (by rw [e_a31]; rfl) (by decide) dX0_explainContacts_22 (fun H locs M => ?_)
        refine lo_astore (i := 4) (lv' := [(4, va_rf v5), (0, .ref th), (1, .int x1), (2, va_rf x2), (3, .int x3)]) hx hb dX0_explainContacts_25 hl (by decide) rfl (fun ls hl => ?_)
        refine lv_iconst (v := 0) hx hb dX0_explainContacts_27 (by decide) ?_
        refine lv_istore (i := 5) (lv' := [(5, .int 0), (4, va_rf v5), (0, .ref th), (1, .int x1), (2, va_rf x2), (3, .int x3)]) hx hb dX0_explainContacts_28 hl (by decide) (by simp [cat_rf, cat_i, cat_j, cat_r]) (fun ls hl => ?_)
        obtain ⟨q30, g_q30, hs⟩ := bd hs
        refine w_X0_explainContacts_L30 F N 0 h _ _ _ q30 g_q30 (lv_sub hl [2, 3, 4, 5, 1, 0] rfl) M (fun t_ ls H locs eq_ hl M => ?_) (fun v eq_ => eq_.elim)
        subst eq_
        refine lv_iinc (v := x3 + 1) (lv' := [(3, .int (x3 + 1)), (0, .ref th), (1, .int x1), (2, va_rf x2)]) hx hb dX0_explainContacts_126 hl (k := 3) rfl rfl (by decide) (by simp [cat_rf, cat_i, cat_j, cat_r]) (fun ls hl => ?_)
        refine lv_goto (tgt := 11) hx hb dX0_explainContacts_129 (by decide) ?_
        exact ih (x3 + 1) q30 _ _ _ _ hs (lv_sub hl [1, 2, 3, 0] rfl) M kx kr
set_option maxHeartbeats 4000000 in
set_option maxRecDepth 100000 in
theorem c_X0_explainContacts {l : Launch} {D : va_G} {cy : Nat → ClassId} {sz N : Nat} {h : IH} {th : Nat} {a0 : Int32} {qF : IH} (hs : s_X0_explainContacts N h th a0 = some qF) : Ct l D cy yX0_explainContacts cX0_explainContacts 7 none rm_X0_explainContacts h sz [.ref th, .int a0] qF none := by
  refine ct_start (by decide +kernel) [(0, .ref th), (1, .int a0)] (Nat.le_of_ble_eq_true rfl) rfl ?_
  intro p e s m args below meth c A H0 ls F hin hsz M hl
  obtain ⟨hx, hb, hr, hml, hown, hlk, hts, hK, hN, hA, hH⟩ := id F
  generalize s.heap = H at M ⊢
  generalize ([] : List Loc) = locs at M ⊢
  unfold s_X0_explainContacts at hs
  refine lv_aload_n hx hb dX0_explainContacts_0 rfl (lv_at hl 0 rfl) ?_
  obtain ⟨v1, g_v1, hs⟩ := bd hs
  refine ro_gR F M fg_0_0 t_295 g_v1 dX0_explainContacts_1 ?_
  refine lv_iload_n hx hb dX0_explainContacts_4 rfl (lv_at hl 1 rfl) ?_
  obtain ⟨v2, g_v2, hs⟩ := bd hs
  obtain ⟨a33, e_a33, k_a33, g_v2⟩ := cV_some g_v2
  refine ca_VNa (bq := a33) (As := [.int a0]) (rest := []) F M (c_X7_at g_v2) mf_X7_at tN_722 k_a33 rfl ⟨by decide, by decide⟩ ⟨rfl, rfl⟩ ⟨Nat.zero_le _, Nat.zero_le _⟩ hl.1 (by rw [e_a33]; rfl) (by decide) dX0_explainContacts_5 (fun H locs M => ?_)
  refine lo_astore_n (i := 2) (lv' := [(2, va_rf v2), (0, .ref th), (1, .int a0)]) hx hb dX0_explainContacts_8 rfl hl (by decide) rfl (fun ls hl => ?_)
  refine lv_iconst (v := 0) hx hb dX0_explainContacts_9 (by decide) ?_
  refine lv_istore_n (i := 3) (lv' := [(3, .int 0), (2, va_rf v2), (0, .ref th), (1, .int a0)]) hx hb dX0_explainContacts_10 rfl hl (by decide) (by simp [cat_rf, cat_i, cat_j, cat_r]) (fun ls hl => ?_)
  obtain ⟨q32, g_q32, hs⟩ := bd hs
  refine w_X0_explainContacts_L11 F N 0 h _ _ _ q32 g_q32 (lv_sub hl [2, 3, 1, 0] rfl) M (fun t_ ls H locs eq_ hl M => ?_) (fun v eq_ => eq_.elim)
  subst eq_
  obtain rfl := Option.some.inj hs
  exact re_v F M dX0_explainContacts_132
abbrev rm_X0_refresh : Room := { frames := 5, cells := 0, slots := 0, locals := 126 }
theorem mf_X0_refresh : MV 0 yX0_refresh cX0_refresh 4 none 0 RX0 := ⟨t_717, t_716, tS_37, t_8, ⟨by decide +kernel, by decide +kernel, by decide +kernel⟩, rfl, by decide⟩
def s_X0_refresh_L15 (N : Nat) : Nat → Nat → Int32 → IH → Option (IH)
  | 0, _, _, _ => none
  | n + 1, th, x1, h => (gR h 0 0 (some th)).bind fun v4 => (gI h 7 1 v4).bind fun v5 => if v5 ≤ x1 then some h else (cV h 0 (some th) fun a8 => s_X0_clearContacts N h a8 x1).bind fun v7 => s_X0_refresh_L15 N n th (x1 + 1) v7
def s_X0_refresh_L39 (N : Nat) : Nat → Nat → Int32 → IH → Option (IH)
  | 0, _, _, _ => none
  | n + 1, th, x1, h => (gR h 0 0 (some th)).bind fun v10 => (gI h 7 1 v10).bind fun v11 => if v11 ≤ x1 then some h else (gR h 0 0 (some th)).bind fun v13 => (cV h 7 v13 fun a22 => s_X7_at h a22 x1).bind fun v14 => ((if v14 = none then some h else (gR h 0 1 (some th)).bind fun v16 => (gI h 0 3 (some th)).bind fun v17 => (cV h 1 v16 fun a20 => s_X1_offsetOf N h a20 x1 v17).bind fun v18 => (pL v18.2 9 8 v14 v18.1).bind fun h19 => some h19) : Option (IH)).bind fun q21 => s_X0_refresh_L39 N n th (x1 + 1) q21
def s_X0_refresh_L115 (N : Nat) : Nat → Nat → Int32 → Int32 → Int32 → IH → Option (IH)
  | 0, _, _, _, _, _ => none
  | n + 1, th, x1, x2, x3, h => if 3 ≤ x3 then some h else (gR h 0 2 (some th)).bind fun v31 => (gR h 0 0 (some th)).bind fun v32 => (gI h 0 3 (some th)).bind fun v33 => (cV h 6 v31 fun a35 => s_X6_pairUp N h a35 v32 x1 x2 x3 v33).bind fun v34 => s_X0_refresh_L115 N n th x1 x2 (x3 + 1) v34
def s_X0_refresh_L102 (N : Nat) : Nat → Nat → Int32 → Int32 → IH → Option (IH)
  | 0, _, _, _, _ => none
  | n + 1, th, x1, x2, h => (gR h 0 0 (some th)).bind fun v27 => (gI h 7 1 v27).bind fun v28 => if v28 ≤ x2 then some h else (s_X0_refresh_L115 N N th x1 x2 0 h).bind fun q36 => s_X0_refresh_L102 N n th x1 (x2 + 1) q36
def s_X0_refresh_L87 (N : Nat) : Nat → Nat → Int32 → IH → Option (IH)
  | 0, _, _, _ => none
  | n + 1, th, x1, h => (gR h 0 0 (some th)).bind fun v24 => (gI h 7 1 v24).bind fun v25 => if v25 ≤ x1 then some h else (s_X0_refresh_L102 N N th x1 (x1 + 1) h).bind fun q37 => s_X0_refresh_L87 N n th (x1 + 1) q37
def s_X0_refresh_L158 (N : Nat) : Nat → Nat → Int32 → IH → Option (IH)
  | 0, _, _, _ => none
  | n + 1, th, x1, h => (gR h 0 0 (some th)).bind fun v39 => (gI h 7 1 v39).bind fun v40 => if v40 ≤ x1 then some h else (cV h 0 (some th) fun a43 => s_X0_explainContacts N h a43 x1).bind fun v42 => s_X0_refresh_L158 N n th (x1 + 1) v42
def s_X0_refresh (N : Nat) (h : IH) (th : Nat) : Option (IH) := (gI h 0 4 (some th)).bind fun v1 => if v1 = 0 then (pZ h 0 4 (some th) 1).bind fun h3 => (s_X0_refresh_L15 N N th 0 h3).bind fun q9 => (s_X0_refresh_L39 N N th 0 q9).bind fun q23 => (s_X0_refresh_L87 N N th 0 q23).bind fun q38 => (s_X0_refresh_L158 N N th 0 q38).bind fun q44 => some q44 else some h
set_option maxHeartbeats 4000000 in
set_option maxRecDepth 100000 in
theorem w_X0_refresh_L15 {p : Program} {l : Launch} {e : Env} {s : State} {m : MethodId} {args : Array Value} {below : List Frame} {meth : Method} {c : Code} {D : va_G} {cy : Nat → ClassId} {A : Nat → Prop} {H0 : Heap} {N th : Nat} {qF : IH} (F : Fx p s m args meth c D cy A H0 yX0_refresh cX0_refresh 4 none) : ∀ (n : Nat) (x1 : Int32) (h : IH) (ls : Array Slot) (H : Heap) (locs : List Loc) (q : IH), s_X0_refresh_L15 N n th x1 h = some q → lv_has ls 4 [(0, .ref th), (1, .int x1)] → Mo D cy A H0 h H locs → (∀ (t : IH) (ls : Array Slot) (H : Heap) (locs : List Loc), q = t → lv_has ls 4 [(0, .ref th)] → Mo D cy A H0 t H locs → W p l e rm_X0_refresh s m args below meth c H locs 0 0 (MQ below (QR D cy qF A none) args s 0 0 A) (F0 m 37 ls [])) → (∀ v : IH, False → v = qF) → W p l e rm_X0_refresh s m args below meth c H locs 0 0 (MQ below (QR D cy qF A none) args s 0 0 A) (F0 m 15 ls []) := by
  intro n
  induction n with
  | zero => intro x1 h ls H locs q hs; rw [s_X0_refresh_L15.eq_1] at hs; cases hs
  | succ n ih =>
    intro x1 h ls H locs q hs hl M kx kr
    obtain ⟨hx, hb, hr, hml, hown, hlk, hts, hK, hN, hA, hH⟩ := id F
    rw [s_X0_refresh_L15.eq_2] at hs
    refine lv_iload_n hx hb dX0_refresh_15 rfl (lv_at hl 1 rfl) ?_
    refine lv_aload_n hx hb dX0_refresh_16 rfl (lv_at hl 0 rfl) ?_
    obtain ⟨v4, g_v4, hs⟩ := bd hs
    refine ro_gR F M fg_0_0 t_295 g_v4 dX0_refresh_17 ?_
    obtain ⟨v5, g_v5, hs⟩ := bd hs
    refine ro_gIN F M fg_7_1 tN_71 g_v5 dX0_refresh_20 ?_
    refine lv_icmp_ge (tgt := 37) hx hb dX0_refresh_23 (by decide) (fun c6 => ?_) (fun c6 => ?_)
    · rw [if_pos c6] at hs
      exact kx h _ _ _ (Option.some.inj hs).symm (lv_sub hl [0] rfl) M
    · rw [if_neg c6] at hs
      refine lv_aload_n hx hb dX0_refresh_26 rfl (lv_at hl 0 rfl) ?_
      refine lv_iload_n hx hb dX0_refresh_27 rfl (lv_at hl 1 rfl) ?_
      obtain ⟨v7, g_v7, hs⟩ := bd hs
      obtain ⟨a8, e_a8, k_a8, g_v7⟩ := cV_some g_v7
      obtain rfl := Option.some.inj e_a8
      refine ca_Vv (bq := th) (As := [.int x1]) (rest := []) F M (c_X0_clearContacts g_v7) mf_X0_clearContacts t_718 k_a8 rfl ⟨by decide, by decide⟩ ⟨rfl, rfl⟩ ⟨Nat.zero_le _, Nat.zero_le _⟩ hl.1 rfl (by decide) dX0_refresh_28 (fun H locs M => ?_)
      refine lv_iinc (v := x1 + 1) (lv' := [(1, .int (x1 + 1)), (0, .ref th)]) hx hb dX0_refresh_31 hl (k := 1) rfl rfl (by decide) rfl (fun ls hl => ?_)
      refine lv_goto (tgt := 15) hx hb dX0_refresh_34 (by decide) ?_
      exact ih (x1 + 1) v7 _ _ _ _ hs (lv_sub hl [1, 0] rfl) M kx kr
set_option maxHeartbeats 4000000 in
set_option maxRecDepth 100000 in
theorem w_X0_refresh_L39 {p : Program} {l : Launch} {e : Env} {s : State} {m : MethodId} {args : Array Value} {below : List Frame} {meth : Method} {c : Code} {D : va_G} {cy : Nat → ClassId} {A : Nat → Prop} {H0 : Heap} {N th : Nat} {qF : IH} (F : Fx p s m args meth c D cy A H0 yX0_refresh cX0_refresh 4 none) : ∀ (n : Nat) (x1 : Int32) (h : IH) (ls : Array Slot) (H : Heap) (locs : List Loc) (q : IH), s_X0_refresh_L39 N n th x1 h = some q → lv_has ls 4 [(0, .ref th), (1, .int x1)] → Mo D cy A H0 h H locs → (∀ (t : IH) (ls : Array Slot) (H : Heap) (locs : List Loc), q = t → lv_has ls 4 [(0, .ref th)] → Mo D cy A H0 t H locs → W p l e rm_X0_refresh s m args below meth c H locs 0 0 (MQ below (QR D cy qF A none) args s 0 0 A) (F0 m 85 ls [])) → (∀ v : IH, False → v = qF) → W p l e rm_X0_refresh s m args below meth c H locs 0 0 (MQ below (QR D cy qF A none) args s 0 0 A) (F0 m 39 ls []) := by
  intro n
  induction n with
  | zero => intro x1 h ls H locs q hs; rw [s_X0_refresh_L39.eq_1] at hs; cases hs
  | succ n ih =>
    intro x1 h ls H locs q hs hl M kx kr
    obtain ⟨hx, hb, hr, hml, hown, hlk, hts, hK, hN, hA, hH⟩ := id F
    rw [s_X0_refresh_L39.eq_2] at hs
    refine lv_iload_n hx hb dX0_refresh_39 rfl (lv_at hl 1 rfl) ?_
    refine lv_aload_n hx hb dX0_refresh_40 rfl (lv_at hl 0 rfl) ?_
    obtain ⟨v10, g_v10, hs⟩ := bd hs
    refine ro_gR F M fg_0_0 t_295 g_v10 dX0_refresh_41 ?_
    obtain ⟨v11, g_v11, hs⟩ := bd hs
    refine ro_gIN F M fg_7_1 tN_71 g_v11 dX0_refresh_44 ?_
    refine lv_icmp_ge (tgt := 85) hx hb dX0_refresh_47 (by decide) (fun c12 => ?_) (fun c12 => ?_)
    · rw [if_pos c12] at hs
      exact kx h _ _ _ (Option.some.inj hs).symm (lv_sub hl [0] rfl) M
    · rw [if_neg c12] at hs
      refine lv_aload_n hx hb dX0_refresh_50 rfl (lv_at hl 0 rfl) ?_
      obtain ⟨v13, g_v13, hs⟩ := bd hs
      refine ro_gR F M fg_0_0 t_295 g_v13 dX0_refresh_51 ?_
      refine lv_iload_n hx hb dX0_refresh_54 rfl (lv_at hl 1 rfl) ?_
      obtain ⟨v14, g_v14, hs⟩ := bd hs
      obtain ⟨a22, e_a22, k_a22, g_v14⟩ := cV_some g_v14
      refine ca_VNa (bq := a22) (As := [.int x1]) (rest := []) F M (c_X7_at g_v14) mf_X7_at tN_722 k_a22 rfl ⟨by decide, by decide⟩ ⟨rfl, rfl⟩ ⟨Nat.zero_le _, Nat.zero_le _⟩ hl.1 (by rw [e_a22]; rfl) (by decide) dX0_refresh_55 (fun H locs M => ?_)
      refine lo_astore_n (i := 2) (lv' := [(2, va_rf v14), (0, .ref th), (1, .int x1)]) hx hb dX0_refresh_58 rfl hl (by decide) rfl (fun ls hl => ?_)
      refine lo_aload_n hx hb dX0_refresh_59 rfl (lv_at hl 0 rfl) ?_
      obtain ⟨q21, hsq21, hs⟩ := bd hs
      have KJ79 : ∀ (ls : Array Slot) (H : Heap) (locs : List Loc), lv_has ls 4 [(0, .ref th), (1, .int x1)] → Mo D cy A H0 q21 H locs → W p l e rm_X0_refresh s m args below meth c H locs 0 0 (MQ below (QR D cy qF A none) args s 0 0 A) (F0 m 79 ls []) := by
        intro ls H locs hl M
        refine lv_iinc (v := x1 + 1) (lv' := [(1, .int (x1 + 1)), (0, .ref th)]) hx hb dX0_refresh_79 hl (k := 1) rfl rfl (by decide) rfl (fun ls hl => ?_)
        refine lv_goto (tgt := 39) hx hb dX0_refresh_82 (by decide) ?_
        exact ih (x1 + 1) q21 _ _ _ _ hs (lv_sub hl [1, 0] rfl) M kx kr
      clear hs
      have hs := hsq21
      refine lo_ifnull (tgt := 79) hx hb dX0_refresh_60 (by decide) (fun c15 => ?_) (fun c15 => ?_)
      · rw [if_pos c15] at hs
        obtain rfl := Option.some.inj hs
        exact KJ79 _ _ _ (lv_sub hl [1, 2] rfl) M
      · rw [if_neg c15] at hs
        refine lo_aload_n hx hb dX0_refresh_63 rfl (lv_at hl 0 rfl) ?_
        refine lv_aload_n hx hb dX0_refresh_64 rfl (lv_at hl 1 rfl) ?_
        obtain ⟨v16, g_v16, hs⟩ := bd hs
        refine ro_gR F M fg_0_1 t_296 g_v16 dX0_refresh_65 ?_
        refine lv_iload_n hx hb dX0_refresh_68 rfl (lv_at hl 2 rfl) ?_
        refine lv_aload_n hx hb dX0_refresh_69 rfl (lv_at hl 1 rfl) ?_
        obtain ⟨v17, g_v17, hs⟩ := bd hs
        refine ro_gI F M fg_0_3 t_298 g_v17 dX0_refresh_70 ?_
        obtain ⟨v18, g_v18, hs⟩ := bd hs
        obtain ⟨a20, e_a20, k_a20, g_v18⟩ := cV_some g_v18
        refine ca_VNl (bq := a20) (As := [.int x1, .int v17]) (rest := [va_rf v14]) F M (c_X1_offsetOf g_v18) mf_X1_offsetOf tN_729 k_a20 rfl ⟨by decide, by decide⟩ ⟨rfl, rfl⟩ ⟨Nat.zero_le _, Nat.zero_le _⟩ hl.1 (by rw [e_a20]; rfl) (by simp [cat_rf, cat_i, cat_j, cat_r]) dX0_refresh_73 (fun H locs M => ?_)
        obtain ⟨h19, g_h19, hs⟩ := bd hs
        refine ro_pLN F M fg_9_8 fp_9_8 rfl tN_437 g_h19 dX0_refresh_76 (fun H locs M => ?_)
        obtain rfl := Option.some.inj hs
        exact KJ79 _ _ _ (lv_sub hl [1, 2] rfl) M
set_option maxHeartbeats 4000000 in
set_option maxRecDepth 100000 in
theorem w_X0_refresh_L115 {p : Program} {l : Launch} {e : Env} {s : State} {m : MethodId} {args : Array Value} {below : List Frame} {meth : Method} {c : Code} {D : va_G} {cy : Nat → ClassId} {A : Nat → Prop} {H0 : Heap} {N th : Nat} {x1 : Int32} {x2 : Int32} {qF : IH} (F : Fx p s m args meth c D cy A H0 yX0_refresh cX0_refresh 4 none) : ∀ (n : Nat) (x3 : Int32) (h : IH) (ls : Array Slot) (H : Heap) (locs : List Loc) (q : IH), s_X0_refresh_L115 N n th x1 x2 x3 h = some q → lv_has ls 4 [(0, .ref th), (1, .int x1), (2, .int x2), (3, .int x3)] → Mo D cy A H0 h H locs → (∀ (t : IH) (ls : Array Slot) (H : Heap) (locs : List Loc), q = t → lv_has ls 4 [(0, .ref th), (1, .int x1), (2, .int x2)] → Mo D cy A H0 t H locs → W p l e rm_X0_refresh s m args below meth c H locs 0 0 (MQ below (QR D cy qF A none) args s 0 0 A) (F0 m 144 ls [])) → (∀ v : IH, False → v = qF) → W p l e rm_X0_refresh s m args below meth c H locs 0 0 (MQ below (QR D cy qF A none) args s 0 0 A) (F0 m 115 ls []) := by
  intro n
  induction n with
  | zero => intro x3 h ls H locs q hs; rw [s_X0_refresh_L115.eq_1] at hs; cases hs
  | succ n ih =>
    intro x3 h ls H locs q hs hl M kx kr
    obtain ⟨hx, hb, hr, hml, hown, hlk, hts, hK, hN, hA, hH⟩ := id F
    rw [s_X0_refresh_L115.eq_2] at hs
    refine lv_iload_n hx hb dX0_refresh_115 rfl (lv_at hl 3 rfl) ?_
    refine lv_iconst (v := 3) hx hb dX0_refresh_116 (by decide) ?_
    refine lv_icmp_ge (tgt := 144) hx hb dX0_refresh_117 (by decide) (fun c30 => ?_) (fun c30 => ?_)
    · rw [if_pos c30] at hs
      exact kx h _ _ _ (Option.some.inj hs).symm (lv_sub hl [0, 1, 2] rfl) M
    · rw [if_neg c30] at hs
      refine lv_aload_n hx hb dX0_refresh_120 rfl (lv_at hl 0 rfl) ?_
      obtain ⟨v31, g_v31, hs⟩ := bd hs
      refine ro_gR F M fg_0_2 t_297 g_v31 dX0_refresh_121 ?_
      refine lv_aload_n hx hb dX0_refresh_124 rfl (lv_at hl 0 rfl) ?_
      obtain ⟨v32, g_v32, hs⟩ := bd hs
      refine ro_gR F M fg_0_0 t_295 g_v32 dX0_refresh_125 ?_
      refine lv_iload_n hx hb dX0_refresh_128 rfl (lv_at hl 1 rfl) ?_
      refine lv_iload_n hx hb dX0_refresh_129 rfl (lv_at hl 2 rfl) ?_
      refine lv_iload_n hx hb dX0_refresh_130 rfl (lv_at hl 3 rfl) ?_
      refine lv_aload_n hx hb dX0_refresh_131 rfl (lv_at hl 0 rfl) ?_
      obtain ⟨v33, g_v33, hs⟩ := bd hs
      refine ro_gI F M fg_0_3 t_298 g_v33 dX0_refresh_132 ?_
      obtain ⟨v34, g_v34, hs⟩ := bd hs
      obtain ⟨a35, e_a35, k_a35, g_v34⟩ := cV_some g_v34
      refine ca_VNv (bq := a35) (As := [va_rf v32, .int x1, .int x2, .int x3, .int v33]) (rest := []) F M (c_X6_pairUp g_v34) mf_X6_pairUp tN_770 k_a35 rfl ⟨by decide, by decide⟩ ⟨rfl, rfl⟩ ⟨Nat.zero_le _, Nat.zero_le _⟩ hl.1 (by rw [e_a35]; rfl) (by decide) dX0_refresh_135 (fun H locs M => ?_)
      refine lv_iinc (v := x3 + 1) (lv' := [(3, .int (x3 + 1)), (0, .ref th), (1, .int x1), (2, .int x2)]) hx hb dX0_refresh_138 hl (k := 3) rfl rfl (by decide) rfl (fun ls hl => ?_)
      refine lv_goto (tgt := 115) hx hb dX0_refresh_141 (by decide) ?_
      exact ih (x3 + 1) v34 _ _ _ _ hs (lv_sub hl [1, 2, 3, 0] rfl) M kx kr
set_option maxHeartbeats 4000000 in
set_option maxRecDepth 100000 in
theorem w_X0_refresh_L102 {p : Program} {l : Launch} {e : Env} {s : State} {m : MethodId} {args : Array Value} {below : List Frame} {meth : Method} {c : Code} {D : va_G} {cy : Nat → ClassId} {A : Nat → Prop} {H0 : Heap} {N th : Nat} {x1 : Int32} {qF : IH} (F : Fx p s m args meth c D cy A H0 yX0_refresh cX0_refresh 4 none) : ∀ (n : Nat) (x2 : Int32) (h : IH) (ls : Array Slot) (H : Heap) (locs : List Loc) (q : IH), s_X0_refresh_L102 N n th x1 x2 h = some q → lv_has ls 4 [(0, .ref th), (1, .int x1), (2, .int x2)] → Mo D cy A H0 h H locs → (∀ (t : IH) (ls : Array Slot) (H : Heap) (locs : List Loc), q = t → lv_has ls 4 [(0, .ref th), (1, .int x1)] → Mo D cy A H0 t H locs → W p l e rm_X0_refresh s m args below meth c H locs 0 0 (MQ below (QR D cy qF A none) args s 0 0 A) (F0 m 150 ls [])) → (∀ v : IH, False → v = qF) → W p l e rm_X0_refresh s m args below meth c H locs 0 0 (MQ below (QR D cy qF A none) args s 0 0 A) (F0 m 102 ls []) := by
  intro n
  induction n with
  | zero => intro x2 h ls H locs q hs; rw [s_X0_refresh_L102.eq_1] at hs; cases hs
  | succ n ih =>
    intro x2 h ls H locs q hs hl M kx kr
    obtain ⟨hx, hb, hr, hml, hown, hlk, hts, hK, hN, hA, hH⟩ := id F
    rw [s_X0_refresh_L102.eq_2] at hs
    refine lv_iload_n hx hb dX0_refresh_102 rfl (lv_at hl 2 rfl) ?_
    refine lv_aload_n hx hb dX0_refresh_103 rfl (lv_at hl 0 rfl) ?_
    obtain ⟨v27, g_v27, hs⟩ := bd hs
    refine ro_gR F M fg_0_0 t_295 g_v27 dX0_refresh_104 ?_
    obtain ⟨v28, g_v28, hs⟩ := bd hs
    refine ro_gIN F M fg_7_1 tN_71 g_v28 dX0_refresh_107 ?_
    refine lv_icmp_ge (tgt := 150) hx hb dX0_refresh_110 (by decide) (fun c29 => ?_) (fun c29 => ?_)
    · rw [if_pos c29] at hs
      exact kx h _ _ _ (Option.some.inj hs).symm (lv_sub hl [0, 1] rfl) M
    · rw [if_neg c29] at hs
      refine lv_iconst (v := 0) hx hb dX0_refresh_113 (by decide) ?_
      refine lv_istore_n (i := 3) (lv' := [(3, .int 0), (0, .ref th), (1, .int x1), (2, .int x2)]) hx hb dX0_refresh_114 rfl hl (by decide) rfl (fun ls hl => ?_)
      obtain ⟨q36, g_q36, hs⟩ := bd hs
      refine w_X0_refresh_L115 F N 0 h _ _ _ q36 g_q36 (lv_sub hl [1, 2, 3, 0] rfl) M (fun t_ ls H locs eq_ hl M => ?_) (fun v eq_ => eq_.elim)
      subst eq_
      refine lv_iinc (v := x2 + 1) (lv' := [(2, .int (x2 + 1)), (0, .ref th), (1, .int x1)]) hx hb dX0_refresh_144 hl (k := 2) rfl rfl (by decide) rfl (fun ls hl => ?_)
      refine lv_goto (tgt := 102) hx hb dX0_refresh_147 (by decide) ?_
      exact ih (x2 + 1) q36 _ _ _ _ hs (lv_sub hl [1, 2, 0] rfl) M kx kr
set_option maxHeartbeats 4000000 in
set_option maxRecDepth 100000 in
theorem w_X0_refresh_L87 {p : Program} {l : Launch} {e : Env} {s : State} {m : MethodId} {args : Array Value} {below : List Frame} {meth : Method} {c : Code} {D : va_G} {cy : Nat → ClassId} {A : Nat → Prop} {H0 : Heap} {N th : Nat} {qF : IH} (F : Fx p s m args meth c D cy A H0 yX0_refresh cX0_refresh 4 none) : ∀ (n : Nat) (x1 : Int32) (h : IH) (ls : Array Slot) (H : Heap) (locs : List Loc) (q : IH), s_X0_refresh_L87 N n th x1 h = some q → lv_has ls 4 [(0, .ref th), (1, .int x1)] → Mo D cy A H0 h H locs → (∀ (t : IH) (ls : Array Slot) (H : Heap) (locs : List Loc), q = t → lv_has ls 4 [(0, .ref th)] → Mo D cy A H0 t H locs → W p l e rm_X0_refresh s m args below meth c H locs 0 0 (MQ below (QR D cy qF A none) args s 0 0 A) (F0 m 156 ls [])) → (∀ v : IH, False → v = qF) → W p l e rm_X0_refresh s m args below meth c H locs 0 0 (MQ below (QR D cy qF A none) args s 0 0 A) (F0 m 87 ls []) := by
  intro n
  induction n with
  | zero => intro x1 h ls H locs q hs; rw [s_X0_refresh_L87.eq_1] at hs; cases hs
  | succ n ih =>
    intro x1 h ls H locs q hs hl M kx kr
    obtain ⟨hx, hb, hr, hml, hown, hlk, hts, hK, hN, hA, hH⟩ := id F
    rw [s_X0_refresh_L87.eq_2] at hs
    refine lv_iload_n hx hb dX0_refresh_87 rfl (lv_at hl 1 rfl) ?_
    refine lv_aload_n hx hb dX0_refresh_88 rfl (lv_at hl 0 rfl) ?_
    obtain ⟨v24, g_v24, hs⟩ := bd hs
    refine ro_gR F M fg_0_0 t_295 g_v24 dX0_refresh_89 ?_
    obtain ⟨v25, g_v25, hs⟩ := bd hs
    refine ro_gIN F M fg_7_1 tN_71 g_v25 dX0_refresh_92 ?_
    refine lv_icmp_ge (tgt := 156) hx hb dX0_refresh_95 (by decide) (fun c26 => ?_) (fun c26 => ?_)
    · rw [if_pos c26] at hs
      exact kx h _ _ _ (Option.some.inj hs).symm (lv_sub hl [0] rfl) M
    · rw [if_neg c26] at hs
      refine lv_iload_n hx hb dX0_refresh_98 rfl (lv_at hl 1 rfl) ?_
      refine lv_iconst (v := 1) hx hb dX0_refresh_99 (by decide) ?_
      refine lv_iadd hx hb dX0_refresh_100 ?_
      refine lv_istore_n (i := 2) (lv' := [(2, .int (x1 + 1)), (0, .ref th), (1, .int x1)]) hx hb dX0_refresh_101 rfl hl (by decide) rfl (fun ls hl => ?_)
      obtain ⟨q37, g_q37, hs⟩ := bd hs
      refine w_X0_refresh_L102 F N (x1 + 1) h _ _ _ q37 g_q37 (lv_sub hl [1, 2, 0] rfl) M (fun t_ ls H locs eq_ hl M => ?_) (fun v eq_ => eq_.elim)
      subst eq_
      refine lv_iinc (v := x1 + 1) (lv' := [(1, .int (x1 + 1)), (0, .ref th)]) hx hb dX0_refresh_150 hl (k := 1) rfl rfl (by decide) rfl (fun ls hl => ?_)
      refine lv_goto (tgt := 87) hx hb dX0_refresh_153 (by decide) ?_
      exact ih (x1 + 1) q37 _ _ _ _ hs (lv_sub hl [1, 0] rfl) M kx kr
set_option maxHeartbeats 4000000 in
set_option maxRecDepth 100000 in
theorem w_X0_refresh_L158 {p : Program} {l : Launch} {e : Env} {s : State} {m : MethodId} {args : Array Value} {below : List Frame} {meth : Method} {c : Code} {D : va_G} {cy : Nat → ClassId} {A : Nat → Prop} {H0 : Heap} {N th : Nat} {qF : IH} (F : Fx p s m args meth c D cy A H0 yX0_refresh cX0_refresh 4 none) : ∀ (n : Nat) (x1 : Int32) (h : IH) (ls : Array Slot) (H : Heap) (locs : List Loc) (q : IH), s_X0_refresh_L158 N n th x1 h = some q → lv_has ls 4 [(0, .ref th), (1, .int x1)] → Mo D cy A H0 h H locs → (∀ (t : IH) (ls : Array Slot) (H : Heap) (locs : List Loc), q = t → lv_has ls 4 [] → Mo D cy A H0 t H locs → W p l e rm_X0_refresh s m args below meth c H locs 0 0 (MQ below (QR D cy qF A none) args s 0 0 A) (F0 m 180 ls [])) → (∀ v : IH, False → v = qF) → W p l e rm_X0_refresh s m args below meth c H locs 0 0 (MQ below (QR D cy qF A none) args s 0 0 A) (F0 m 158 ls []) := by
  intro n
  induction n with
  | zero => intro x1 h ls H locs q hs; rw [s_X0_refresh_L158.eq_1] at hs; cases hs
  | succ n ih =>
    intro x1 h ls H locs q hs hl M kx kr
    obtain ⟨hx, hb, hr, hml, hown, hlk, hts, hK, hN, hA, hH⟩ := id F
    rw [s_X0_refresh_L158.eq_2] at hs
    refine lv_iload_n hx hb dX0_refresh_158 rfl (lv_at hl 1 rfl) ?_
    refine lv_aload_n hx hb dX0_refresh_159 rfl (lv_at hl 0 rfl) ?_
    obtain ⟨v39, g_v39, hs⟩ := bd hs
    refine ro_gR F M fg_0_0 t_295 g_v39 dX0_refresh_160 ?_
    obtain ⟨v40, g_v40, hs⟩ := bd hs
    refine ro_gIN F M fg_7_1 tN_71 g_v40 dX0_refresh_163 ?_
    refine lv_icmp_ge (tgt := 180) hx hb dX0_refresh_166 (by decide) (fun c41 => ?_) (fun c41 => ?_)
    · rw [if_pos c41] at hs
      exact kx h _ _ _ (Option.some.inj hs).symm (lv_sub hl [] rfl) M
    · rw [if_neg c41] at hs
      refine lv_aload_n hx hb dX0_refresh_169 rfl (lv_at hl 0 rfl) ?_
      refine lv_iload_n hx hb dX0_refresh_170 rfl (lv_at hl 1 rfl) ?_
      obtain ⟨v42, g_v42, hs⟩ := bd hs
      obtain ⟨a43, e_a43, k_a43, g_v42⟩ := cV_some g_v42
      obtain rfl := Option.some.inj e_a43
      refine ca_Vv (bq := th) (As := [.int x1]) (rest := []) F M (c_X0_explainContacts g_v42) mf_X0_explainContacts t_819 k_a43 rfl ⟨by decide, by decide⟩ ⟨rfl, rfl⟩ ⟨Nat.zero_le _, Nat.zero_le _⟩ hl.1 rfl (by decide) dX0_refresh_171 (fun H locs M => ?_)
      refine lv_iinc (v := x1 + 1) (lv' := [(1, .int (x1 + 1)), (0, .ref th)]) hx hb dX0_refresh_174 hl (k := 1) rfl rfl (by decide) rfl (fun ls hl => ?_)
      refine lv_goto (tgt := 158) hx hb dX0_refresh_177 (by decide) ?_
      exact ih (x1 + 1) v42 _ _ _ _ hs (lv_sub hl [1, 0] rfl) M kx kr
set_option maxHeartbeats 4000000 in
set_option maxRecDepth 100000 in
theorem c_X0_refresh {l : Launch} {D : va_G} {cy : Nat → ClassId} {sz N : Nat} {h : IH} {th : Nat} {qF : IH} (hs : s_X0_refresh N h th = some qF) : Ct l D cy yX0_refresh cX0_refresh 4 none rm_X0_refresh h sz [.ref th] qF none := by
  refine ct_start (by decide +kernel) [(0, .ref th)] (Nat.le_of_ble_eq_true rfl) rfl ?_
  intro p e s m args below meth c A H0 ls F hin hsz M hl
  obtain ⟨hx, hb, hr, hml, hown, hlk, hts, hK, hN, hA, hH⟩ := id F
  generalize s.heap = H at M ⊢
  generalize ([] : List Loc) = locs at M ⊢
  unfold s_X0_refresh at hs
  refine lv_aload_n hx hb dX0_refresh_0 rfl (lv_at hl 0 rfl) ?_
  obtain ⟨v1, g_v1, hs⟩ := bd hs
  refine ro_gI F M fg_0_4 t_299 g_v1 dX0_refresh_1 ?_
  refine lv_if_eq (tgt := 8) hx hb dX0_refresh_4 (by decide) (fun c2 => ?_) (fun c2 => ?_)
  · rw [if_pos c2] at hs
    refine lv_aload_n hx hb dX0_refresh_8 rfl (lv_at hl 0 rfl) ?_
    refine lv_iconst (v := 1) hx hb dX0_refresh_9 (by decide) ?_
    obtain ⟨h3, g_h3, hs⟩ := bd hs
    refine ro_pZ F M fg_0_4 fp_0_4 rfl t_299 g_h3 dX0_refresh_10 (fun H locs M => ?_)
    refine lv_iconst (v := 0) hx hb dX0_refresh_13 (by decide) ?_
    refine lv_istore_n (i := 1) (lv' := [(1, .int 0), (0, .ref th)]) hx hb dX0_refresh_14 rfl hl (by decide) rfl (fun ls hl => ?_)
    obtain ⟨q9, g_q9, hs⟩ := bd hs
    refine w_X0_refresh_L15 F N 0 h3 _ _ _ q9 g_q9 (lv_sub hl [1, 0] rfl) M (fun t_ ls H locs eq_ hl M => ?_) (fun v eq_ => eq_.elim)
    subst eq_
    refine lv_iconst (v := 0) hx hb dX0_refresh_37 (by decide) ?_
    refine lv_istore_n (i := 1) (lv' := [(1, .int 0), (0, .ref th)]) hx hb dX0_refresh_38 rfl hl (by decide) rfl (fun ls hl => ?_)
    obtain ⟨q23, g_q23, hs⟩ := bd hs
    refine w_X0_refresh_L39 F N 0 q9 _ _ _ q23 g_q23 (lv_sub hl [1, 0] rfl) M (fun t_ ls H locs eq_ hl M => ?_) (fun v eq_ => eq_.elim)
    subst eq_
    refine lv_iconst (v := 0) hx hb dX0_refresh_85 (by decide) ?_
    refine lv_istore_n (i := 1) (lv' := [(1, .int 0), (0, .ref th)]) hx hb dX0_refresh_86 rfl hl (by decide) rfl (fun ls hl => ?_)
    obtain ⟨q38, g_q38, hs⟩ := bd hs
    refine w_X0_refresh_L87 F N 0 q23 _ _ _ q38 g_q38 (lv_sub hl [1, 0] rfl) M (fun t_ ls H locs eq_ hl M => ?_) (fun v eq_ => eq_.elim)
    subst eq_
    refine lv_iconst (v := 0) hx hb dX0_refresh_156 (by decide) ?_
    refine lv_istore_n (i := 1) (lv' := [(1, .int 0), (0, .ref th)]) hx hb dX0_refresh_157 rfl hl (by decide) rfl (fun ls hl => ?_)
    obtain ⟨q44, g_q44, hs⟩ := bd hs
    refine w_X0_refresh_L158 F N 0 q38 _ _ _ q44 g_q44 (lv_sub hl [1, 0] rfl) M (fun t_ ls H locs eq_ hl M => ?_) (fun v eq_ => eq_.elim)
    subst eq_
    obtain rfl := Option.some.inj hs
    exact re_v F M dX0_refresh_180
  · rw [if_neg c2] at hs
    obtain rfl := Option.some.inj hs
    exact re_v F M dX0_refresh_7
abbrev rm_X11_askedStationWithLog : Room := { frames := 2, cells := 0, slots := 0, locals := 43 }
theorem mf_X11_askedStationWithLog : MV 11 yX11_askedStationWithLog cX11_askedStationWithLog 3 (some (.object "ContactHouse$Station")) 1 RX11 := ⟨t_874, t_873, tS_63, t_1, ⟨by decide +kernel, by decide +kernel, by decide +kernel⟩, rfl, by decide⟩
def s_X11_askedStationWithLog (N : Nat) (h : IH) (th : Nat) (a0 : Int32) : Option (Option Nat × IH) := (cV h 11 (some th) fun a7 => s_X11_askedStation h a7 a0).bind fun v1 => if v1.1 = none then some (none, v1.2) else (cV v1.2 9 v1.1 fun a6 => s_X9_hasLog N v1.2 a6 ).bind fun v3 => if v3 = 0 then (pI v1.2 11 9 (some th) 7).bind fun h5 => some (none, h5) else some (v1.1, v1.2)
set_option maxHeartbeats 4000000 in
set_option maxRecDepth 100000 in
theorem c_X11_askedStationWithLog {l : Launch} {D : va_G} {cy : Nat → ClassId} {sz N : Nat} {h : IH} {th : Nat} {a0 : Int32} {qF : Option Nat × IH} (hs : s_X11_askedStationWithLog N h th a0 = some qF) : Ct l D cy yX11_askedStationWithLog cX11_askedStationWithLog 3 (some (.object "ContactHouse$Station")) rm_X11_askedStationWithLog h sz [.ref th, .int a0] qF.2 (some (va_rf qF.1)) := by
  refine ct_start (by decide +kernel) [(0, .ref th), (1, .int a0)] (Nat.le_of_ble_eq_true rfl) rfl ?_
  intro p e s m args below meth c A H0 ls F hin hsz M hl
  obtain ⟨hx, hb, hr, hml, hown, hlk, hts, hK, hN, hA, hH⟩ := id F
  generalize s.heap = H at M ⊢
  generalize ([] : List Loc) = locs at M ⊢
  unfold s_X11_askedStationWithLog at hs
  refine lv_aload_n hx hb dX11_askedStationWithLog_0 rfl (lv_at hl 0 rfl) ?_
  refine lv_iload_n hx hb dX11_askedStationWithLog_1 rfl (lv_at hl 1 rfl) ?_
  obtain ⟨v1, g_v1, hs⟩ := bd hs
  obtain ⟨a7, e_a7, k_a7, g_v1⟩ := cV_some g_v1
  obtain rfl := Option.some.inj e_a7
  refine ca_Va (bq := th) (As := [.int a0]) (rest := []) F M (c_X11_askedStation g_v1) mf_X11_askedStation t_657 k_a7 rfl ⟨by decide, by decide⟩ ⟨rfl, rfl⟩ ⟨Nat.zero_le _, Nat.zero_le _⟩ hl.1 rfl (by decide) dX11_askedStationWithLog_2 (fun H locs M => ?_)
  refine lo_astore_n (i := 2) (lv' := [(2, va_rf v1.1), (0, .ref th), (1, .int a0)]) hx hb dX11_askedStationWithLog_5 rfl hl (by decide) rfl (fun ls hl => ?_)
  refine lo_aload_n hx hb dX11_askedStationWithLog_6 rfl (lv_at hl 0 rfl) ?_
  refine lo_ifnonnull (tgt := 12) hx hb dX11_askedStationWithLog_7 (by decide) (fun c2 => ?_) (fun c2 => ?_)
  · rw [if_neg c2] at hs
    refine lo_aload_n hx hb dX11_askedStationWithLog_12 rfl (lv_at hl 0 rfl) ?_
    obtain ⟨v3, g_v3, hs⟩ := bd hs
    obtain ⟨a6, e_a6, k_a6, g_v3⟩ := cV_some g_v3
    refine ca_VNi (bq := a6) (As := []) (rest := []) F M (c_X9_hasLog g_v3) mf_X9_hasLog tN_875 k_a6 rfl ⟨by decide, by decide⟩ ⟨rfl, rfl⟩ ⟨Nat.zero_le _, Nat.zero_le _⟩ hl.1 (by rw [e_a6]; rfl) (by decide) dX11_askedStationWithLog_13 (fun H locs M => ?_)
    refine lv_if_ne (tgt := 27) hx hb dX11_askedStationWithLog_16 (by decide) (fun c4 => ?_) (fun c4 => ?_)
    · rw [if_neg c4] at hs
      refine lo_aload_n hx hb dX11_askedStationWithLog_27 rfl (lv_at hl 0 rfl) ?_
      obtain rfl := Option.some.inj hs
      exact re_a F M dX11_askedStationWithLog_28
    · rw [if_pos c4] at hs
      refine lv_aload_n hx hb dX11_askedStationWithLog_19 rfl (lv_at hl 1 rfl) ?_
      refine lv_bipush (v := 7) hx hb dX11_askedStationWithLog_20 (by decide) ?_
      obtain ⟨h5, g_h5, hs⟩ := bd hs
      refine ro_pI F M fg_11_9 fp_11_9 rfl t_339 g_h5 dX11_askedStationWithLog_22 (fun H locs M => ?_)
      refine lv_null hx hb dX11_askedStationWithLog_25 ?_
      obtain rfl := Option.some.inj hs
      exact re_a F M dX11_askedStationWithLog_26
  · rw [if_pos c2] at hs
    refine lv_null hx hb dX11_askedStationWithLog_10 ?_
    obtain rfl := Option.some.inj hs
    exact re_a F M dX11_askedStationWithLog_11
abbrev rm_X11_offset : Room := { frames := 6, cells := 0, slots := 0, locals := 149 }
theorem mf_X11_offset : MV 11 yX11_offset cX11_offset 3 (some .long) 1 RX11 := ⟨t_713, t_711, t_712, t_1, ⟨by decide +kernel, by decide +kernel, by decide +kernel⟩, rfl, by decide⟩
def s_X11_offset (N : Nat) (h : IH) (th : Nat) (a0 : Int32) : Option (Int64 × IH) := (gR h 11 4 (some th)).bind fun v1 => (cV h 0 v1 fun a10 => s_X0_refresh N h a10 ).bind fun v2 => (cV v2 11 (some th) fun a9 => s_X11_askedStationWithLog N v2 a9 a0).bind fun v3 => ((if v3.1 = none then some 0 else (gL v3.2 9 8 v3.1).bind fun v5 => some v5) : Option (Int64)).bind fun q6 => (cV v3.2 11 (some th) fun a8 => s_X11_answered v3.2 a8 q6).bind fun v7 => some (v7.1, v7.2)
set_option maxHeartbeats 4000000 in
set_option maxRecDepth 100000 in
theorem c_X11_offset {l : Launch} {D : va_G} {cy : Nat → ClassId} {sz N : Nat} {h : IH} {th : Nat} {a0 : Int32} {qF : Int64 × IH} (hs : s_X11_offset N h th a0 = some qF) : Ct l D cy yX11_offset cX11_offset 3 (some .long) rm_X11_offset h sz [.ref th, .int a0] qF.2 (some (.long qF.1)) := by
  refine ct_start (by decide +kernel) [(0, .ref th), (1, .int a0)] (Nat.le_of_ble_eq_true rfl) rfl ?_
  intro p e s m args below meth c A H0 ls F hin hsz M hl
  obtain ⟨hx, hb, hr, hml, hown, hlk, hts, hK, hN, hA, hH⟩ := id F
  generalize s.heap = H at M ⊢
  generalize ([] : List Loc) = locs at M ⊢
  unfold s_X11_offset at hs
  refine lv_aload_n hx hb dX11_offset_0 rfl (lv_at hl 0 rfl) ?_
  obtain ⟨v1, g_v1, hs⟩ := bd hs
  refine ro_gR F M fg_11_4 t_334 g_v1 dX11_offset_1 ?_
  obtain ⟨v2, g_v2, hs⟩ := bd hs
  obtain ⟨a10, e_a10, k_a10, g_v2⟩ := cV_some g_v2
  refine ca_VNv (bq := a10) (As := []) (rest := []) F M (c_X0_refresh g_v2) mf_X0_refresh tN_714 k_a10 rfl ⟨by decide, by decide⟩ ⟨rfl, rfl⟩ ⟨Nat.zero_le _, Nat.zero_le _⟩ hl.1 (by rw [e_a10]; rfl) (by decide) dX11_offset_4 (fun H locs M => ?_)
  refine lv_aload_n hx hb dX11_offset_7 rfl (lv_at hl 0 rfl) ?_
  refine lv_iload_n hx hb dX11_offset_8 rfl (lv_at hl 1 rfl) ?_
  obtain ⟨v3, g_v3, hs⟩ := bd hs
  obtain ⟨a9, e_a9, k_a9, g_v3⟩ := cV_some g_v3
  obtain rfl := Option.some.inj e_a9
  refine ca_Va (bq := th) (As := [.int a0]) (rest := []) F M (c_X11_askedStationWithLog g_v3) mf_X11_askedStationWithLog t_871 k_a9 rfl ⟨by decide, by decide⟩ ⟨rfl, rfl⟩ ⟨Nat.zero_le _, Nat.zero_le _⟩ hl.1 rfl (by decide) dX11_offset_9 (fun H locs M => ?_)
  refine lo_astore_n (i := 2) (lv' := [(2, va_rf v3.1), (0, .ref th), (1, .int a0)]) hx hb dX11_offset_12 rfl hl (by decide) rfl (fun ls hl => ?_)
  refine lv_aload_n hx hb dX11_offset_13 rfl (lv_at hl 1 rfl) ?_
  refine lo_aload_n hx hb dX11_offset_14 rfl (lv_at hl 0 rfl) ?_
  obtain ⟨q6, hsq6, hs⟩ := bd hs
  have KJ26 : ∀ (ls : Array Slot) (H : Heap) (locs : List Loc), lv_has ls 3 [] → Mo D cy A H0 v3.2 H locs → W p l e rm_X11_offset s m args below meth c H locs 0 0 (MQ below (QR D cy qF.2 A (some (.long qF.1))) args s 0 0 A) (F0 m 26 ls [.long q6, .ref th]) := by
    intro ls H locs hl M
    obtain ⟨v7, g_v7, hs⟩ := bd hs
    obtain ⟨a8, e_a8, k_a8, g_v7⟩ := cV_some g_v7
    obtain rfl := Option.some.inj e_a8
    refine ca_Vl (bq := th) (As := [.long q6]) (rest := []) F M (c_X11_answered g_v7) mf_X11_answered t_665 k_a8 rfl ⟨by decide, by decide⟩ ⟨rfl, rfl⟩ ⟨Nat.zero_le _, Nat.zero_le _⟩ hl.1 rfl (by decide) dX11_offset_26 (fun H locs M => ?_)
    obtain rfl := Option.some.inj hs
    exact re_l F M dX11_offset_29
  clear hs
  have hs := hsq6
  refine lo_ifnonnull (tgt := 22) hx hb dX11_offset_15 (by decide) (fun c4 => ?_) (fun c4 => ?_)
  · rw [if_neg c4] at hs
    refine lo_aload_n hx hb dX11_offset_22 rfl (lv_at hl 0 rfl) ?_
    obtain ⟨v5, g_v5, hs⟩ := bd hs
    refine ro_gLN F M fg_9_8 tN_439 g_v5 dX11_offset_23 ?_
    obtain rfl := Option.some.inj hs
    exact KJ26 _ _ _ (lv_sub hl [] rfl) M
  · rw [if_pos c4] at hs
    refine lv_lconst (v := 0) hx hb dX11_offset_18 (by decide) ?_
    refine lv_goto (tgt := 26) hx hb dX11_offset_19 (by decide) ?_
    obtain rfl := Option.some.inj hs
    exact KJ26 _ _ _ (lv_sub hl [] rfl) M
abbrev rm_X11_pair : Room := { frames := 6, cells := 0, slots := 0, locals := 149 }
theorem mf_X11_pair : MV 11 yX11_pair cX11_pair 5 (some .int) 3 RX11 := ⟨t_879, t_877, t_878, t_1, ⟨by decide +kernel, by decide +kernel, by decide +kernel⟩, rfl, by decide⟩
def s_X11_pair (N : Nat) (h : IH) (th : Nat) (a0 : Int32) (a1 : Int32) (a2 : Int32) : Option (Int32 × IH) := (gR h 11 4 (some th)).bind fun v1 => (cV h 0 v1 fun a16 => s_X0_refresh N h a16 ).bind fun v2 => (cV v2 11 (some th) fun a15 => s_X11_askedContact v2 a15 a0 a1 a2).bind fun v3 => if v3.1 = none then (cV v3.2 11 (some th) fun a6 => s_X11_answered v3.2 a6 0).bind fun v5 => some (v5.1.toInt32, v5.2) else (cV v3.2 2 v3.1 fun a14 => s_X2_isPaired v3.2 a14 ).bind fun v7 => ((if v7 = 0 then some (-1) else (gI v3.2 2 7 v3.1).bind fun v9 => (gI v3.2 2 8 v3.1).bind fun v10 => some (((100 * v9) + v10).toInt64)) : Option (Int64)).bind fun q11 => (cV v3.2 11 (some th) fun a13 => s_X11_answered v3.2 a13 q11).bind fun v12 => some (v12.1.toInt32, v12.2)
set_option maxHeartbeats 4000000 in
set_option maxRecDepth 100000 in
theorem c_X11_pair {l : Launch} {D : va_G} {cy : Nat → ClassId} {sz N : Nat} {h : IH} {th : Nat} {a0 : Int32} {a1 : Int32} {a2 : Int32} {qF : Int32 × IH} (hs : s_X11_pair N h th a0 a1 a2 = some qF) : Ct l D cy yX11_pair cX11_pair 5 (some .int) rm_X11_pair h sz [.ref th, .int a0, .int a1, .int a2] qF.2 (some (.int qF.1)) := by
  refine ct_start (by decide +kernel) [(0, .ref th), (1, .int a0), (2, .int a1), (3, .int a2)] (Nat.le_of_ble_eq_true rfl) rfl ?_
  intro p e s m args below meth c A H0 ls F hin hsz M hl
  obtain ⟨hx, hb, hr, hml, hown, hlk, hts, hK, hN, hA, hH⟩ := id F
  generalize s.heap = H at M ⊢
  generalize ([] : List Loc) = locs at M ⊢
  unfold s_X11_pair at hs
  refine lv_aload_n hx hb dX11_pair_0 rfl (lv_at hl 0 rfl) ?_
  obtain ⟨v1, g_v1, hs⟩ := bd hs
  refine ro_gR F M fg_11_4 t_334 g_v1 dX11_pair_1 ?_
  obtain ⟨v2, g_v2, hs⟩ := bd hs
  obtain ⟨a16, e_a16, k_a16, g_v2⟩ := cV_some g_v2
  refine ca_VNv (bq := a16) (As := []) (rest := []) F M (c_X0_refresh g_v2) mf_X0_refresh tN_714 k_a16 rfl ⟨by decide, by decide⟩ ⟨rfl, rfl⟩ ⟨Nat.zero_le _, Nat.zero_le _⟩ hl.1 (by rw [e_a16]; rfl) (by decide) dX11_pair_4 (fun H locs M => ?_)
  refine lv_aload_n hx hb dX11_pair_7 rfl (lv_at hl 0 rfl) ?_
  refine lv_iload_n hx hb dX11_pair_8 rfl (lv_at hl 1 rfl) ?_
  refine lv_iload_n hx hb dX11_pair_9 rfl (lv_at hl 2 rfl) ?_
  refine lv_iload_n hx hb dX11_pair_10 rfl (lv_at hl 3 rfl) ?_
  obtain ⟨v3, g_v3, hs⟩ := bd hs
  obtain ⟨a15, e_a15, k_a15, g_v3⟩ := cV_some g_v3
  obtain rfl := Option.some.inj e_a15
  refine ca_Va (bq := th) (As := [.int a0, .int a1, .int a2]) (rest := []) F M (c_X11_askedContact g_v3) mf_X11_askedContact t_693 k_a15 rfl ⟨by decide, by decide⟩ ⟨rfl, rfl⟩ ⟨Nat.zero_le _, Nat.zero_le _⟩ hl.1 rfl (by decide) dX11_pair_11 (fun H locs M => ?_)
  refine lo_astore (i := 4) (lv' := [(4, va_rf v3.1), (0, .ref th), (1, .int a0), (2, .int a1), (3, .int a2)]) hx hb dX11_pair_14 hl (by decide) rfl (fun ls hl => ?_)
  refine lo_aload hx hb dX11_pair_16 (lv_at hl 0 rfl) ?_
  refine lo_ifnonnull (tgt := 28) hx hb dX11_pair_18 (by decide) (fun c4 => ?_) (fun c4 => ?_)
  · rw [if_neg c4] at hs
    refine lv_aload_n hx hb dX11_pair_28 rfl (lv_at hl 1 rfl) ?_
    refine lo_aload hx hb dX11_pair_29 (lv_at hl 0 rfl) ?_
    obtain ⟨v7, g_v7, hs⟩ := bd hs
    obtain ⟨a14, e_a14, k_a14, g_v7⟩ := cV_some g_v7
    refine ca_VNi (bq := a14) (As := []) (rest := [.ref th]) F M (c_X2_isPaired g_v7) mf_X2_isPaired tN_880 k_a14 rfl ⟨by decide, by decide⟩ ⟨rfl, rfl⟩ ⟨Nat.zero_le _, Nat.zero_le _⟩ hl.1 (by rw [e_a14]; rfl) (by simp [cat_rf, cat_i, cat_j, cat_r]) dX11_pair_31 (fun H locs M => ?_)
    obtain ⟨q11, hsq11, hs⟩ := bd hs
    have KJ58 : ∀ (ls : Array Slot) (H : Heap) (locs : List Loc), lv_has ls 5 [] → Mo D cy A H0 v3.2 H locs → W p l e rm_X11_pair s m args below meth c H locs 0 0 (MQ below (QR D cy qF.2 A (some (.int qF.1))) args s 0 0 A) (F0 m 58 ls [.long q11, .ref th]) := by
      intro ls H locs hl M
      obtain ⟨v12, g_v12, hs⟩ := bd hs
      obtain ⟨a13, e_a13, k_a13, g_v12⟩ := cV_some g_v12
      obtain rfl := Option.some.inj e_a13
      refine ca_Vl (bq := th) (As := [.long q11]) (rest := []) F M (c_X11_answered g_v12) mf_X11_answered t_665 k_a13 rfl ⟨by decide, by decide⟩ ⟨rfl, rfl⟩ ⟨Nat.zero_le _, Nat.zero_le _⟩ hl.1 rfl (by decide) dX11_pair_58 (fun H locs M => ?_)
      refine lv_l2i hx hb dX11_pair_61 rfl ?_
      obtain rfl := Option.some.inj hs
      exact re_i F M dX11_pair_62
    clear hs
    have hs := hsq11
    refine lv_if_eq (tgt := 55) hx hb dX11_pair_34 (by decide) (fun c8 => ?_) (fun c8 => ?_)
    · rw [if_pos c8] at hs
      refine lv_ldc2 (v := (-1)) hx hb hown (hts _ (List.mem_cons_of_mem _ t_881)) dX11_pair_55 ?_
      obtain rfl := Option.some.inj hs
      exact KJ58 _ _ _ (lv_sub hl [] rfl) M
    · rw [if_neg c8] at hs
      refine lv_bipush (v := 100) hx hb dX11_pair_37 (by decide) ?_
      refine lo_aload hx hb dX11_pair_39 (lv_at hl 0 rfl) ?_
      obtain ⟨v9, g_v9, hs⟩ := bd hs
      refine ro_gIN F M fg_2_7 tN_124 g_v9 dX11_pair_41 ?_
      refine lv_imul hx hb dX11_pair_44 ?_
      refine lo_aload hx hb dX11_pair_45 (lv_at hl 0 rfl) ?_
      obtain ⟨v10, g_v10, hs⟩ := bd hs
      refine ro_gIN F M fg_2_8 tN_126 g_v10 dX11_pair_47 ?_
      refine lv_iadd hx hb dX11_pair_50 ?_
      refine lv_i2l hx hb dX11_pair_51 rfl ?_
      refine lv_goto (tgt := 58) hx hb dX11_pair_52 (by decide) ?_
      obtain rfl := Option.some.inj hs
      exact KJ58 _ _ _ (lv_sub hl [] rfl) M
  · rw [if_pos c4] at hs
    refine lv_aload_n hx hb dX11_pair_21 rfl (lv_at hl 1 rfl) ?_
    refine lv_lconst (v := 0) hx hb dX11_pair_22 (by decide) ?_
    obtain ⟨v5, g_v5, hs⟩ := bd hs
    obtain ⟨a6, e_a6, k_a6, g_v5⟩ := cV_some g_v5
    obtain rfl := Option.some.inj e_a6
    refine ca_Vl (bq := th) (As := [.long 0]) (rest := []) F M (c_X11_answered g_v5) mf_X11_answered t_665 k_a6 rfl ⟨by decide, by decide⟩ ⟨rfl, rfl⟩ ⟨Nat.zero_le _, Nat.zero_le _⟩ hl.1 rfl (by decide) dX11_pair_23 (fun H locs M => ?_)
    refine lv_l2i hx hb dX11_pair_26 rfl ?_
    obtain rfl := Option.some.inj hs
    exact re_i F M dX11_pair_27
abbrev rm_X11_why : Room := { frames := 6, cells := 0, slots := 0, locals := 149 }
theorem mf_X11_why : MV 11 yX11_why cX11_why 5 (some .int) 3 RX11 := ⟨t_885, t_883, t_884, t_1, ⟨by decide +kernel, by decide +kernel, by decide +kernel⟩, rfl, by decide⟩
def s_X11_why (N : Nat) (h : IH) (th : Nat) (a0 : Int32) (a1 : Int32) (a2 : Int32) : Option (Int32 × IH) := (gR h 11 4 (some th)).bind fun v1 => (cV h 0 v1 fun a10 => s_X0_refresh N h a10 ).bind fun v2 => (cV v2 11 (some th) fun a9 => s_X11_askedContact v2 a9 a0 a1 a2).bind fun v3 => ((if v3.1 = none then some 0 else (gI v3.2 2 9 v3.1).bind fun v5 => some v5.toInt64) : Option (Int64)).bind fun q6 => (cV v3.2 11 (some th) fun a8 => s_X11_answered v3.2 a8 q6).bind fun v7 => some (v7.1.toInt32, v7.2)
set_option maxHeartbeats 4000000 in
set_option maxRecDepth 100000 in
theorem c_X11_why {l : Launch} {D : va_G} {cy : Nat → ClassId} {sz N : Nat} {h : IH} {th : Nat} {a0 : Int32} {a1 : Int32} {a2 : Int32} {qF : Int32 × IH} (hs : s_X11_why N h th a0 a1 a2 = some qF) : Ct l D cy yX11_why cX11_why 5 (some .int) rm_X11_why h sz [.ref th, .int a0, .int a1, .int a2] qF.2 (some (.int qF.1)) := by
  refine ct_start (by decide +kernel) [(0, .ref th), (1, .int a0), (2, .int a1), (3, .int a2)] (Nat.le_of_ble_eq_true rfl) rfl ?_
  intro p e s m args below meth c A H0 ls F hin hsz M hl
  obtain ⟨hx, hb, hr, hml, hown, hlk, hts, hK, hN, hA, hH⟩ := id F
  generalize s.heap = H at M ⊢
  generalize ([] : List Loc) = locs at M ⊢
  unfold s_X11_why at hs
  refine lv_aload_n hx hb dX11_why_0 rfl (lv_at hl 0 rfl) ?_
  obtain ⟨v1, g_v1, hs⟩ := bd hs
  refine ro_gR F M fg_11_4 t_334 g_v1 dX11_why_1 ?_
  obtain ⟨v2, g_v2, hs⟩ := bd hs
  obtain ⟨a10, e_a10, k_a10, g_v2⟩ := cV_some g_v2
  refine ca_VNv (bq := a10) (As := []) (rest := []) F M (c_X0_refresh g_v2) mf_X0_refresh tN_714 k_a10 rfl ⟨by decide, by decide⟩ ⟨rfl, rfl⟩ ⟨Nat.zero_le _, Nat.zero_le _⟩ hl.1 (by rw [e_a10]; rfl) (by decide) dX11_why_4 (fun H locs M => ?_)
  refine lv_aload_n hx hb dX11_why_7 rfl (lv_at hl 0 rfl) ?_
  refine lv_iload_n hx hb dX11_why_8 rfl (lv_at hl 1 rfl) ?_
  refine lv_iload_n hx hb dX11_why_9 rfl (lv_at hl 2 rfl) ?_
  refine lv_iload_n hx hb dX11_why_10 rfl (lv_at hl 3 rfl) ?_
  obtain ⟨v3, g_v3, hs⟩ := bd hs
  obtain ⟨a9, e_a9, k_a9, g_v3⟩ := cV_some g_v3
  obtain rfl := Option.some.inj e_a9
  refine ca_Va (bq := th) (As := [.int a0, .int a1, .int a2]) (rest := []) F M (c_X11_askedContact g_v3) mf_X11_askedContact t_693 k_a9 rfl ⟨by decide, by decide⟩ ⟨rfl, rfl⟩ ⟨Nat.zero_le _, Nat.zero_le _⟩ hl.1 rfl (by decide) dX11_why_11 (fun H locs M => ?_)
  refine lo_astore (i := 4) (lv' := [(4, va_rf v3.1), (0, .ref th), (1, .int a0), (2, .int a1), (3, .int a2)]) hx hb dX11_why_14 hl (by decide) rfl (fun ls hl => ?_)
  refine lv_aload_n hx hb dX11_why_16 rfl (lv_at hl 1 rfl) ?_
  refine lo_aload hx hb dX11_why_17 (lv_at hl 0 rfl) ?_
  obtain ⟨q6, hsq6, hs⟩ := bd hs
  have KJ32 : ∀ (ls : Array Slot) (H : Heap) (locs : List Loc), lv_has ls 5 [] → Mo D cy A H0 v3.2 H locs → W p l e rm_X11_why s m args below meth c H locs 0 0 (MQ below (QR D cy qF.2 A (some (.int qF.1))) args s 0 0 A) (F0 m 32 ls [.long q6, .ref th]) := by
    intro ls H locs hl M
    obtain ⟨v7, g_v7, hs⟩ := bd hs
    obtain ⟨a8, e_a8, k_a8, g_v7⟩ := cV_some g_v7
    obtain rfl := Option.some.inj e_a8
    refine ca_Vl (bq := th) (As := [.long q6]) (rest := []) F M (c_X11_answered g_v7) mf_X11_answered t_665 k_a8 rfl ⟨by decide, by decide⟩ ⟨rfl, rfl⟩ ⟨Nat.zero_le _, Nat.zero_le _⟩ hl.1 rfl (by decide) dX11_why_32 (fun H locs M => ?_)
    refine lv_l2i hx hb dX11_why_35 rfl ?_
    obtain rfl := Option.some.inj hs
    exact re_i F M dX11_why_36
  clear hs
  have hs := hsq6
  refine lo_ifnonnull (tgt := 26) hx hb dX11_why_19 (by decide) (fun c4 => ?_) (fun c4 => ?_)
  · rw [if_neg c4] at hs
    refine lo_aload hx hb dX11_why_26 (lv_at hl 0 rfl) ?_
    obtain ⟨v5, g_v5, hs⟩ := bd hs
    refine ro_gIN F M fg_2_9 tN_130 g_v5 dX11_why_28 ?_
    refine lv_i2l hx hb dX11_why_31 rfl ?_
    obtain rfl := Option.some.inj hs
    exact KJ32 _ _ _ (lv_sub hl [] rfl) M
  · rw [if_pos c4] at hs
    refine lv_lconst (v := 0) hx hb dX11_why_22 (by decide) ?_
    refine lv_goto (tgt := 32) hx hb dX11_why_23 (by decide) ?_
    obtain rfl := Option.some.inj hs
    exact KJ32 _ _ _ (lv_sub hl [] rfl) M
abbrev rm_X11_meant : Room := { frames := 6, cells := 0, slots := 0, locals := 149 }
theorem mf_X11_meant : MV 11 yX11_meant cX11_meant 5 (some .int) 3 RX11 := ⟨t_889, t_887, t_888, t_1, ⟨by decide +kernel, by decide +kernel, by decide +kernel⟩, rfl, by decide⟩
def s_X11_meant (N : Nat) (h : IH) (th : Nat) (a0 : Int32) (a1 : Int32) (a2 : Int32) : Option (Int32 × IH) := (gR h 11 4 (some th)).bind fun v1 => (cV h 0 v1 fun a10 => s_X0_refresh N h a10 ).bind fun v2 => (cV v2 11 (some th) fun a9 => s_X11_askedContact v2 a9 a0 a1 a2).bind fun v3 => ((if v3.1 = none then some 0 else (gI v3.2 2 10 v3.1).bind fun v5 => some v5.toInt64) : Option (Int64)).bind fun q6 => (cV v3.2 11 (some th) fun a8 => s_X11_answered v3.2 a8 q6).bind fun v7 => some (v7.1.toInt32, v7.2)
set_option maxHeartbeats 4000000 in
set_option maxRecDepth 100000 in
theorem c_X11_meant {l : Launch} {D : va_G} {cy : Nat → ClassId} {sz N : Nat} {h : IH} {th : Nat} {a0 : Int32} {a1 : Int32} {a2 : Int32} {qF : Int32 × IH} (hs : s_X11_meant N h th a0 a1 a2 = some qF) : Ct l D cy yX11_meant cX11_meant 5 (some .int) rm_X11_meant h sz [.ref th, .int a0, .int a1, .int a2] qF.2 (some (.int qF.1)) := by
  refine ct_start (by decide +kernel) [(0, .ref th), (1, .int a0), (2, .int a1), (3, .int a2)] (Nat.le_of_ble_eq_true rfl) rfl ?_
  intro p e s m args below meth c A H0 ls F hin hsz M hl
  obtain ⟨hx, hb, hr, hml, hown, hlk, hts, hK, hN, hA, hH⟩ := id F
  generalize s.heap = H at M ⊢
  generalize ([] : List Loc) = locs at M ⊢
  unfold s_X11_meant at hs
  refine lv_aload_n hx hb dX11_meant_0 rfl (lv_at hl 0 rfl) ?_
  obtain ⟨v1, g_v1, hs⟩ := bd hs
  refine ro_gR F M fg_11_4 t_334 g_v1 dX11_meant_1 ?_
  obtain ⟨v2, g_v2, hs⟩ := bd hs
  obtain ⟨a10, e_a10, k_a10, g_v2⟩ := cV_some g_v2
  refine ca_VNv (bq := a10) (As := []) (rest := []) F M (c_X0_refresh g_v2) mf_X0_refresh tN_714 k_a10 rfl ⟨by decide, by decide⟩ ⟨rfl, rfl⟩ ⟨Nat.zero_le _, Nat.zero_le _⟩ hl.1 (by rw [e_a10]; rfl) (by decide) dX11_meant_4 (fun H locs M => ?_)
  refine lv_aload_n hx hb dX11_meant_7 rfl (lv_at hl 0 rfl) ?_
  refine lv_iload_n hx hb dX11_meant_8 rfl (lv_at hl 1 rfl) ?_
  refine lv_iload_n hx hb dX11_meant_9 rfl (lv_at hl 2 rfl) ?_
  refine lv_iload_n hx hb dX11_meant_10 rfl (lv_at hl 3 rfl) ?_
  obtain ⟨v3, g_v3, hs⟩ := bd hs
  obtain ⟨a9, e_a9, k_a9, g_v3⟩ := cV_some g_v3
  obtain rfl := Option.some.inj e_a9
  refine ca_Va (bq := th) (As := [.int a0, .int a1, .int a2]) (rest := []) F M (c_X11_askedContact g_v3) mf_X11_askedContact t_693 k_a9 rfl ⟨by decide, by decide⟩ ⟨rfl, rfl⟩ ⟨Nat.zero_le _, Nat.zero_le _⟩ hl.1 rfl (by decide) dX11_meant_11 (fun H locs M => ?_)
  refine lo_astore (i := 4) (lv' := [(4, va_rf v3.1), (0, .ref th), (1, .int a0), (2, .int a1), (3, .int a2)]) hx hb dX11_meant_14 hl (by decide) rfl (fun ls hl => ?_)
  refine lv_aload_n hx hb dX11_meant_16 rfl (lv_at hl 1 rfl) ?_
  refine lo_aload hx hb dX11_meant_17 (lv_at hl 0 rfl) ?_
  obtain ⟨q6, hsq6, hs⟩ := bd hs
  have KJ32 : ∀ (ls : Array Slot) (H : Heap) (locs : List Loc), lv_has ls 5 [] → Mo D cy A H0 v3.2 H locs → W p l e rm_X11_meant s m args below meth c H locs 0 0 (MQ below (QR D cy qF.2 A (some (.int qF.1))) args s 0 0 A) (F0 m 32 ls [.long q6, .ref th]) := by
    intro ls H locs hl M
    obtain ⟨v7, g_v7, hs⟩ := bd hs
    obtain ⟨a8, e_a8, k_a8, g_v7⟩ := cV_some g_v7
    obtain rfl := Option.some.inj e_a8
    refine ca_Vl (bq := th) (As := [.long q6]) (rest := []) F M (c_X11_answered g_v7) mf_X11_answered t_665 k_a8 rfl ⟨by decide, by decide⟩ ⟨rfl, rfl⟩ ⟨Nat.zero_le _, Nat.zero_le _⟩ hl.1 rfl (by decide) dX11_meant_32 (fun H locs M => ?_)
    refine lv_l2i hx hb dX11_meant_35 rfl ?_
    obtain rfl := Option.some.inj hs
    exact re_i F M dX11_meant_36
  clear hs
  have hs := hsq6
  refine lo_ifnonnull (tgt := 26) hx hb dX11_meant_19 (by decide) (fun c4 => ?_) (fun c4 => ?_)
  · rw [if_neg c4] at hs
    refine lo_aload hx hb dX11_meant_26 (lv_at hl 0 rfl) ?_
    obtain ⟨v5, g_v5, hs⟩ := bd hs
    refine ro_gIN F M fg_2_10 tN_132 g_v5 dX11_meant_28 ?_
    refine lv_i2l hx hb dX11_meant_31 rfl ?_
    obtain rfl := Option.some.inj hs
    exact KJ32 _ _ _ (lv_sub hl [] rfl) M
  · rw [if_pos c4] at hs
    refine lv_lconst (v := 0) hx hb dX11_meant_22 (by decide) ?_
    refine lv_goto (tgt := 32) hx hb dX11_meant_23 (by decide) ?_
    obtain rfl := Option.some.inj hs
    exact KJ32 _ _ _ (lv_sub hl [] rfl) M
abbrev rm_X3_pop : Room := { frames := 0, cells := 0, slots := 0, locals := 0 }
theorem mf_X3_pop : MV 3 yX3_pop cX3_pop 1 (some .long) 0 RX3 := ⟨t_905, t_904, tS_66, t_7, ⟨by decide +kernel, by decide +kernel, by decide +kernel⟩, rfl, by decide⟩
def s_X3_pop (h : IH) (th : Nat) : Option (Int64 × IH) := (gI h 3 6 (some th)).bind fun v1 => if 0 < v1 then (gI h 3 6 (some th)).bind fun v3 => (pI h 3 6 (some th) (v3 - 1)).bind fun h4 => (gR h4 3 5 (some th)).bind fun v5 => (gI h4 3 6 (some th)).bind fun v6 => (aJ h4 v5 v6).bind fun v7 => some (v7, h4) else some (0, h)
set_option maxHeartbeats 4000000 in
set_option maxRecDepth 100000 in
theorem c_X3_pop {l : Launch} {D : va_G} {cy : Nat → ClassId} {sz : Nat} {h : IH} {th : Nat} {qF : Int64 × IH} (hs : s_X3_pop h th = some qF) : Ct l D cy yX3_pop cX3_pop 1 (some .long) rm_X3_pop h sz [.ref th] qF.2 (some (.long qF.1)) := by
  refine ct_start (by decide +kernel) [(0, .ref th)] (Nat.le_of_ble_eq_true rfl) rfl ?_
  intro p e s m args below meth c A H0 ls F hin hsz M hl
  obtain ⟨hx, hb, hr, hml, hown, hlk, hts, hK, hN, hA, hH⟩ := id F
  generalize s.heap = H at M ⊢
  generalize ([] : List Loc) = locs at M ⊢
  unfold s_X3_pop at hs
  refine lv_aload_n hx hb dX3_pop_0 rfl (lv_at hl 0 rfl) ?_
  obtain ⟨v1, g_v1, hs⟩ := bd hs
  refine ro_gI F M fg_3_6 t_216 g_v1 dX3_pop_1 ?_
  refine lv_if_gt (tgt := 9) hx hb dX3_pop_4 (by decide) (fun c2 => ?_) (fun c2 => ?_)
  · rw [if_pos c2] at hs
    refine lv_aload_n hx hb dX3_pop_9 rfl (lv_at hl 0 rfl) ?_
    refine lv_dup hx hb dX3_pop_10 rfl ?_
    obtain ⟨v3, g_v3, hs⟩ := bd hs
    refine ro_gI F M fg_3_6 t_216 g_v3 dX3_pop_11 ?_
    refine lv_iconst (v := 1) hx hb dX3_pop_14 (by decide) ?_
    refine lv_isub hx hb dX3_pop_15 ?_
    obtain ⟨h4, g_h4, hs⟩ := bd hs
    refine ro_pI F M fg_3_6 fp_3_6 rfl t_216 g_h4 dX3_pop_16 (fun H locs M => ?_)
    refine lv_aload_n hx hb dX3_pop_19 rfl (lv_at hl 0 rfl) ?_
    obtain ⟨v5, g_v5, hs⟩ := bd hs
    refine ro_gR F M fg_3_5 t_215 g_v5 dX3_pop_20 ?_
    refine lv_aload_n hx hb dX3_pop_23 rfl (lv_at hl 0 rfl) ?_
    obtain ⟨v6, g_v6, hs⟩ := bd hs
    refine ro_gI F M fg_3_6 t_216 g_v6 dX3_pop_24 ?_
    obtain ⟨v7, g_v7, hs⟩ := bd hs
    refine ro_aJ F M g_v7 dX3_pop_27 ?_
    obtain rfl := Option.some.inj hs
    exact re_l F M dX3_pop_28
  · rw [if_neg c2] at hs
    refine lv_lconst (v := 0) hx hb dX3_pop_7 (by decide) ?_
    obtain rfl := Option.some.inj hs
    exact re_l F M dX3_pop_8
abbrev rm_X3_workOperator : Room := { frames := 1, cells := 0, slots := 0, locals := 20 }
theorem mf_X3_workOperator : MV 3 yX3_workOperator cX3_workOperator 8 (some .long) 1 RX3 := ⟨t_901, t_900, tS_65, t_7, ⟨by decide +kernel, by decide +kernel, by decide +kernel⟩, rfl, by decide⟩
def s_X3_workOperator (h : IH) (th : Nat) (a0 : Int32) : Option (Int64 × IH) := (cV h 3 (some th) fun a18 => s_X3_pop h a18 ).bind fun v1 => (cV v1.2 3 (some th) fun a17 => s_X3_pop v1.2 a17 ).bind fun v2 => if a0 = (-10) then (cV v2.2 3 (some th) fun a8 => s_X3_pop v2.2 a8 ).bind fun v4 => ((if (lg_cmp v1.1 1099511627776) = 0 then some 1099511627776 else if (lg_cmp v1.1 0) ≤ 0 then some v4.1 else some v2.1) : Option (Int64)).bind fun q7 => some (q7, v4.2) else if (lg_cmp v1.1 1099511627776) = 0 then some (1099511627776, v2.2) else if (lg_cmp v2.1 1099511627776) = 0 then some (1099511627776, v2.2) else if a0 = (-8) then some ((v1.1.toInt32 * v2.1.toInt32).toInt64, v2.2) else if a0 = (-7) then some ((v1.1.toInt32 - v2.1.toInt32).toInt64, v2.2) else if a0 = (-6) then some ((v1.1.toInt32 + v2.1.toInt32).toInt64, v2.2) else ((if v2.1.toInt32 = 0 then some 1099511627776 else if v2.1.toInt32 = 0 then none else some ((v1.1.toInt32 / v2.1.toInt32).toInt64)) : Option (Int64)).bind fun q16 => some (q16, v2.2)
set_option maxHeartbeats 4000000 in
set_option maxRecDepth 100000 in
theorem c_X3_workOperator {l : Launch} {D : va_G} {cy : Nat → ClassId} {sz : Nat} {h : IH} {th : Nat} {a0 : Int32} {qF : Int64 × IH} (hs : s_X3_workOperator h th a0 = some qF) : Ct l D cy yX3_workOperator cX3_workOperator 8 (some .long) rm_X3_workOperator h sz [.ref th, .int a0] qF.2 (some (.long qF.1)) := by
  refine ct_start (by decide +kernel) [(0, .ref th), (1, .int a0)] (Nat.le_of_ble_eq_true rfl) rfl ?_
  intro p e s m args below meth c A H0 ls F hin hsz M hl
  obtain ⟨hx, hb, hr, hml, hown, hlk, hts, hK, hN, hA, hH⟩ := id F
  generalize s.heap = H at M ⊢
  generalize ([] : List Loc) = locs at M ⊢
  unfold s_X3_workOperator at hs
  refine lv_aload_n hx hb dX3_workOperator_0 rfl (lv_at hl 0 rfl) ?_
  obtain ⟨v1, g_v1, hs⟩ := bd hs
  obtain ⟨a18, e_a18, k_a18, g_v1⟩ := cV_some g_v1
  obtain rfl := Option.some.inj e_a18
  refine ca_Vl (bq := th) (As := []) (rest := []) F M (c_X3_pop g_v1) mf_X3_pop t_902 k_a18 rfl ⟨by decide, by decide⟩ ⟨rfl, rfl⟩ ⟨Nat.zero_le _, Nat.zero_le _⟩ hl.1 rfl (by decide) dX3_workOperator_1 (fun H locs M => ?_)
  refine lv_lstore_n (i := 2) (lv' := [(2, .long v1.1), (0, .ref th), (1, .int a0)]) hx hb dX3_workOperator_4 rfl hl (by decide) rfl (fun ls hl => ?_)
  refine lv_aload_n hx hb dX3_workOperator_5 rfl (lv_at hl 1 rfl) ?_
  obtain ⟨v2, g_v2, hs⟩ := bd hs
  obtain ⟨a17, e_a17, k_a17, g_v2⟩ := cV_some g_v2
  obtain rfl := Option.some.inj e_a17
  refine ca_Vl (bq := th) (As := []) (rest := []) F M (c_X3_pop g_v2) mf_X3_pop t_902 k_a17 rfl ⟨by decide, by decide⟩ ⟨rfl, rfl⟩ ⟨Nat.zero_le _, Nat.zero_le _⟩ hl.1 rfl (by decide) dX3_workOperator_6 (fun H locs M => ?_)
  refine lv_lstore (i := 4) (lv' := [(4, .long v2.1), (2, .long v1.1), (0, .ref th), (1, .int a0)]) hx hb dX3_workOperator_9 hl (by decide) rfl (fun ls hl => ?_)
  refine lv_iload_n hx hb dX3_workOperator_11 rfl (lv_at hl 3 rfl) ?_
  refine lv_bipush (v := (-10)) hx hb dX3_workOperator_12 (by decide) ?_
  refine lv_icmp_ne (tgt := 51) hx hb dX3_workOperator_14 (by decide) (fun c3 => ?_) (fun c3 => ?_)
  · rw [if_neg c3] at hs
    refine lv_lload_n hx hb dX3_workOperator_51 rfl (lv_at hl 1 rfl) ?_
    refine lv_ldc2 (v := 1099511627776) hx hb hown (hts _ (List.mem_cons_of_mem _ t_906)) dX3_workOperator_52 ?_
    refine W.lcmp hx hb dX3_workOperator_55 ?_
    refine lv_if_eq (tgt := 68) hx hb dX3_workOperator_56 (by decide) (fun c9 => ?_) (fun c9 => ?_)
    · rw [if_pos c9] at hs
      refine lv_ldc2 (v := 1099511627776) hx hb hown (hts _ (List.mem_cons_of_mem _ t_906)) dX3_workOperator_68 ?_
      obtain rfl := Option.some.inj hs
      exact re_l F M dX3_workOperator_71
    · rw [if_neg c9] at hs
      refine lv_lload hx hb dX3_workOperator_59 (lv_at hl 0 rfl) ?_
      refine lv_ldc2 (v := 1099511627776) hx hb hown (hts _ (List.mem_cons_of_mem _ t_906)) dX3_workOperator_61 ?_
      refine W.lcmp hx hb dX3_workOperator_64 ?_
      refine lv_if_ne (tgt := 72) hx hb dX3_workOperator_65 (by decide) (fun c10 => ?_) (fun c10 => ?_)
      · rw [if_neg c10] at hs
        refine lv_lload_n hx hb dX3_workOperator_72 rfl (lv_at hl 1 rfl) ?_
        refine lv_l2i hx hb dX3_workOperator_73 rfl ?_
        refine lv_istore (i := 6) (lv' := [(6, .int v1.1.toInt32), (4, .long v2.1), (2, .long v1.1), (0, .ref th), (1, .int a0)]) hx hb dX3_workOperator_74 hl (by decide) rfl (fun ls hl => ?_)
        refine lv_lload hx hb dX3_workOperator_76 (lv_at hl 1 rfl) ?_
        refine lv_l2i hx hb dX3_workOperator_78 rfl ?_
        refine lv_istore (i := 7) (lv' := [(7, .int v2.1.toInt32), (6, .int v1.1.toInt32), (4, .long v2.1), (2, .long v1.1), (0, .ref th), (1, .int a0)]) hx hb dX3_workOperator_79 hl (by decide) rfl (fun ls hl => ?_)
        refine lv_iload_n hx hb dX3_workOperator_81 rfl (lv_at hl 5 rfl) ?_
        by_cases c11 : a0 = (-8)
        · rw [if_pos c11] at hs
          refine lv_tableIn (tgt := 122) hx hb dX3_workOperator_82 (by rw [c11]; decide) (by rw [c11]; decide) (by rw [c11]; rfl) (by decide) ?_
          refine lv_iload hx hb dX3_workOperator_122 (lv_at hl 1 rfl) ?_
          refine lv_iload hx hb dX3_workOperator_124 (lv_at hl 0 rfl) ?_
          refine lv_imul hx hb dX3_workOperator_126 ?_
          refine lv_i2l hx hb dX3_workOperator_127 rfl ?_
          obtain rfl := Option.some.inj hs
          exact re_l F M dX3_workOperator_128
        rw [if_neg c11] at hs
        by_cases c12 : a0 = (-7)
        · rw [if_pos c12] at hs
          refine lv_tableIn (tgt := 115) hx hb dX3_workOperator_82 (by rw [c12]; decide) (by rw [c12]; decide) (by rw [c12]; rfl) (by decide) ?_
          refine lv_iload hx hb dX3_workOperator_115 (lv_at hl 1 rfl) ?_
          refine lv_iload hx hb dX3_workOperator_117 (lv_at hl 0 rfl) ?_
          refine lv_isub hx hb dX3_workOperator_119 ?_
          refine lv_i2l hx hb dX3_workOperator_120 rfl ?_
          obtain rfl := Option.some.inj hs
          exact re_l F M dX3_workOperator_121
        rw [if_neg c12] at hs
        by_cases c13 : a0 = (-6)
        · rw [if_pos c13] at hs
          refine lv_tableIn (tgt := 108) hx hb dX3_workOperator_82 (by rw [c13]; decide) (by rw [c13]; decide) (by rw [c13]; rfl) (by decide) ?_
          refine lv_iload hx hb dX3_workOperator_108 (lv_at hl 1 rfl) ?_
          refine lv_iload hx hb dX3_workOperator_110 (lv_at hl 0 rfl) ?_
          refine lv_iadd hx hb dX3_workOperator_112 ?_
          refine lv_i2l hx hb dX3_workOperator_113 rfl ?_
          obtain rfl := Option.some.inj hs
          exact re_l F M dX3_workOperator_114
        rw [if_neg c13] at hs
        refine lv_tableOut (tgt := 129) hx hb dX3_workOperator_82 (by have := ne_ti (k := (-8)) (n := -8) rfl c11; have := ne_ti (k := (-7)) (n := -7) rfl c12; have := ne_ti (k := (-6)) (n := -6) rfl c13; omega) (by decide) ?_
        refine lv_iload hx hb dX3_workOperator_129 (lv_at hl 0 rfl) ?_
        obtain ⟨q16, hsq16, hs⟩ := bd hs
        have KJ146 : ∀ (ls : Array Slot) (H : Heap) (locs : List Loc), lv_has ls 8 [] → Mo D cy A H0 v2.2 H locs → W p l e rm_X3_workOperator s m args below meth c H locs 0 0 (MQ below (QR D cy qF.2 A (some (.long qF.1))) args s 0 0 A) (F0 m 146 ls [.long q16]) := by
          intro ls H locs hl M
          obtain rfl := Option.some.inj hs
          exact re_l F M dX3_workOperator_146
        clear hs
        have hs := hsq16
        refine lv_if_ne (tgt := 140) hx hb dX3_workOperator_131 (by decide) (fun c14 => ?_) (fun c14 => ?_)
        · rw [if_neg c14] at hs
          refine lv_iload hx hb dX3_workOperator_140 (lv_at hl 1 rfl) ?_
          refine lv_iload hx hb dX3_workOperator_142 (lv_at hl 0 rfl) ?_
          by_cases z15 : v2.1.toInt32 = 0
          · rw [if_pos z15] at hs; cases hs
          rw [if_neg z15] at hs
          refine lv_idiv hx hb dX3_workOperator_144 z15 ?_
          refine lv_i2l hx hb dX3_workOperator_145 rfl ?_
          obtain rfl := Option.some.inj hs
          exact KJ146 _ _ _ (lv_sub hl [] rfl) M
        · rw [if_pos c14] at hs
          refine lv_ldc2 (v := 1099511627776) hx hb hown (hts _ (List.mem_cons_of_mem _ t_906)) dX3_workOperator_134 ?_
          refine lv_goto (tgt := 146) hx hb dX3_workOperator_137 (by decide) ?_
          obtain rfl := Option.some.inj hs
          exact KJ146 _ _ _ (lv_sub hl [] rfl) M
      · rw [if_pos c10] at hs
        refine lv_ldc2 (v := 1099511627776) hx hb hown (hts _ (List.mem_cons_of_mem _ t_906)) dX3_workOperator_68 ?_
        obtain rfl := Option.some.inj hs
        exact re_l F M dX3_workOperator_71
  · rw [if_pos c3] at hs
    refine lv_aload_n hx hb dX3_workOperator_17 rfl (lv_at hl 2 rfl) ?_
    obtain ⟨v4, g_v4, hs⟩ := bd hs
    obtain ⟨a8, e_a8, k_a8, g_v4⟩ := cV_some g_v4
    obtain rfl := Option.some.inj e_a8
    refine ca_Vl (bq := th) (As := []) (rest := []) F M (c_X3_pop g_v4) mf_X3_pop t_902 k_a8 rfl ⟨by decide, by decide⟩ ⟨rfl, rfl⟩ ⟨Nat.zero_le _, Nat.zero_le _⟩ hl.1 rfl (by decide) dX3_workOperator_18 (fun H locs M => ?_)
    refine lv_lstore (i := 6) (lv' := [(6, .long v4.1), (4, .long v2.1), (2, .long v1.1), (0, .ref th), (1, .int a0)]) hx hb dX3_workOperator_21 hl (by decide) rfl (fun ls hl => ?_)
    refine lv_lload_n hx hb dX3_workOperator_23 rfl (lv_at hl 2 rfl) ?_
    refine lv_ldc2 (v := 1099511627776) hx hb hown (hts _ (List.mem_cons_of_mem _ t_906)) dX3_workOperator_24 ?_
    refine W.lcmp hx hb dX3_workOperator_27 ?_
    obtain ⟨q7, hsq7, hs⟩ := bd hs
    have KJ50 : ∀ (ls : Array Slot) (H : Heap) (locs : List Loc), lv_has ls 8 [] → Mo D cy A H0 v4.2 H locs → W p l e rm_X3_workOperator s m args below meth c H locs 0 0 (MQ below (QR D cy qF.2 A (some (.long qF.1))) args s 0 0 A) (F0 m 50 ls [.long q7]) := by
      intro ls H locs hl M
      obtain rfl := Option.some.inj hs
      exact re_l F M dX3_workOperator_50
    clear hs
    have hs := hsq7
    refine lv_if_ne (tgt := 37) hx hb dX3_workOperator_28 (by decide) (fun c5 => ?_) (fun c5 => ?_)
    · rw [if_neg c5] at hs
      refine lv_lload_n hx hb dX3_workOperator_37 rfl (lv_at hl 2 rfl) ?_
      refine lv_lconst (v := 0) hx hb dX3_workOperator_38 (by decide) ?_
      refine W.lcmp hx hb dX3_workOperator_39 ?_
      refine lv_if_le (tgt := 48) hx hb dX3_workOperator_40 (by decide) (fun c6 => ?_) (fun c6 => ?_)
      · rw [if_pos c6] at hs
        refine lv_lload hx hb dX3_workOperator_48 (lv_at hl 0 rfl) ?_
        obtain rfl := Option.some.inj hs
        exact KJ50 _ _ _ (lv_sub hl [] rfl) M
      · rw [if_neg c6] at hs
        refine lv_lload hx hb dX3_workOperator_43 (lv_at hl 1 rfl) ?_
        refine lv_goto (tgt := 50) hx hb dX3_workOperator_45 (by decide) ?_
        obtain rfl := Option.some.inj hs
        exact KJ50 _ _ _ (lv_sub hl [] rfl) M
    · rw [if_pos c5] at hs
      refine lv_ldc2 (v := 1099511627776) hx hb hown (hts _ (List.mem_cons_of_mem _ t_906)) dX3_workOperator_31 ?_
      refine lv_goto (tgt := 50) hx hb dX3_workOperator_34 (by decide) ?_
      obtain rfl := Option.some.inj hs
      exact KJ50 _ _ _ (lv_sub hl [] rfl) M
abbrev rm_X9_distanceTo : Room := { frames := 0, cells := 0, slots := 0, locals := 0 }
theorem mf_X9_distanceTo : MV 9 yX9_distanceTo cX9_distanceTo 8 (some .int) 1 RX9 := ⟨t_913, t_912, tS_67, t_13, ⟨by decide +kernel, by decide +kernel, by decide +kernel⟩, rfl, by decide⟩
def s_X9_distanceTo_L37 (N : Nat) : Nat → Int32 → Int32 → Int32 → IH → Option (Int32)
  | 0, _, _, _, _ => none
  | n + 1, x4, x5, x6, h => if x6 ≤ 0 then some x5 else ((if x4 < ((x5 + x6) * (x5 + x6)) then some x5 else some (x5 + x6)) : Option (Int32)).bind fun q7 => s_X9_distanceTo_L37 N n x4 q7 (x6 >>> (1 &&& 31)) h
def s_X9_distanceTo (N : Nat) (h : IH) (th : Nat) (a0 : Option Nat) : Option (Int32) := (gI h 9 2 (some th)).bind fun v1 => (gI h 9 2 a0).bind fun v2 => (gI h 9 3 (some th)).bind fun v3 => (gI h 9 3 a0).bind fun v4 => (s_X9_distanceTo_L37 N N (((v1 - v2) * (v1 - v2)) + ((v3 - v4) * (v3 - v4))) 0 128 h).bind fun q8 => some q8
set_option maxHeartbeats 4000000 in
set_option maxRecDepth 100000 in
theorem w_X9_distanceTo_L37 {p : Program} {l : Launch} {e : Env} {s : State} {m : MethodId} {args : Array Value} {below : List Frame} {meth : Method} {c : Code} {D : va_G} {cy : Nat → ClassId} {A : Nat → Prop} {H0 : Heap} {N : Nat} {x4 : Int32} {h : IH} {qF : Int32} (F : Fx p s m args meth c D cy A H0 yX9_distanceTo cX9_distanceTo 8 (some .int)) : ∀ (n : Nat) (x5 : Int32) (x6 : Int32) (ls : Array Slot) (H : Heap) (locs : List Loc) (q : Int32), s_X9_distanceTo_L37 N n x4 x5 x6 h = some q → lv_has ls 8 [(4, .int x4), (5, .int x5), (6, .int x6)] → Mo D cy A H0 h H locs → (∀ (t : Int32) (ls : Array Slot) (H : Heap) (locs : List Loc), q = t → lv_has ls 8 [(5, .int t)] → Mo D cy A H0 h H locs → W p l e rm_X9_distanceTo s m args below meth c H locs 0 0 (MQ below (QR D cy h A (some (.int qF))) args s 0 0 A) (F0 m 72 ls [])) → (∀ v : Int32, False → v = qF) → W p l e rm_X9_distanceTo s m args below meth c H locs 0 0 (MQ below (QR D cy h A (some (.int qF))) args s 0 0 A) (F0 m 37 ls []) := by
  intro n
  induction n with
  | zero => intro x5 x6 ls H locs q hs; rw [s_X9_distanceTo_L37.eq_1] at hs; cases hs
  | succ n ih =>
    intro x5 x6 ls H locs q hs hl M kx kr
    obtain ⟨hx, hb, hr, hml, hown, hlk, hts, hK, hN, hA, hH⟩ := id F
    rw [s_X9_distanceTo_L37.eq_2] at hs
    refine lv_iload hx hb dX9_distanceTo_37 (lv_at hl 2 rfl) ?_
    refine lv_if_le (tgt := 72) hx hb dX9_distanceTo_39 (by decide) (fun c5 => ?_) (fun c5 => ?_)
    · rw [if_pos c5] at hs
      exact kx x5 _ _ _ (Option.some.inj hs).symm (lv_sub hl [1] rfl) M
    · rw [if_neg c5] at hs
      refine lv_iload hx hb dX9_distanceTo_42 (lv_at hl 1 rfl) ?_
      refine lv_iload hx hb dX9_distanceTo_44 (lv_at hl 2 rfl) ?_
      refine lv_iadd hx hb dX9_distanceTo_46 ?_
      refine lv_istore (i := 7) (lv' := [(7, .int (x5 + x6)), (4, .int x4), (5, .int x5), (6, .int x6)]) hx hb dX9_distanceTo_47 hl (by decide) rfl (fun ls hl => ?_)
      refine lv_iload hx hb dX9_distanceTo_49 (lv_at hl 0 rfl) ?_
      refine lv_iload hx hb dX9_distanceTo_51 (lv_at hl 0 rfl) ?_
      refine lv_imul hx hb dX9_distanceTo_53 ?_
      refine lv_iload hx hb dX9_distanceTo_54 (lv_at hl 1 rfl) ?_
      obtain ⟨q7, hsq7, hs⟩ := bd hs
      have KJ63 : ∀ (ls : Array Slot) (H : Heap) (locs : List Loc), lv_has ls 8 [(4, .int x4), (5, .int q7), (6, .int x6)] → Mo D cy A H0 h H locs → W p l e rm_X9_distanceTo s m args below meth c H locs 0 0 (MQ below (QR D cy h A (some (.int qF))) args s 0 0 A) (F0 m 63 ls []) := by
        intro ls H locs hl M
        refine lv_iload hx hb dX9_distanceTo_63 (lv_at hl 2 rfl) ?_
        refine lv_iconst (v := 1) hx hb dX9_distanceTo_65 (by decide) ?_
        refine lv_ishr hx hb dX9_distanceTo_66 ?_
        refine lv_istore (i := 6) (lv' := [(6, .int (x6 >>> (1 &&& 31))), (4, .int x4), (5, .int q7)]) hx hb dX9_distanceTo_67 hl (by decide) rfl (fun ls hl => ?_)
        refine lv_goto (tgt := 37) hx hb dX9_distanceTo_69 (by decide) ?_
        exact ih q7 (x6 >>> (1 &&& 31)) _ _ _ _ hs (lv_sub hl [1, 2, 0] rfl) M kx kr
      clear hs
      have hs := hsq7
      refine lv_icmp_gt (tgt := 63) hx hb dX9_distanceTo_56 (by decide) (fun c6 => ?_) (fun c6 => ?_)
      · rw [if_pos c6] at hs
        obtain rfl := Option.some.inj hs
        exact KJ63 _ _ _ (lv_sub hl [1, 2, 3] rfl) M
      · rw [if_neg c6] at hs
        refine lv_iload hx hb dX9_distanceTo_59 (lv_at hl 0 rfl) ?_
        refine lv_istore (i := 5) (lv' := [(5, .int (x5 + x6)), (7, .int (x5 + x6)), (4, .int x4), (6, .int x6)]) hx hb dX9_distanceTo_61 hl (by decide) rfl (fun ls hl => ?_)
        obtain rfl := Option.some.inj hs
        exact KJ63 _ _ _ (lv_sub hl [2, 0, 3] rfl) M
set_option maxHeartbeats 4000000 in
set_option maxRecDepth 100000 in
theorem c_X9_distanceTo {l : Launch} {D : va_G} {cy : Nat → ClassId} {sz N : Nat} {h : IH} {th : Nat} {a0 : Option Nat} {qF : Int32} (hs : s_X9_distanceTo N h th a0 = some qF) : Ct l D cy yX9_distanceTo cX9_distanceTo 8 (some .int) rm_X9_distanceTo h sz [.ref th, va_rf a0] h (some (.int qF)) := by
  refine ct_start (by decide +kernel) [(0, .ref th), (1, va_rf a0)] (by simp [lg_sl, cat_rf, cat_i, cat_j, cat_r]) (by simp [lv_args, cat_rf, cat_i, cat_j, cat_r]) ?_
  intro p e s m args below meth c A H0 ls F hin hsz M hl
  obtain ⟨hx, hb, hr, hml, hown, hlk, hts, hK, hN, hA, hH⟩ := id F
  generalize s.heap = H at M ⊢
  generalize ([] : List Loc) = locs at M ⊢
  unfold s_X9_distanceTo at hs
  refine lv_aload_n hx hb dX9_distanceTo_0 rfl (lv_at hl 0 rfl) ?_
  obtain ⟨v1, g_v1, hs⟩ := bd hs
  refine ro_gI F M fg_9_2 t_427 g_v1 dX9_distanceTo_1 ?_
  refine lo_aload_n hx hb dX9_distanceTo_4 rfl (lv_at hl 1 rfl) ?_
  obtain ⟨v2, g_v2, hs⟩ := bd hs
  refine ro_gI F M fg_9_2 t_427 g_v2 dX9_distanceTo_5 ?_
  refine lv_isub hx hb dX9_distanceTo_8 ?_
  refine lv_istore_n (i := 2) (lv' := [(2, .int (v1 - v2)), (0, .ref th), (1, va_rf a0)]) hx hb dX9_distanceTo_9 rfl hl (by decide) (by simp [cat_rf, cat_i, cat_j, cat_r]) (fun ls hl => ?_)
  refine lv_aload_n hx hb dX9_distanceTo_10 rfl (lv_at hl 1 rfl) ?_
  obtain ⟨v3, g_v3, hs⟩ := bd hs
  refine ro_gI F M fg_9_3 t_428 g_v3 dX9_distanceTo_11 ?_
  refine lo_aload_n hx hb dX9_distanceTo_14 rfl (lv_at hl 2 rfl) ?_
  obtain ⟨v4, g_v4, hs⟩ := bd hs
  refine ro_gI F M fg_9_3 t_428 g_v4 dX9_distanceTo_15 ?_
  refine lv_isub hx hb dX9_distanceTo_18 ?_
  refine lv_istore_n (i := 3) (lv' := [(3, .int (v3 - v4)), (2, .int (v1 - v2)), (0, .ref th), (1, va_rf a0)]) hx hb dX9_distanceTo_19 rfl hl (by decide) rfl (fun ls hl => ?_)
  refine lv_iload_n hx hb dX9_distanceTo_20 rfl (lv_at hl 1 rfl) ?_
  refine lv_iload_n hx hb dX9_distanceTo_21 rfl (lv_at hl 1 rfl) ?_
  refine lv_imul hx hb dX9_distanceTo_22 ?_
  refine lv_iload_n hx hb dX9_distanceTo_23 rfl (lv_at hl 0 rfl) ?_
  refine lv_iload_n hx hb dX9_distanceTo_24 rfl (lv_at hl 0 rfl) ?_
  refine lv_imul hx hb dX9_distanceTo_25 ?_
  refine lv_iadd hx hb dX9_distanceTo_26 ?_
  refine lv_istore (i := 4) (lv' := [(4, .int (((v1 - v2) * (v1 - v2)) + ((v3 - v4) * (v3 - v4)))), (3, .int (v3 - v4)), (2, .int (v1 - v2)), (0, .ref th), (1, va_rf a0)]) hx hb dX9_distanceTo_27 hl (by decide) rfl (fun ls hl => ?_)
  refine lv_iconst (v := 0) hx hb dX9_distanceTo_29 (by decide) ?_
  refine lv_istore (i := 5) (lv' := [(5, .int 0), (4, .int (((v1 - v2) * (v1 - v2)) + ((v3 - v4) * (v3 - v4)))), (3, .int (v3 - v4)), (2, .int (v1 - v2)), (0, .ref th), (1, va_rf a0)]) hx hb dX9_distanceTo_30 hl (by decide) rfl (fun ls hl => ?_)
  refine lv_sipush (v := 128) hx hb dX9_distanceTo_32 (by decide) ?_
  refine lv_istore (i := 6) (lv' := [(6, .int 128), (5, .int 0), (4, .int (((v1 - v2) * (v1 - v2)) + ((v3 - v4) * (v3 - v4)))), (3, .int (v3 - v4)), (2, .int (v1 - v2)), (0, .ref th), (1, va_rf a0)]) hx hb dX9_distanceTo_35 hl (by decide) rfl (fun ls hl => ?_)
  obtain ⟨q8, g_q8, hs⟩ := bd hs
  refine w_X9_distanceTo_L37 F N 0 128 _ _ _ q8 g_q8 (lv_sub hl [2, 1, 0] rfl) M (fun t_ ls H locs eq_ hl M => ?_) (fun v eq_ => eq_.elim)
  subst eq_
  refine lv_iload hx hb dX9_distanceTo_72 (lv_at hl 0 rfl) ?_
  obtain rfl := Option.some.inj hs
  exact re_i F M dX9_distanceTo_74
abbrev rm_X3_plainValue : Room := { frames := 1, cells := 0, slots := 0, locals := 27 }
theorem mf_X3_plainValue : MS yX3_plainValue cX3_plainValue 4 (some .int) 4 := ⟨t_909, t_908, t_7, ⟨by decide +kernel, by decide +kernel, by decide +kernel⟩⟩
def s_X3_plainValue (N : Nat) (h : IH) (a0 : Int32) (a1 : Int32) (a2 : Option Nat) (a3 : Option Nat) : Option (Int32) := if a0 = (-5) then (cV h 9 a2 fun a7 => s_X9_distanceTo N h a7 a3).bind fun v6 => some v6 else if a0 = (-4) then (gI h 9 1 a2).bind fun v8 => some v8 else if a0 = (-3) then (gI h 9 1 a3).bind fun v9 => some v9 else if a0 = (-2) then (gI h 9 0 a3).bind fun v10 => some v10 else if a0 = (-1) then some a1 else some a0
set_option maxHeartbeats 4000000 in
set_option maxRecDepth 100000 in
theorem c_X3_plainValue {l : Launch} {D : va_G} {cy : Nat → ClassId} {sz N : Nat} {h : IH} {a0 : Int32} {a1 : Int32} {a2 : Option Nat} {a3 : Option Nat} {qF : Int32} (hs : s_X3_plainValue N h a0 a1 a2 a3 = some qF) : Ct l D cy yX3_plainValue cX3_plainValue 4 (some .int) rm_X3_plainValue h sz [.int a0, .int a1, va_rf a2, va_rf a3] h (some (.int qF)) := by
  refine ct_start (by decide +kernel) [(0, .int a0), (1, .int a1), (2, va_rf a2), (3, va_rf a3)] (by simp [lg_sl, cat_rf, cat_i, cat_j, cat_r]) (by simp [lv_args, cat_rf, cat_i, cat_j, cat_r]) ?_
  intro p e s m args below meth c A H0 ls F hin hsz M hl
  obtain ⟨hx, hb, hr, hml, hown, hlk, hts, hK, hN, hA, hH⟩ := id F
  generalize s.heap = H at M ⊢
  generalize ([] : List Loc) = locs at M ⊢
  unfold s_X3_plainValue at hs
  refine lv_iload_n hx hb dX3_plainValue_0 rfl (lv_at hl 0 rfl) ?_
  by_cases c1 : a0 = (-5)
  · rw [if_pos c1] at hs
    refine lv_tableIn (tgt := 53) hx hb dX3_plainValue_1 (by rw [c1]; decide) (by rw [c1]; decide) (by rw [c1]; rfl) (by decide) ?_
    refine lo_aload_n hx hb dX3_plainValue_53 rfl (lv_at hl 2 rfl) ?_
    refine lo_aload_n hx hb dX3_plainValue_54 rfl (lv_at hl 3 rfl) ?_
    obtain ⟨v6, g_v6, hs⟩ := bd hs
    obtain ⟨a7, e_a7, k_a7, g_v6⟩ := cV_some g_v6
    refine ca_VNi (bq := a7) (As := [va_rf a3]) (rest := []) F M (c_X9_distanceTo g_v6) mf_X9_distanceTo tN_910 k_a7 rfl ⟨by decide, by decide⟩ ⟨rfl, rfl⟩ ⟨Nat.zero_le _, Nat.zero_le _⟩ hl.1 (by rw [e_a7]; rfl) (by decide) dX3_plainValue_55 (fun H locs M => ?_)
    obtain rfl := Option.some.inj hs
    exact re_i F M dX3_plainValue_58
  rw [if_neg c1] at hs
  by_cases c2 : a0 = (-4)
  · rw [if_pos c2] at hs
    refine lv_tableIn (tgt := 48) hx hb dX3_plainValue_1 (by rw [c2]; decide) (by rw [c2]; decide) (by rw [c2]; rfl) (by decide) ?_
    refine lo_aload_n hx hb dX3_plainValue_48 rfl (lv_at hl 2 rfl) ?_
    obtain ⟨v8, g_v8, hs⟩ := bd hs
    refine ro_gIN F M fg_9_1 tN_426 g_v8 dX3_plainValue_49 ?_
    obtain rfl := Option.some.inj hs
    exact re_i F M dX3_plainValue_52
  rw [if_neg c2] at hs
  by_cases c3 : a0 = (-3)
  · rw [if_pos c3] at hs
    refine lv_tableIn (tgt := 43) hx hb dX3_plainValue_1 (by rw [c3]; decide) (by rw [c3]; decide) (by rw [c3]; rfl) (by decide) ?_
    refine lo_aload_n hx hb dX3_plainValue_43 rfl (lv_at hl 3 rfl) ?_
    obtain ⟨v9, g_v9, hs⟩ := bd hs
    refine ro_gIN F M fg_9_1 tN_426 g_v9 dX3_plainValue_44 ?_
    obtain rfl := Option.some.inj hs
    exact re_i F M dX3_plainValue_47
  rw [if_neg c3] at hs
  by_cases c4 : a0 = (-2)
  · rw [if_pos c4] at hs
    refine lv_tableIn (tgt := 38) hx hb dX3_plainValue_1 (by rw [c4]; decide) (by rw [c4]; decide) (by rw [c4]; rfl) (by decide) ?_
    refine lo_aload_n hx hb dX3_plainValue_38 rfl (lv_at hl 3 rfl) ?_
    obtain ⟨v10, g_v10, hs⟩ := bd hs
    refine ro_gIN F M fg_9_0 tN_423 g_v10 dX3_plainValue_39 ?_
    obtain rfl := Option.some.inj hs
    exact re_i F M dX3_plainValue_42
  rw [if_neg c4] at hs
  by_cases c5 : a0 = (-1)
  · rw [if_pos c5] at hs
    refine lv_tableIn (tgt := 36) hx hb dX3_plainValue_1 (by rw [c5]; decide) (by rw [c5]; decide) (by rw [c5]; rfl) (by decide) ?_
    refine lv_iload_n hx hb dX3_plainValue_36 rfl (lv_at hl 1 rfl) ?_
    obtain rfl := Option.some.inj hs
    exact re_i F M dX3_plainValue_37
  rw [if_neg c5] at hs
  refine lv_tableOut (tgt := 59) hx hb dX3_plainValue_1 (by have := ne_ti (k := (-5)) (n := -5) rfl c1; have := ne_ti (k := (-4)) (n := -4) rfl c2; have := ne_ti (k := (-3)) (n := -3) rfl c3; have := ne_ti (k := (-2)) (n := -2) rfl c4; have := ne_ti (k := (-1)) (n := -1) rfl c5; omega) (by decide) ?_
  refine lv_iload_n hx hb dX3_plainValue_59 rfl (lv_at hl 0 rfl) ?_
  obtain rfl := Option.some.inj hs
  exact re_i F M dX3_plainValue_60
abbrev rm_X3_push : Room := { frames := 0, cells := 0, slots := 0, locals := 0 }
theorem mf_X3_push : MV 3 yX3_push cX3_push 3 none 1 RX3 := ⟨t_917, t_916, tS_68, t_7, ⟨by decide +kernel, by decide +kernel, by decide +kernel⟩, rfl, by decide⟩
def s_X3_push (h : IH) (th : Nat) (a0 : Int64) : Option (IH) := (gI h 3 6 (some th)).bind fun v1 => ((if 30 ≤ v1 then some h else (gR h 3 5 (some th)).bind fun v3 => (gI h 3 6 (some th)).bind fun v4 => (sJ h v3 v4 a0).bind fun h5 => (gI h5 3 6 (some th)).bind fun v6 => (pI h5 3 6 (some th) (v6 + 1)).bind fun h7 => some h7) : Option (IH)).bind fun q8 => some q8
set_option maxHeartbeats 4000000 in
set_option maxRecDepth 100000 in
theorem c_X3_push {l : Launch} {D : va_G} {cy : Nat → ClassId} {sz : Nat} {h : IH} {th : Nat} {a0 : Int64} {qF : IH} (hs : s_X3_push h th a0 = some qF) : Ct l D cy yX3_push cX3_push 3 none rm_X3_push h sz [.ref th, .long a0] qF none := by
  refine ct_start (by decide +kernel) [(0, .ref th), (1, .long a0)] (Nat.le_of_ble_eq_true rfl) rfl ?_
  intro p e s m args below meth c A H0 ls F hin hsz M hl
  obtain ⟨hx, hb, hr, hml, hown, hlk, hts, hK, hN, hA, hH⟩ := id F
  generalize s.heap = H at M ⊢
  generalize ([] : List Loc) = locs at M ⊢
  unfold s_X3_push at hs
  refine lv_aload_n hx hb dX3_push_0 rfl (lv_at hl 0 rfl) ?_
  obtain ⟨v1, g_v1, hs⟩ := bd hs
  refine ro_gI F M fg_3_6 t_216 g_v1 dX3_push_1 ?_
  refine lv_bipush (v := 30) hx hb dX3_push_4 (by decide) ?_
  obtain ⟨q8, hsq8, hs⟩ := bd hs
  have KJ29 : ∀ (ls : Array Slot) (H : Heap) (locs : List Loc), lv_has ls 3 [] → Mo D cy A H0 q8 H locs → W p l e rm_X3_push s m args below meth c H locs 0 0 (MQ below (QR D cy qF A none) args s 0 0 A) (F0 m 29 ls []) := by
    intro ls H locs hl M
    obtain rfl := Option.some.inj hs
    exact re_v F M dX3_push_29
  clear hs
  have hs := hsq8
  refine lv_icmp_ge (tgt := 29) hx hb dX3_push_6 (by decide) (fun c2 => ?_) (fun c2 => ?_)
  · rw [if_pos c2] at hs
    obtain rfl := Option.some.inj hs
    exact KJ29 _ _ _ (lv_sub hl [] rfl) M
  · rw [if_neg c2] at hs
    refine lv_aload_n hx hb dX3_push_9 rfl (lv_at hl 0 rfl) ?_
    obtain ⟨v3, g_v3, hs⟩ := bd hs
    refine ro_gR F M fg_3_5 t_215 g_v3 dX3_push_10 ?_
    refine lv_aload_n hx hb dX3_push_13 rfl (lv_at hl 0 rfl) ?_
    obtain ⟨v4, g_v4, hs⟩ := bd hs
    refine ro_gI F M fg_3_6 t_216 g_v4 dX3_push_14 ?_
    refine lv_lload_n hx hb dX3_push_17 rfl (lv_at hl 1 rfl) ?_
    obtain ⟨h5, g_h5, hs⟩ := bd hs
    refine ro_sJ F M g_h5 dX3_push_18 (fun H locs M => ?_)
    refine lv_aload_n hx hb dX3_push_19 rfl (lv_at hl 0 rfl) ?_
    refine lv_dup hx hb dX3_push_20 rfl ?_
    obtain ⟨v6, g_v6, hs⟩ := bd hs
    refine ro_gI F M fg_3_6 t_216 g_v6 dX3_push_21 ?_
    refine lv_iconst (v := 1) hx hb dX3_push_24 (by decide) ?_
    refine lv_iadd hx hb dX3_push_25 ?_
    obtain ⟨h7, g_h7, hs⟩ := bd hs
    refine ro_pI F M fg_3_6 fp_3_6 rfl t_216 g_h7 dX3_push_26 (fun H locs M => ?_)
    obtain rfl := Option.some.inj hs
    exact KJ29 _ _ _ (lv_sub hl [] rfl) M
abbrev rm_X3_valueFor : Room := { frames := 2, cells := 0, slots := 0, locals := 50 }
theorem mf_X3_valueFor : MV 3 yX3_valueFor cX3_valueFor 6 (some .long) 3 RX3 := ⟨t_897, t_896, tS_64, t_7, ⟨by decide +kernel, by decide +kernel, by decide +kernel⟩, rfl, by decide⟩
def s_X3_valueFor_L19 (N : Nat) : Nat → Nat → Int32 → Option Nat → Option Nat → Int32 → IH → Option (IH)
  | 0, _, _, _, _, _, _ => none
  | n + 1, th, x1, x2, x3, x4, h => if x4 < 0 then some h else (gR h 3 0 (some th)).bind fun v5 => (aI h v5 x4).bind fun v6 => (s_X3_operandsOf h v6).bind fun v7 => ((if v7 ≤ 0 then (s_X3_plainValue N h v6 x1 x2 x3).bind fun v9 => some (v9.toInt64, h) else (cV h 3 (some th) fun a11 => s_X3_workOperator h a11 v6).bind fun v10 => some (v10.1, v10.2)) : Option (Int64 × IH)).bind fun q12 => (cV q12.2 3 (some th) fun a14 => s_X3_push q12.2 a14 q12.1).bind fun v13 => s_X3_valueFor_L19 N n th x1 x2 x3 (x4 + (-1)) v13
def s_X3_valueFor (N : Nat) (h : IH) (th : Nat) (a0 : Int32) (a1 : Option Nat) (a2 : Option Nat) : Option (Int64 × IH) := if a2 = none then some (0, h) else (pI h 3 6 (some th) 0).bind fun h2 => (gI h2 3 1 (some th)).bind fun v3 => (s_X3_valueFor_L19 N N th a0 a1 a2 (v3 - 1) h2).bind fun q15 => (cV q15 3 (some th) fun a17 => s_X3_pop q15 a17 ).bind fun v16 => some (v16.1, v16.2)
set_option maxHeartbeats 4000000 in
set_option maxRecDepth 100000 in
theorem w_X3_valueFor_L19 {p : Program} {l : Launch} {e : Env} {s : State} {m : MethodId} {args : Array Value} {below : List Frame} {meth : Method} {c : Code} {D : va_G} {cy : Nat → ClassId} {A : Nat → Prop} {H0 : Heap} {N th : Nat} {x1 : Int32} {x2 : Option Nat} {x3 : Option Nat} {qF : Int64 × IH} (F : Fx p s m args meth c D cy A H0 yX3_valueFor cX3_valueFor 6 (some .long)) : ∀ (n : Nat) (x4 : Int32) (h : IH) (ls : Array Slot) (H : Heap) (locs : List Loc) (q : IH), s_X3_valueFor_L19 N n th x1 x2 x3 x4 h = some q → lv_has ls 6 [(0, .ref th), (1, .int x1), (2, va_rf x2), (3, va_rf x3), (4, .int x4)] → Mo D cy A H0 h H locs → (∀ (t : IH) (ls : Array Slot) (H : Heap) (locs : List Loc), q = t → lv_has ls 6 [(0, .ref th)] → Mo D cy A H0 t H locs → W p l e rm_X3_valueFor s m args below meth c H locs 0 0 (MQ below (QR D cy qF.2 A (some (.long qF.1))) args s 0 0 A) (F0 m 69 ls [])) → (∀ v : Int64 × IH, False → v = qF) → W p l e rm_X3_valueFor s m args below meth c H locs 0 0 (MQ below (QR D cy qF.2 A (some (.long qF.1))) args s 0 0 A) (F0 m 19 ls []) := by
  intro n
  induction n with
  | zero => intro x4 h ls H locs q hs; rw [s_X3_valueFor_L19.eq_1] at hs; cases hs
  | succ n ih =>
    intro x4 h ls H locs q hs hl M kx kr
    obtain ⟨hx, hb, hr, hml, hown, hlk, hts, hK, hN, hA, hH⟩ := id F
    rw [s_X3_valueFor_L19.eq_2] at hs
    refine lv_iload hx hb dX3_valueFor_19 (lv_at hl 4 rfl) ?_
    refine lv_if_lt (tgt := 69) hx hb dX3_valueFor_21 (by decide) (fun c4 => ?_) (fun c4 => ?_)
    · rw [if_pos c4] at hs
      exact kx h _ _ _ (Option.some.inj hs).symm (lv_sub hl [0] rfl) M
    · rw [if_neg c4] at hs
      refine lv_aload_n hx hb dX3_valueFor_24 rfl (lv_at hl 0 rfl) ?_
      obtain ⟨v5, g_v5, hs⟩ := bd hs
      refine ro_gR F M fg_3_0 t_210 g_v5 dX3_valueFor_25 ?_
      refine lv_iload hx hb dX3_valueFor_28 (lv_at hl 4 rfl) ?_
      obtain ⟨v6, g_v6, hs⟩ := bd hs
      refine ro_aI F M g_v6 dX3_valueFor_30 ?_
      refine lv_istore (i := 5) (lv' := [(5, .int v6), (0, .ref th), (1, .int x1), (2, va_rf x2), (3, va_rf x3), (4, .int x4)]) hx hb dX3_valueFor_31 hl (by decide) rfl (fun ls hl => ?_)
      refine lv_aload_n hx hb dX3_valueFor_33 rfl (lv_at hl 1 rfl) ?_
      refine lv_iload hx hb dX3_valueFor_34 (lv_at hl 0 rfl) ?_
      obtain ⟨v7, g_v7, hs⟩ := bd hs
      refine ca_Si (As := [.int v6]) (rest := [.ref th]) F M (c_X3_operandsOf g_v7) mf_X3_operandsOf t_626 rfl ⟨by decide, by decide⟩ ⟨rfl, rfl⟩ ⟨Nat.zero_le _, Nat.zero_le _⟩ hl.1 rfl (by simp [cat_rf, cat_i, cat_j, cat_r]) dX3_valueFor_36 (fun H locs M => ?_)
      obtain ⟨q12, hsq12, hs⟩ := bd hs
      have KJ60 : ∀ (ls : Array Slot) (H : Heap) (locs : List Loc), lv_has ls 6 [(0, .ref th), (1, .int x1), (2, va_rf x2), (3, va_rf x3), (4, .int x4)] → Mo D cy A H0 q12.2 H locs → W p l e rm_X3_valueFor s m args below meth c H locs 0 0 (MQ below (QR D cy qF.2 A (some (.long qF.1))) args s 0 0 A) (F0 m 60 ls [.long q12.1, .ref th]) := by
        intro ls H locs hl M
        obtain ⟨v13, g_v13, hs⟩ := bd hs
        obtain ⟨a14, e_a14, k_a14, g_v13⟩ := cV_some g_v13
        obtain rfl := Option.some.inj e_a14
        refine ca_Vv (bq := th) (As := [.long q12.1]) (rest := []) F M (c_X3_push g_v13) mf_X3_push t_914 k_a14 rfl ⟨by decide, by decide⟩ ⟨rfl, rfl⟩ ⟨Nat.zero_le _, Nat.zero_le _⟩ hl.1 rfl (by decide) dX3_valueFor_60 (fun H locs M => ?_)
        refine lv_iinc (v := x4 + (-1)) (lv' := [(4, .int (x4 + (-1))), (0, .ref th), (1, .int x1), (2, va_rf x2), (3, va_rf x3)]) hx hb dX3_valueFor_63 hl (k := 4) rfl rfl (by decide) (by simp [cat_rf, cat_i, cat_j, cat_r]) (fun ls hl => ?_)
        refine lv_goto (tgt := 19) hx hb dX3_valueFor_66 (by decide) ?_
        exact ih (x4 + (-1)) v13 _ _ _ _ hs (lv_sub hl [1, 2, 3, 4, 0] rfl) M kx kr
      clear hs
      have hs := hsq12
      refine lv_if_le (tgt := 51) hx hb dX3_valueFor_39 (by decide) (fun c8 => ?_) (fun c8 => ?_)
      · rw [if_pos c8] at hs
        refine lv_iload hx hb dX3_valueFor_51 (lv_at hl 0 rfl) ?_
        refine lv_iload_n hx hb dX3_valueFor_53 rfl (lv_at hl 2 rfl) ?_
        refine lo_aload_n hx hb dX3_valueFor_54 rfl (lv_at hl 3 rfl) ?_
        refine lo_aload_n hx hb dX3_valueFor_55 rfl (lv_at hl 4 rfl) ?_
        obtain ⟨v9, g_v9, hs⟩ := bd hs
        refine ca_Si (As := [.int v6, .int x1, va_rf x2, va_rf x3]) (rest := [.ref th]) F M (c_X3_plainValue g_v9) mf_X3_plainValue t_907 rfl ⟨by decide, by decide⟩ ⟨rfl, rfl⟩ ⟨Nat.zero_le _, Nat.zero_le _⟩ hl.1 rfl (by simp [cat_rf, cat_i, cat_j, cat_r]) dX3_valueFor_56 (fun H locs M => ?_)
        refine lv_i2l hx hb dX3_valueFor_59 rfl ?_
        obtain rfl := Option.some.inj hs
        exact KJ60 _ _ _ (lv_sub hl [1, 2, 3, 4, 5] rfl) M
      · rw [if_neg c8] at hs
        refine lv_aload_n hx hb dX3_valueFor_42 rfl (lv_at hl 1 rfl) ?_
        refine lv_iload hx hb dX3_valueFor_43 (lv_at hl 0 rfl) ?_
        obtain ⟨v10, g_v10, hs⟩ := bd hs
        obtain ⟨a11, e_a11, k_a11, g_v10⟩ := cV_some g_v10
        obtain rfl := Option.some.inj e_a11
        refine ca_Vl (bq := th) (As := [.int v6]) (rest := [.ref th]) F M (c_X3_workOperator g_v10) mf_X3_workOperator t_898 k_a11 rfl ⟨by decide, by decide⟩ ⟨rfl, rfl⟩ ⟨Nat.zero_le _, Nat.zero_le _⟩ hl.1 rfl (by simp [cat_rf, cat_i, cat_j, cat_r]) dX3_valueFor_45 (fun H locs M => ?_)
        refine lv_goto (tgt := 60) hx hb dX3_valueFor_48 (by decide) ?_
        obtain rfl := Option.some.inj hs
        exact KJ60 _ _ _ (lv_sub hl [1, 2, 3, 4, 5] rfl) M
set_option maxHeartbeats 4000000 in
set_option maxRecDepth 100000 in
theorem c_X3_valueFor {l : Launch} {D : va_G} {cy : Nat → ClassId} {sz N : Nat} {h : IH} {th : Nat} {a0 : Int32} {a1 : Option Nat} {a2 : Option Nat} {qF : Int64 × IH} (hs : s_X3_valueFor N h th a0 a1 a2 = some qF) : Ct l D cy yX3_valueFor cX3_valueFor 6 (some .long) rm_X3_valueFor h sz [.ref th, .int a0, va_rf a1, va_rf a2] qF.2 (some (.long qF.1)) := by
  refine ct_start (by decide +kernel) [(0, .ref th), (1, .int a0), (2, va_rf a1), (3, va_rf a2)] (by simp [lg_sl, cat_rf, cat_i, cat_j, cat_r]) (by simp [lv_args, cat_rf, cat_i, cat_j, cat_r]) ?_
  intro p e s m args below meth c A H0 ls F hin hsz M hl
  obtain ⟨hx, hb, hr, hml, hown, hlk, hts, hK, hN, hA, hH⟩ := id F
  generalize s.heap = H at M ⊢
  generalize ([] : List Loc) = locs at M ⊢
  unfold s_X3_valueFor at hs
  refine lo_aload_n hx hb dX3_valueFor_0 rfl (lv_at hl 3 rfl) ?_
  refine lo_ifnonnull (tgt := 6) hx hb dX3_valueFor_1 (by decide) (fun c1 => ?_) (fun c1 => ?_)
  · rw [if_neg c1] at hs
    refine lv_aload_n hx hb dX3_valueFor_6 rfl (lv_at hl 0 rfl) ?_
    refine lv_iconst (v := 0) hx hb dX3_valueFor_7 (by decide) ?_
    obtain ⟨h2, g_h2, hs⟩ := bd hs
    refine ro_pI F M fg_3_6 fp_3_6 rfl t_216 g_h2 dX3_valueFor_8 (fun H locs M => ?_)
    refine lv_aload_n hx hb dX3_valueFor_11 rfl (lv_at hl 0 rfl) ?_
    obtain ⟨v3, g_v3, hs⟩ := bd hs
    refine ro_gI F M fg_3_1 t_211 g_v3 dX3_valueFor_12 ?_
    refine lv_iconst (v := 1) hx hb dX3_valueFor_15 (by decide) ?_
    refine lv_isub hx hb dX3_valueFor_16 ?_
    refine lv_istore (i := 4) (lv' := [(4, .int (v3 - 1)), (0, .ref th), (1, .int a0), (2, va_rf a1), (3, va_rf a2)]) hx hb dX3_valueFor_17 hl (by decide) (by simp [cat_rf, cat_i, cat_j, cat_r]) (fun ls hl => ?_)
    obtain ⟨q15, g_q15, hs⟩ := bd hs
    refine w_X3_valueFor_L19 F N (v3 - 1) h2 _ _ _ q15 g_q15 (lv_sub hl [1, 2, 3, 4, 0] rfl) M (fun t_ ls H locs eq_ hl M => ?_) (fun v eq_ => eq_.elim)
    subst eq_
    refine lv_aload_n hx hb dX3_valueFor_69 rfl (lv_at hl 0 rfl) ?_
    obtain ⟨v16, g_v16, hs⟩ := bd hs
    obtain ⟨a17, e_a17, k_a17, g_v16⟩ := cV_some g_v16
    obtain rfl := Option.some.inj e_a17
    refine ca_Vl (bq := th) (As := []) (rest := []) F M (c_X3_pop g_v16) mf_X3_pop t_902 k_a17 rfl ⟨by decide, by decide⟩ ⟨rfl, rfl⟩ ⟨Nat.zero_le _, Nat.zero_le _⟩ hl.1 rfl (by decide) dX3_valueFor_70 (fun H locs M => ?_)
    obtain rfl := Option.some.inj hs
    exact re_l F M dX3_valueFor_73
  · rw [if_pos c1] at hs
    refine lv_lconst (v := 0) hx hb dX3_valueFor_4 (by decide) ?_
    obtain rfl := Option.some.inj hs
    exact re_l F M dX3_valueFor_5
abbrev rm_X11_answeredSum : Room := { frames := 2, cells := 0, slots := 0, locals := 43 }
theorem mf_X11_answeredSum : MV 11 yX11_answeredSum cX11_answeredSum 3 (some .long) 1 RX11 := ⟨t_921, t_920, tS_69, t_1, ⟨by decide +kernel, by decide +kernel, by decide +kernel⟩, rfl, by decide⟩
def s_X11_answeredSum (h : IH) (th : Nat) (a0 : Int64) : Option (Int64 × IH) := ((if (lg_cmp a0 1099511627776) = 0 then (cV h 11 (some th) fun a3 => s_X11_refused h a3 5).bind fun v2 => some (v2.1, v2.2) else (cV h 11 (some th) fun a5 => s_X11_answered h a5 a0).bind fun v4 => some (v4.1, v4.2)) : Option (Int64 × IH)).bind fun q6 => some (q6.1, q6.2)
set_option maxHeartbeats 4000000 in
set_option maxRecDepth 100000 in
theorem c_X11_answeredSum {l : Launch} {D : va_G} {cy : Nat → ClassId} {sz : Nat} {h : IH} {th : Nat} {a0 : Int64} {qF : Int64 × IH} (hs : s_X11_answeredSum h th a0 = some qF) : Ct l D cy yX11_answeredSum cX11_answeredSum 3 (some .long) rm_X11_answeredSum h sz [.ref th, .long a0] qF.2 (some (.long qF.1)) := by
  refine ct_start (by decide +kernel) [(0, .ref th), (1, .long a0)] (Nat.le_of_ble_eq_true rfl) rfl ?_
  intro p e s m args below meth c A H0 ls F hin hsz M hl
  obtain ⟨hx, hb, hr, hml, hown, hlk, hts, hK, hN, hA, hH⟩ := id F
  generalize s.heap = H at M ⊢
  generalize ([] : List Loc) = locs at M ⊢
  unfold s_X11_answeredSum at hs
  refine lv_lload_n hx hb dX11_answeredSum_0 rfl (lv_at hl 1 rfl) ?_
  refine lv_ldc2 (v := 1099511627776) hx hb hown (hts _ (List.mem_cons_of_mem _ t_922)) dX11_answeredSum_1 ?_
  refine W.lcmp hx hb dX11_answeredSum_4 ?_
  obtain ⟨q6, hsq6, hs⟩ := bd hs
  have KJ21 : ∀ (ls : Array Slot) (H : Heap) (locs : List Loc), lv_has ls 3 [] → Mo D cy A H0 q6.2 H locs → W p l e rm_X11_answeredSum s m args below meth c H locs 0 0 (MQ below (QR D cy qF.2 A (some (.long qF.1))) args s 0 0 A) (F0 m 21 ls [.long q6.1]) := by
    intro ls H locs hl M
    obtain rfl := Option.some.inj hs
    exact re_l F M dX11_answeredSum_21
  clear hs
  have hs := hsq6
  refine lv_if_ne (tgt := 16) hx hb dX11_answeredSum_5 (by decide) (fun c1 => ?_) (fun c1 => ?_)
  · rw [if_neg c1] at hs
    refine lv_aload_n hx hb dX11_answeredSum_16 rfl (lv_at hl 0 rfl) ?_
    refine lv_lload_n hx hb dX11_answeredSum_17 rfl (lv_at hl 1 rfl) ?_
    obtain ⟨v4, g_v4, hs⟩ := bd hs
    obtain ⟨a5, e_a5, k_a5, g_v4⟩ := cV_some g_v4
    obtain rfl := Option.some.inj e_a5
    refine ca_Vl (bq := th) (As := [.long a0]) (rest := []) F M (c_X11_answered g_v4) mf_X11_answered t_665 k_a5 rfl ⟨by decide, by decide⟩ ⟨rfl, rfl⟩ ⟨Nat.zero_le _, Nat.zero_le _⟩ hl.1 rfl (by decide) dX11_answeredSum_18 (fun H locs M => ?_)
    obtain rfl := Option.some.inj hs
    exact KJ21 _ _ _ (lv_sub hl [] rfl) M
  · rw [if_pos c1] at hs
    refine lv_aload_n hx hb dX11_answeredSum_8 rfl (lv_at hl 0 rfl) ?_
    refine lv_iconst (v := 5) hx hb dX11_answeredSum_9 (by decide) ?_
    obtain ⟨v2, g_v2, hs⟩ := bd hs
    obtain ⟨a3, e_a3, k_a3, g_v2⟩ := cV_some g_v2
    obtain rfl := Option.some.inj e_a3
    refine ca_Vl (bq := th) (As := [.int 5]) (rest := []) F M (c_X11_refused g_v2) mf_X11_refused t_685 k_a3 rfl ⟨by decide, by decide⟩ ⟨rfl, rfl⟩ ⟨Nat.zero_le _, Nat.zero_le _⟩ hl.1 rfl (by decide) dX11_answeredSum_10 (fun H locs M => ?_)
    refine lv_goto (tgt := 21) hx hb dX11_answeredSum_13 (by decide) ?_
    obtain rfl := Option.some.inj hs
    exact KJ21 _ _ _ (lv_sub hl [] rfl) M
