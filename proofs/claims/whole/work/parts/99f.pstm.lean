/-! ===== a new reference ===== -/
set_option maxRecDepth 100000 in
theorem startM {N : Nat} (hN : 2000 ≤ N) (m : Nat) {C : IH → Prop} (nx : ∀ h' ar, ShM h' m ar → GM h' m ar D0 → fI h' 1217 m = 0 → C h') : s_X12_initP N (newO hE 12 m) m C := by
  have I : InM (newO hE 12 m) m [] 0 0 := ⟨fun _ => 0, va_up_s _ _ _, fun k hk => absurd hk List.not_mem_nil, fun j hj => absurd hj List.not_mem_nil, fun f _ _ => if_pos rfl, if_pos rfl, if_pos rfl⟩
  unfold s_X12_initP
  intro q g hq e; subst e
  refine InM.new (k := 2) I hq rfl rfl (by decide) (fun h I => ?_)
  clear hq q
  intro q g hq e; subst e
  refine InM.new (k := 3) I hq rfl rfl (by decide) (fun h I => ?_)
  clear hq q
  intro q g hq e; subst e
  refine InM.new (k := 4) I hq rfl rfl (by decide) (fun h I => ?_)
  clear hq q
  intro q g hq e; subst e
  refine InM.new (k := 5) I hq rfl rfl (by decide) (fun h I => ?_)
  clear hq q
  intro q g hq e; subst e
  refine InM.new (k := 6) I hq rfl rfl (by decide) (fun h I => ?_)
  clear hq q
  intro q g hq e; subst e
  refine InM.new (k := 7) I hq rfl rfl (by decide) (fun h I => ?_)
  clear hq q
  intro q g hq e; subst e
  refine InM.new (k := 8) I hq rfl rfl (by decide) (fun h I => ?_)
  clear hq q
  intro q g hq e; subst e
  refine InM.new (k := 9) I hq rfl rfl (by decide) (fun h I => ?_)
  clear hq q
  intro q g hq e; subst e
  refine InM.new (k := 10) I hq rfl rfl (by decide) (fun h I => ?_)
  clear hq q
  intro q g hq e; subst e
  refine InM.new (k := 11) I hq rfl rfl (by decide) (fun h I => ?_)
  clear hq q
  intro q g hq e; subst e
  refine InM.new (k := 12) I hq rfl rfl (by decide) (fun h I => ?_)
  clear hq q
  intro q g hq e; subst e
  refine InM.new (k := 13) I hq rfl rfl (by decide) (fun h I => ?_)
  clear hq q
  intro q g hq e; subst e
  refine InM.new (k := 14) I hq rfl rfl (by decide) (fun h I => ?_)
  clear hq q
  intro q g hq e; subst e
  refine InM.new (k := 15) I hq rfl rfl (by decide) (fun h I => ?_)
  clear hq q
  intro q g hq e; subst e
  refine InM.new (k := 16) I hq rfl rfl (by decide) (fun h I => ?_)
  clear hq q
  intro q g hq e; subst e
  refine InM.new (k := 18) I hq rfl rfl (by decide) (fun h I => ?_)
  clear hq q
  intro q g hq e; subst e
  refine InM.new (k := 19) I hq rfl rfl (by decide) (fun h I => ?_)
  clear hq q
  intro q g hq e; subst e
  refine InM.new (k := 20) I hq rfl rfl (by decide) (fun h I => ?_)
  clear hq q
  refine InM.win I 60 (fun h I => ?_)
  refine InM.wrd I 1 (fun h I => ?_)
  intro q g hq e; subst e
  refine InM.new (k := 24) I hq rfl rfl (by decide) (fun h I => ?_)
  clear hq q
  intro q g hq e; subst e
  refine InM.new (k := 25) I hq rfl rfl (by decide) (fun h I => ?_)
  clear hq q
  intro q g hq e; subst e
  refine InM.new (k := 26) I hq rfl rfl (by decide) (fun h I => ?_)
  clear hq q
  intro q g hq e; subst e
  refine InM.new (k := 27) I hq rfl rfl (by decide) (fun h I => ?_)
  clear hq q
  intro q g hq e; subst e
  refine InM.new (k := 28) I hq rfl rfl (by decide) (fun h I => ?_)
  clear hq q
  intro q g hq e; subst e
  refine InM.new (k := 31) I hq rfl rfl (by decide) (fun h I => ?_)
  clear hq q
  intro q g hq e; subst e
  refine InM.new (k := 33) I hq rfl rfl (by decide) (fun h I => ?_)
  clear hq q
  intro q g hq e; subst e
  refine InM.new (k := 34) I hq rfl rfl (by decide) (fun h I => ?_)
  clear hq q
  intro q g hq e; subst e
  refine InM.new (k := 35) I hq rfl rfl (by decide) (fun h I => ?_)
  clear hq q
  intro q g hq e; subst e
  refine InM.new (k := 51) I hq rfl rfl (by decide) (fun h I => ?_)
  clear hq q
  intro q g hq e; subst e
  refine InM.new (k := 59) I hq rfl rfl (by decide) (fun h I => ?_)
  clear hq q
  intro q g hq e; subst e
  refine InM.new (k := 60) I hq rfl rfl (by decide) (fun h I => ?_)
  clear hq q
  intro q g hq e; subst e
  refine InM.new (k := 61) I hq rfl rfl (by decide) (fun h I => ?_)
  clear hq q
  intro q g hq e; subst e
  refine InM.new (k := 62) I hq rfl rfl (by decide) (fun h I => ?_)
  clear hq q
  intro q g hq e; subst e
  refine InM.new (k := 63) I hq rfl rfl (by decide) (fun h I => ?_)
  clear hq q
  intro q g hq e; subst e
  refine InM.new (k := 64) I hq rfl rfl (by decide) (fun h I => ?_)
  clear hq q
  intro q g hq e; subst e
  refine InM.new (k := 65) I hq rfl rfl (by decide) (fun h I => ?_)
  clear hq q
  intro q g hq e; subst e
  refine InM.new (k := 66) I hq rfl rfl (by decide) (fun h I => ?_)
  clear hq q
  intro q g hq e; subst e
  refine InM.new (k := 69) I hq rfl rfl (by decide) (fun h I => ?_)
  clear hq q
  exact endM_ hN I nx
