def lxF (f : Nat) : Prop := f = 4 ∨ (200 ≤ f ∧ f ≤ 205) ∨ f = 401 ∨ f = 402 ∨ f = 503 ∨ (1001 ≤ f ∧ f ≤ 1005)
def lxG (f : Nat) : Prop := 201 ≤ f ∧ f ≤ 203
theorem FrR2.toX {A : Nat → Nat} {h h' : IH} (x : FrR2 A h h') : FX A lxF lxG (e1 7) no1 h h' := by
  refine Fr.mono x (fun f a q => ?_) (fun f a q => ⟨q.1, q.2.1⟩) (fun a q => ⟨7, rfl, q⟩) (fun a q => q.elim)
  rcases q with q | q
  · rcases q with q | q | q | q
    · exact Or.inr (Or.inr (Or.inr (Or.inr (Or.inr ⟨by omega, by omega⟩))))
    · exact Or.inr (Or.inl ⟨q.1, q.2.1⟩)
    · exact Or.inr (Or.inr (Or.inl q.1))
    · exact Or.inr (Or.inr (Or.inr (Or.inr (Or.inl q))))
  · exact Or.inr (Or.inr (Or.inr (Or.inl q.1)))
/-- the same values, whatever the references are -/
def SmV (h h' : IH) : Prop := fI h' = fI h ∧ fL h' = fL h ∧ rI h' = rI h ∧ rL h' = rL h
section
variable {h h' : IH} {A : Nat → Nat} {D : Dt}
theorem XgT.sv (e : SmV h h') (g : XgT h A D) : XgT h' A D := by unfold XgT; rw [e.1, e.2.2.1]; exact g
theorem XgS.sv (e : SmV h h') (g : XgS h A D) : XgS h' A D := by unfold XgS; rw [e.1, e.2.1]; exact g
theorem XgL.sv (e : SmV h h') (g : XgL h A D) : XgL h' A D := by unfold XgL EnX; rw [e.1, e.2.1]; exact g
theorem XgW.sv (e : SmV h h') (g : XgW h A D) : XgW h' A D := by unfold XgW; rw [e.1, e.2.2.1]; exact g
theorem XgR.sv (e : SmV h h') (g : XgR h A D) : XgR h' A D := by unfold XgR; rw [e.1, e.2.2.1]; exact g
theorem XgP.sv (e : SmV h h') (g : XgP h A D) : XgP h' A D := by unfold XgP; rw [e.1]; exact g
theorem XgE.sv (e : SmV h h') (g : XgE h A D) : XgE h' A D := by unfold XgE; rw [e.1, e.2.2.1]; exact g
theorem XgA.sv (e : SmV h h') (g : XgA h A D) : XgA h' A D := by unfold XgA; rw [e.1]; exact g
end
theorem logX {h : IH} {A : Nat → Nat} {n : Nat} (S : ShX h A n) {D : Dt} {N : Nat} (hN : 2000 ≤ N) (hn : n = dn D) (gT : XgT h A D) (gS : XgS h A D) (gL : XgL h A D) (wT : WgT D) (wS : WgS D) (wL : WgL D) (a c : Int32) : ∃ A' h' H2, s_X11_log N h (A 0) a c = some (logV D a c, h') ∧ ShX h' A' n ∧ (∀ i, i < 200 → A' i = A i) ∧ FX A lxF lxG (e1 7) no1 h H2 ∧ SmV H2 h' ∧ ((logC D a c ∧ fI h' 4 (A 13) = 0 ∧ XgT h' A' (logS D (qOf a c)) ∧ XgL h' A' (logS D (qOf a c)) ∧ XgW h' A' (logS D (qOf a c))) ∨ (¬ logC D a c ∧ A' = A ∧ fI h' 4 (A 13) = fI h 4 (A 13) ∧ XgT h' A (logF D) ∧ XgL h' A (logF D) ∧ XgW h' A (logF D))) := by
  subst hn
  have h12 := wS.1
  have hT := wT.1
  have sv : ∀ H : IH, SmV H H := fun H => ⟨rfl, rfl, rfl, rfl⟩
  have e7 : lvR (dn D) (e1 7) := fun i z => by cases z; exact lv_lit (by decide) (by decide)
  -- what a refusal leaves
  have fin : ∀ H, ShX H A (dn D) → FX A lxF lxG (e1 7) no1 h H → fI H 4 (A 13) = fI h 4 (A 13) → XgL H A D → fI H 1001 (A 1) = 0 → fI H 503 (A 5) = 0 → ¬ logC D a c → ∃ A' h' H2, some (logV D a c, H) = some (logV D a c, h') ∧ ShX h' A' (dn D) ∧ (∀ i, i < 200 → A' i = A i) ∧ FX A lxF lxG (e1 7) no1 h H2 ∧ SmV H2 h' ∧ ((logC D a c ∧ fI h' 4 (A 13) = 0 ∧ XgT h' A' (logS D (qOf a c)) ∧ XgL h' A' (logS D (qOf a c)) ∧ XgW h' A' (logS D (qOf a c))) ∨ (¬ logC D a c ∧ A' = A ∧ fI h' 4 (A 13) = fI h 4 (A 13) ∧ XgT h' A (logF D) ∧ XgL h' A (logF D) ∧ XgW h' A (logF D))) := by
    intro H SH fr i4 gl q1 q2 nc
    refine ⟨A, H, H, rfl, SH, fun _ _ => rfl, fr, sv _, Or.inr ⟨nc, rfl, i4, ⟨q1, ?_⟩, gl, ⟨q2, fun i hi => absurd hi (Nat.not_lt_zero i)⟩⟩⟩
    rw [fr.rI (RA_no S e7 (lv_lit (by decide) (by decide)) (e1n (by decide)))]
    exact gT.2
  -- a refusal before anything was read
  have early : ¬ logC D a c → ∃ A' h' H2, some (logV D a c, wfI (wfI h 1001 (A 1) 0) 503 (A 5) 0) = some (logV D a c, h') ∧ ShX h' A' (dn D) ∧ (∀ i, i < 200 → A' i = A i) ∧ FX A lxF lxG (e1 7) no1 h H2 ∧ SmV H2 h' ∧ ((logC D a c ∧ fI h' 4 (A 13) = 0 ∧ XgT h' A' (logS D (qOf a c)) ∧ XgL h' A' (logS D (qOf a c)) ∧ XgW h' A' (logS D (qOf a c))) ∨ (¬ logC D a c ∧ A' = A ∧ fI h' 4 (A 13) = fI h 4 (A 13) ∧ XgT h' A (logF D) ∧ XgL h' A (logF D) ∧ XgW h' A (logF D))) := by
    intro nc
    have fr : FX A (fun f => f = 503 ∨ f = 1001) no1 no1 no1 h (wfI (wfI h 1001 (A 1) 0) 503 (A 5) 0) := (Fr.wI _ _ _ _ (Or.inr rfl)).trans (Fr.wI _ _ _ _ (Or.inl rfl))
    refine fin _ S ?_ ?_ ?_ ?_ (fI_wfI _ _ _ _) nc
    · exact Fr.mono fr (fun f a z => by unfold lxF; omega) (fun f a z => z.elim) (fun a ⟨i, z, _⟩ => z.elim) (fun a ⟨i, z, _⟩ => z.elim)
    · exact fr.fI (by omega)
    · exact gL.fr fr (fun f z => by omega) (fun f z => z.elim)
    · rw [fI_wfI_ne _ _ (by decide), fI_wfI]
  unfold s_X11_log
  rcases stC h12 a with ⟨s, hs, rfl⟩ | qa
  · have ws := stIn h12 hs
    have ea := atX S gS rfl hs
    simp only [gX11_1 S, vX7 S, ea, Option.bind_some]
    rw [if_neg (show ¬ some (A (100 + s)) = none from fun z => by cases z)]
    simp only [below_spec, Option.bind_some, ite01]
    have S18 : ∀ H v, ShX H A (dn D) → ShX (wfI H 1001 (A 1) v) A (dn D) := fun H v z => z
    rcases bandC c with ⟨k, hk, rfl⟩ | qc
    · have wk := bandIn hk
      rw [if_pos wk, gX9_0 S hs, Option.bind_some, (gS.2 s hs).1]
      have lv : logV D (nI s) (nI k) = (if dK D s = 4 then -2 else if (glD D).length ≤ 16 then nI (glD D).length else -3) := by
        unfold logV
        rw [if_pos ⟨ws, wk⟩, nI_clamp (n := s) (by omega)]
      by_cases q4 : dK D s = 4
      · rw [if_pos q4] at lv ⊢
        have nc : ¬ logC D (nI s) (nI k) := fun z => z.2.2.1 (by rw [nI_clamp (by omega)]; exact q4)
        simp only [Option.bind_some, gX11_0 S, pX10_1 S, if_neg (show ¬ (0 : Int32) ≤ -2 by decide), gX11_2 (S18 h 0 S), pX5_3 (S18 h 0 S)]
        rw [if_neg (show ¬ some (A (100 + s)) = none from fun z => by cases z), ← lv]
        exact early nc
      · rw [if_neg q4] at lv ⊢
        obtain ⟨h9, e9, f9, x9⟩ := readTapeX S hN hT gT.1 gT.2
        have S9 := f9.shX S
        have hg : gdL (dB D) (dT D) (dT D + 1) 0 = glD D := rfl
        have hw : wrL_ (dB D) (dT D) (dT D + 1) 0 0 = wlD D := rfl
        rw [hg] at e9 x9
        rw [hw] at x9
        simp only [gX11_2 S, vX5 S, e9, Option.bind_some, ite01]
        by_cases q16 : (glD D).length ≤ 16
        · rw [if_pos q16] at lv ⊢
          obtain ⟨y1, y2, y3, y4, y5⟩ := x9 q16
          have y1' : fI h9 401 (A (200 + 36)) = nI (glD D).length := y1
          have a36 : gR h9 5 4 (some (A 5)) = some (some (A (200 + 36))) := gX5_4 S9
          simp only [gX11_2 S9, a36, gX4_1 S9 (q36 (dn D)), y1', Option.bind_some, gX11_0 S9, pX10_1 S9, if_pos (show (0 : Int32) ≤ nI (glD D).length from nI_pos' (by omega))]
          rw [if_neg (show ¬ some (A (100 + s)) = none from fun z => by cases z)]
          have S18' := S18 h9 0 S9
          generalize h18e : wfI h9 1001 (A 1) 0 = H18
          rw [h18e] at S18'
          have a36' : gR H18 5 4 (some (A 5)) = some (some (A 236)) := gX5_4 S18'
          have hs36 : 3 * s + k < 36 := by omega
          have eput : s_X9_putLog H18 (A (100 + s)) (nI k) (some (A 236)) = some (some (A (200 + (3 * s + k))), wrR H18 (A (120 + s)) k (some (A 236))) := by
            unfold s_X9_putLog
            rw [if_neg (nI_pos (by omega)), if_pos wk.2, gX9_5 S18' hs, Option.bind_some, rX120 S18' hs hk, Option.bind_some, Option.bind_some]
            have k1 : kd H18 (A (120 + s)) = 24 := by rw [kA S18' (lv_la hs), KX_la (by omega)]
            have k2 : kd H18 (A 236) = 5 := kQ S18' (q36 (dn D))
            have k3 : ln H18 (A (120 + s)) = 3 := by
              rw [lA S18' (lv_la hs) (by rw [KX_la (by omega)]; omega)]
              unfold LX
              rw [if_neg (by omega), if_pos (by omega)]
            have k4 := nI_in (c := k) (N := 3) hk (by omega)
            have k5 : (nI k).toNatClampNeg = k := nI_clamp (by omega)
            show ((if (kd H18 (A (120 + s)) = 20 + 4 ∧ kd H18 (A 236) = 4 + 1) ∧ ¬ (nI k < 0 ∨ ln H18 (A (120 + s)) ≤ (nI k).toNatClampNeg) then some (wrR H18 (A (120 + s)) (nI k).toNatClampNeg (some (A 236))) else none).bind fun h6 => some (some (A (200 + (3 * s + k))), h6)) = _
            rw [if_pos ⟨⟨k1, k2⟩, by rw [k3]; exact k4⟩, k5]
            rfl
          have kS5 : kd (wrR H18 (A (120 + s)) k (some (A 236))) (A 5) = 5 + 1 := by
            show kd H18 (A 5) = 6
            exact k5 S18'
          have e504 : pR (wrR H18 (A (120 + s)) k (some (A 236))) 5 4 (some (A 5)) (some (A (200 + (3 * s + k)))) = some (wfR (wrR H18 (A (120 + s)) k (some (A 236))) 504 (A 5) (some (A (200 + (3 * s + k))))) := by
            unfold pR
            rw [Option.bind_some, if_pos kS5]
          simp only [gX11_2 S18', a36', Option.bind_some, vX9 S18' hs, eput, e504]
          have SS := ShX_sw S18' hs hk
          generalize hHe : wfR (wrR H18 (A (120 + s)) k (some (A 236))) 504 (A 5) (some (A (200 + (3 * s + k)))) = HE at SS
          have nm : ∀ i, i < 200 → (fun i => A (swN (3 * s + k) i)) i = A i := fun i hi => by dsimp only; rw [swN_lo hi]
          have g4 : gR HE 11 4 (some (A 0)) = some (some (A 13)) := by
            have := gX11_4 SS
            rw [swN_lo (by omega), swN_lo (by omega)] at this
            exact this
          have p4 : pZ HE 0 4 (some (A 13)) 0 = some (wfI HE 4 (A 13) 0) := by
            have := pX0_4z SS (v := 0) (Or.inl rfl)
            rw [swN_lo (by omega)] at this
            exact this
          rw [g4, Option.bind_some, p4, Option.bind_some]
          have vE : SmV H18 HE := by rw [← hHe]; exact ⟨rfl, rfl, rfl, rfl⟩
          have vF : SmV (wfI H18 4 (A 13) 0) (wfI HE 4 (A 13) 0) := by rw [← hHe]; exact ⟨rfl, rfl, rfl, rfl⟩
          have f18 : FX A lxF lxG (e1 7) no1 h H18 := by
            rw [← h18e]
            exact f9.toX.trans (Fr.wI _ _ _ _ (by unfold lxF; omega))
          have f29 : FX A lxF lxG (e1 7) no1 h (wfI H18 4 (A 13) 0) := f18.trans (Fr.wI _ _ _ _ (by unfold lxF; omega))
          have qe : qOf (nI s) (nI k) = 3 * s + k := by
            unfold qOf
            rw [nI_clamp (by omega), nI_clamp (by omega)]
          refine ⟨fun i => A (swN (3 * s + k) i), wfI HE 4 (A 13) 0, wfI H18 4 (A 13) 0, by rw [lv], SS, nm, f29, vF, Or.inl ⟨⟨ws, wk, by rw [nI_clamp (by omega)]; exact q4, q16⟩, fI_wfI _ _ _ _, ?_, ?_, ?_⟩⟩
          · refine XgT.sv vF (XgT.nm nm ⟨?_, ?_⟩)
            · show fI (wfI H18 4 (A 13) 0) 1001 (A 1) = 0
              rw [fI_wfI_ne _ _ (by decide), ← h18e, fI_wfI]
            · show rI (wfI H18 4 (A 13) 0) (A 2) = dB D
              rw [f29.rI (RA_no S e7 (lv_lit (by decide) (by decide)) (e1n (by decide)))]
              exact gT.2
          · rw [qe]
            have iF : ∀ f a, f ≠ 4 → f ≠ 1001 → fI (wfI HE 4 (A 13) 0) f a = fI h9 f a := by
              intro f a h1 h2
              rw [fI_wfI_ne _ _ h1, vE.1, ← h18e, fI_wfI_ne _ _ h2]
            have lF : fL (wfI HE 4 (A 13) 0) = fL h9 := by rw [fL_wfI, vE.2.1, ← h18e, fL_wfI]
            intro q hq
            have hq : q < 3 * dn D := hq
            dsimp only
            rw [swN_q hs36 (by omega)]
            by_cases cq : q = 3 * s + k
            · subst cq
              rw [if_pos rfl]
              have z1 : dms (logS D (3 * s + k)) (3 * s + k) = false := if_pos rfl
              have z2 : dsz (logS D (3 * s + k)) (3 * s + k) = (glD D).length := if_pos rfl
              rw [z1, z2, iF _ _ (by decide) (by decide), iF _ _ (by decide) (by decide)]
              refine ⟨y2, y1, fun i hi => ?_⟩
              rw [swN_e hs36 (by omega), if_pos rfl]
              have L := y3 i hi
              have e2 : (16 * (3 * s + k) + i) / 16 = 3 * s + k := by omega
              have e3 : (16 * (3 * s + k) + i) % 16 = i := by omega
              have k1 : dso (logS D (3 * s + k)) (16 * (3 * s + k) + i) = ((glD D).getD i dLn).1 := by show (if (16 * (3 * s + k) + i) / 16 = 3 * s + k then ((glD D).getD ((16 * (3 * s + k) + i) % 16) dLn).1 else _) = _; rw [if_pos e2, e3]
              have k2 : dmo (logS D (3 * s + k)) (16 * (3 * s + k) + i) = ((glD D).getD i dLn).2.1 := by show (if (16 * (3 * s + k) + i) / 16 = 3 * s + k then ((glD D).getD ((16 * (3 * s + k) + i) % 16) dLn).2.1 else _) = _; rw [if_pos e2, e3]
              have k3 : dse (logS D (3 * s + k)) (16 * (3 * s + k) + i) = ((glD D).getD i dLn).2.2.1 := by show (if (16 * (3 * s + k) + i) / 16 = 3 * s + k then ((glD D).getD ((16 * (3 * s + k) + i) % 16) dLn).2.2.1 else _) = _; rw [if_pos e2, e3]
              have k4 : dtl (logS D (3 * s + k)) (16 * (3 * s + k) + i) = ((glD D).getD i dLn).2.2.2.2.1 := by show (if (16 * (3 * s + k) + i) / 16 = 3 * s + k then ((glD D).getD ((16 * (3 * s + k) + i) % 16) dLn).2.2.2.2.1 else _) = _; rw [if_pos e2, e3]
              have k5 : dtb (logS D (3 * s + k)) (16 * (3 * s + k) + i) = fun j => dB D (((glD D).getD i dLn).2.2.2.1 + j) := by show (if (16 * (3 * s + k) + i) / 16 = 3 * s + k then (fun j => dB D (((glD D).getD ((16 * (3 * s + k) + i) % 16) dLn).2.2.2.1 + j)) else _) = _; rw [if_pos e2, e3]
              have k6 : dsn (logS D (3 * s + k)) (16 * (3 * s + k) + i) = ((glD D).getD i dLn).2.2.2.2.2.1 := by show (if (16 * (3 * s + k) + i) / 16 = 3 * s + k then ((glD D).getD ((16 * (3 * s + k) + i) % 16) dLn).2.2.2.2.2.1 else _) = _; rw [if_pos e2, e3]
              have k7 : dgt (logS D (3 * s + k)) (16 * (3 * s + k) + i) = ((glD D).getD i dLn).2.2.2.2.2.2 := by show (if (16 * (3 * s + k) + i) / 16 = 3 * s + k then ((glD D).getD ((16 * (3 * s + k) + i) % 16) dLn).2.2.2.2.2.2 else _) = _; rw [if_pos e2, e3]
              unfold EnX
              rw [k1, k2, k3, k4, k5, k6, k7, lF, iF _ _ (by decide) (by decide), iF _ _ (by decide) (by decide), iF _ _ (by decide) (by decide)]
              refine ⟨L.1, L.2.1, L.2.2.1, fun z => ?_⟩
              have := L.2.2.2 z
              refine ⟨this.1.trans (calV_sh _ _ _ _ (fun j _ => by rw [Nat.zero_add])), this.2⟩
            · rw [if_neg cq, if_neg (by omega)]
              have z1 : dms (logS D (3 * s + k)) q = dms D q := if_neg cq
              have z2 : dsz (logS D (3 * s + k)) q = dsz D q := if_neg cq
              have hi16 := (wL.1 q (by omega)).1
              obtain ⟨o1, o2, o3⟩ := gL q hq
              have ne : A (200 + q) ≠ A 236 := nA S (lv_q h12 (Or.inl hq)) (lv_q h12 (q36 (dn D))) (by omega)
              have n1 : ∀ f, f = 401 ∨ f = 402 → fI h9 f (A (200 + q)) = fI h f (A (200 + q)) := fun f hf => f9.fI (fun z => by
                rcases z with z | z
                · rcases z with z | z | z | z
                  · omega
                  · omega
                  · exact ne z.2
                  · omega
                · exact ne z.2)
              rw [z1, z2, iF _ _ (by decide) (by decide), iF _ _ (by decide) (by decide), n1 _ (Or.inr rfl), n1 _ (Or.inl rfl)]
              refine ⟨o1, o2, fun i hi => ?_⟩
              have o := o3 i hi
              have e2 : ¬ (16 * q + i) / 16 = 3 * s + k := by omega
              rw [swN_e hs36 (by omega), if_neg cq, if_neg (by omega)]
              have k1 : dso (logS D (3 * s + k)) (16 * q + i) = dso D (16 * q + i) := if_neg e2
              have k2 : dmo (logS D (3 * s + k)) (16 * q + i) = dmo D (16 * q + i) := if_neg e2
              have k3 : dse (logS D (3 * s + k)) (16 * q + i) = dse D (16 * q + i) := if_neg e2
              have k4 : dtl (logS D (3 * s + k)) (16 * q + i) = dtl D (16 * q + i) := if_neg e2
              have k5 : dtb (logS D (3 * s + k)) (16 * q + i) = dtb D (16 * q + i) := if_neg e2
              have k6 : dsn (logS D (3 * s + k)) (16 * q + i) = dsn D (16 * q + i) := if_neg e2
              have k7 : dgt (logS D (3 * s + k)) (16 * q + i) = dgt D (16 * q + i) := if_neg e2
              have lve := lv_e h12 (Or.inl hq : lvQ (dn D) q) (show i < 16 by omega)
              have nad : ¬ (A (1000 + (16 * q + i)) = A 6 ∨ ∃ j, j < 16 ∧ A (1000 + (16 * q + i)) = A (1000 + (16 * 36 + j))) := by
                intro z
                rcases z with z | ⟨j, hj, z⟩
                · have := iA S lve (lv_lit (by decide) (by decide)) z
                  omega
                · have := iA S lve (lv_e h12 (q36 (dn D)) hj) z
                  omega
              have n2 : ∀ f, 200 ≤ f → f ≤ 205 → fI h9 f (A (1000 + (16 * q + i))) = fI h f (A (1000 + (16 * q + i))) := fun f h1 h2 => f9.fI (fun z => by
                rcases z with z | z
                · rcases z with z | z | z | z
                  · omega
                  · exact nad z.2.2
                  · omega
                  · omega
                · omega)
              have n3 : ∀ f, fL h9 f (A (1000 + (16 * q + i))) = fL h f (A (1000 + (16 * q + i))) := fun f => f9.fL (fun z => nad z.2.2)
              unfold EnX
              rw [k1, k2, k3, k4, k5, k6, k7, lF, iF _ _ (by decide) (by decide), iF _ _ (by decide) (by decide), iF _ _ (by decide) (by decide), n2 200 (by omega) (by omega), n2 204 (by omega) (by omega), n2 205 (by omega) (by omega), n3, n3, n3]
              exact o
          · refine XgW.sv vF (XgW.nm nm ⟨?_, fun i hi => ?_⟩)
            · show fI (wfI H18 4 (A 13) 0) 503 (A 5) = nI (wlD D).length
              rw [fI_wfI_ne _ _ (by decide), ← h18e, fI_wfI_ne _ _ (by decide), y4]
            · show rI (wfI H18 4 (A 13) 0) (A 7) i = (wlD D).getD i 0
              rw [rI_wfI, ← h18e, rI_wfI]
              exact y5 i hi
        · rw [if_neg q16] at lv ⊢
          have S18' := S18 h9 0 S9
          simp only [Option.bind_some, gX11_0 S9, pX10_1 S9, if_neg (show ¬ (0 : Int32) ≤ -3 by decide), gX11_2 S18', pX5_3 S18']
          rw [if_neg (show ¬ some (A (100 + s)) = none from fun z => by cases z), ← lv]
          refine fin _ S9 ?_ ?_ ?_ ?_ (fI_wfI _ _ _ _) (fun z => q16 z.2.2.2)
          · exact (f9.toX.trans (Fr.wI _ _ _ _ (by unfold lxF; omega))).trans (Fr.wI _ _ _ _ (by unfold lxF; omega))
          · rw [fI_wfI_ne _ _ (by decide), fI_wfI_ne _ _ (by decide)]
            refine f9.fI (fun z => ?_)
            rcases z with z | z
            · rcases z with z | z | z | z <;> omega
            · omega
          · intro q hq
            have hq : q < 3 * dn D := hq
            have hi16 := (wL.1 q (by omega)).1
            obtain ⟨o1, o2, o3⟩ := gL q hq
            have ne : A (200 + q) ≠ A 236 := nA S (lv_q h12 (Or.inl hq)) (lv_q h12 (q36 (dn D))) (by omega)
            have n1 : ∀ f, f = 401 ∨ f = 402 → fI h9 f (A (200 + q)) = fI h f (A (200 + q)) := fun f hf => f9.fI (fun z => by
              rcases z with z | z
              · rcases z with z | z | z | z
                · omega
                · omega
                · exact ne z.2
                · omega
              · exact ne z.2)
            rw [fI_wfI_ne _ _ (by decide), fI_wfI_ne _ _ (by decide), n1 _ (Or.inr rfl), fI_wfI_ne _ _ (by decide), fI_wfI_ne _ _ (by decide), n1 _ (Or.inl rfl)]
            refine ⟨o1, o2, fun i hi => ?_⟩
            have o := o3 i hi
            have lve := lv_e h12 (Or.inl hq : lvQ (dn D) q) (show i < 16 by omega)
            have nad : ¬ (A (1000 + (16 * q + i)) = A 6 ∨ ∃ j, j < 16 ∧ A (1000 + (16 * q + i)) = A (1000 + (16 * 36 + j))) := by
              intro z
              rcases z with z | ⟨j, hj, z⟩
              · have := iA S lve (lv_lit (by decide) (by decide)) z
                omega
              · have := iA S lve (lv_e h12 (q36 (dn D)) hj) z
                omega
            have n2 : ∀ f, 200 ≤ f → f ≤ 205 → fI (wfI (wfI h9 1001 (A 1) 0) 503 (A 5) 0) f (A (1000 + (16 * q + i))) = fI h f (A (1000 + (16 * q + i))) := fun f h1 h2 => by
              rw [fI_wfI_ne _ _ (by omega), fI_wfI_ne _ _ (by omega)]
              exact f9.fI (fun z => by
                rcases z with z | z
                · rcases z with z | z | z | z
                  · omega
                  · exact nad z.2.2
                  · omega
                  · omega
                · omega)
            have n3 : ∀ f, fL h9 f (A (1000 + (16 * q + i))) = fL h f (A (1000 + (16 * q + i))) := fun f => f9.fL (fun z => nad z.2.2)
            unfold EnX
            rw [n2 200 (by omega) (by omega), n2 204 (by omega) (by omega), n2 205 (by omega) (by omega), fL_wfI, fL_wfI, n3, n3, n3]
            exact o
          · rw [fI_wfI_ne _ _ (by decide), fI_wfI]
    · have lv : logV D (nI s) c = -1 := if_neg (fun z => qc z.2)
      rw [if_neg qc]
      simp only [Option.bind_some, gX11_0 S, pX10_1 S, if_neg (show ¬ (0 : Int32) ≤ -1 by decide), gX11_2 (S18 h 0 S), pX5_3 (S18 h 0 S)]
      rw [if_neg (show ¬ some (A (100 + s)) = none from fun z => by cases z), ← lv]
      exact early (fun z => qc z.2.1)
  · have ea := atX0 S gS qa
    have S18 : ShX (wfI h 1001 (A 1) 0) A (dn D) := S
    have lv : logV D a c = -1 := if_neg (fun z => qa z.1)
    simp only [gX11_1 S, vX7 S, ea, Option.bind_some, if_pos, gX11_0 S, pX10_1 S, gX11_2 S18, pX5_3 S18]
    rw [← lv]
    exact early (fun z => qa z.1)
