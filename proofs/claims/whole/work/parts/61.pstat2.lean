def stR (a0 a1 a2 a3 : Int32) : Prop := (0 ≤ a0 ∧ a0 < 5) ∧ (0 ≤ a1 ∧ a1 < 40) ∧ (0 ≤ a2 ∧ a2 < 100) ∧ (0 ≤ a3 ∧ a3 < 100)
def stK (D : Dt) : Prop := 1 ≤ dT D ∧ dT D ≤ 6 ∧ allB clB (dB D) (dT D) 0 = true
def stG (D : Dt) (a0 a1 a2 a3 : Int32) : Prop := stR a0 a1 a2 a3 ∧ stK D ∧ withC D (dT D) (dB D) = none ∧ dn D < 12
def stV (D : Dt) (a0 a1 a2 a3 : Int32) : Int32 := if (0 ≤ a0 ∧ a0 < 5) then (if (0 ≤ a1 ∧ a1 < 40) then (if (0 ≤ a2 ∧ a2 < 100) then (if (0 ≤ a3 ∧ a3 < 100) then (if 1 ≤ dT D ∧ dT D ≤ 6 ∧ allB clB (dB D) (dT D) 0 = true then (if withC D (dT D) (dB D) = none then (if dn D < 12 then nI (dn D) else -4) else -3) else -2) else -1) else -1) else -1) else -1
def stF (D : Dt) : Dt := uT D 0 (dB D)
def stD (D : Dt) (a0 a1 a2 a3 : Int32) : Dt := uS (uT D 0 (dB D)) (dn D + 1) (upd (dK D) (dn D) a0) (upd (dZ D) (dn D) a1) (upd (dX D) (dn D) a2) (upd (dY D) (dn D) a3) (fun s => if s = dn D then dT D else dcl D s) (fun s => if s = dn D then dB D else dcb D s)
theorem withC_lt {D : Dt} {l : Nat} {b : Nat → Int32} : ∀ s, withC D l b = some s → s < dn D := fun s h => by
  have := lst_some _ _ _ h
  omega
theorem tm0 {D : Dt} (w : WgS D) {s : Nat} (hs : dn D ≤ s) (h12 : s < 12) : dtm D s = 0 := by
  rcases w.2.2.2 s h12 with h | ⟨t, _, _, h, _⟩
  · exact h
  · omega
theorem mem_st {D : Dt} (w : WgS D) (h12 : dn D < 12) (a0 a1 a2 a3 : Int32) (s : Nat) (hs : s < 12) : mem (stD D a0 a1 a2 a3) s = mem D s ∧ (s = dn D → mem D s = 0) := by
  constructor
  · show cnt (fun k => decide (dtm D k = nI (s + 1))) (dn D + 1) = cnt (fun k => decide (dtm D k = nI (s + 1))) (dn D)
    show cnt (fun k => decide (dtm D k = nI (s + 1))) (dn D) + (if decide (dtm D (dn D) = nI (s + 1)) then 1 else 0) = _
    rw [tm0 w (Nat.le_refl _) h12, decide_eq_false (fun z => by have := (nI_eq (a := 0) (b := s + 1) (by omega) (by omega)).mp z; omega)]
    rfl
  · intro e
    show cnt (fun k => decide (dtm D k = nI (s + 1))) (dn D) = 0
    have H : ∀ k, k ≤ 12 → cnt (fun k => decide (dtm D k = nI (s + 1))) k = 0 := by
      intro k
      induction k with
      | zero => intro _; rfl
      | succ k ih =>
        intro hk
        show cnt (fun k => decide (dtm D k = nI (s + 1))) k + (if decide (dtm D k = nI (s + 1)) then 1 else 0) = 0
        rw [ih (by omega)]
        have : decide (dtm D k = nI (s + 1)) = false := by
          apply decide_eq_false
          intro z
          rcases w.2.2.2 k (by omega) with h | ⟨t, h1, h2, _⟩
          · rw [h] at z
            have := (nI_eq (a := 0) (b := s + 1) (by omega) (by omega)).mp z
            omega
          · rw [h2] at z
            have := (nI_eq (by omega) (by omega)).mp z
            omega
        rw [this]
        rfl
    exact H _ (by omega)
theorem stationX {h : IH} {A : Nat → Nat} {n : Nat} (S : ShX h A n) {D : Dt} {N : Nat} {P : Int32 → IH → Prop} (hN : 2000 ≤ N) (hn : n = dn D) (g : GX h A D) (wT : WgT D) (wS : WgS D) (wL : WgL D) (wE : WgE D) (a0 a1 a2 a3 : Int32) (qF : ∀ h', FX A (e1 1001) no1 no1 no1 h h' → ¬ stG D a0 a1 a2 a3 → GX h' A (stF D) → P (stV D a0 a1 a2 a3) h') (qS : ∀ A' h', stG D a0 a1 a2 a3 → A' 0 = A 0 → ShX h' A' (dn D + 1) → fI h' 4 (A' 13) = 0 → GX h' A' (stD D a0 a1 a2 a3) → P (stV D a0 a1 a2 a3) h') : s_X11_stationP N h (A 0) a0 a1 a2 a3 P := by
  subst hn
  obtain ⟨gT, gS, gL, gW, gR, gP, gE, gA⟩ := id g
  have h12 := wS.1
  have hT := wT.1
  have cb := callBetween_spec S hN gT.1 hT (f := 0) (Nat.le_refl (dT D)) (by omega)
  rw [nI_0, Nat.sub_zero, gT.2] at cb
  unfold s_X11_stationP
  have S6 : ShX (wfI h 1001 (A 1) 0) A (dn D) := S
  have f6 : FX A (e1 1001) no1 no1 no1 h (wfI h 1001 (A 1) 0) := Fr.wI _ _ _ _ rfl
  have no : lvR (dn D) no1 := fun i z => z.elim
  have g6 : GX (wfI h 1001 (A 1) 0) A (stF D) := by
    refine ⟨⟨fI_wfI _ _ _ _, gT.2⟩, gS.fr f6 (fun f z => by cases z; omega) (fun z => z), gL.fr f6 (fun f z => by cases z; omega) (fun f z => z.elim), gW.fr S f6 no (e1n (by decide)) (fun z => z), gR.fr S f6 no (e1n (by decide)) (fun z => z), gP.fr f6 (e1n (by decide)) (e1n (by decide)), gE.fr S f6 no wE.1 (e1n (by decide)) (fun z => z) (fun i _ z => z), gA.fr f6 (fun f z => by cases z; omega)⟩
  refine bP_ok (gX11_0 S) (bP_ok (gX11_0 S) (bP_ok (gX10_1 S) ?_))
  rw [gT.1]
  refine bP_ok (by rw [vX10 S]; exact cb) (bP_ok (gX11_0 S) (bP_ok (pX10_1 S 0) ?_))
  have qF' := fun z => qF _ f6 z g6
  have lv : stV D a0 a1 a2 a3 = (if (0 ≤ a0 ∧ a0 < 5) then (if (0 ≤ a1 ∧ a1 < 40) then (if (0 ≤ a2 ∧ a2 < 100) then (if (0 ≤ a3 ∧ a3 < 100) then (if 1 ≤ dT D ∧ dT D ≤ 6 ∧ allB clB (dB D) (dT D) 0 = true then (if withC D (dT D) (dB D) = none then (if dn D < 12 then nI (dn D) else -4) else -3) else -2) else -1) else -1) else -1) else -1) := rfl
  refine bP_ok (below_spec _ _ _) ?_
  rw [ite01]
  by_cases c0 : 0 ≤ a0 ∧ a0 < 5
  · rw [if_pos c0] at lv
    rw [if_pos c0]
    refine bP_ok (below_spec _ _ _) ?_
    rw [ite01]
    by_cases c1 : 0 ≤ a1 ∧ a1 < 40
    · rw [if_pos c1] at lv
      rw [if_pos c1]
      refine bP_ok (below_spec _ _ _) ?_
      rw [ite01]
      by_cases c2 : 0 ≤ a2 ∧ a2 < 100
      · rw [if_pos c2] at lv
        rw [if_pos c2]
        refine bP_ok (below_spec _ _ _) ?_
        rw [ite01]
        by_cases c3 : 0 ≤ a3 ∧ a3 < 100
        · rw [if_pos c3] at lv
          rw [if_pos c3]
          by_cases ck : 1 ≤ dT D ∧ dT D ≤ 6 ∧ allB clB (dB D) (dT D) 0 = true
          · rw [if_pos ck] at lv
            have ck' : 0 < dT D ∧ dT D ≤ 6 ∧ allB clB (dB D) (dT D) 0 = true := ⟨by omega, ck.2⟩
            rw [if_pos ck']
            have nz : ¬ lg_cmp (calV (dB D) (dT D) 0 0) 0 = 0 := fun z => by
              have := calOk_ne (b := dB D) (s := 0) (e := dT D) (decide_eq_true (by rw [Nat.sub_zero]; exact ck))
              rw [Nat.sub_zero] at this
              exact this ((lc_eq _ _).mp z)
            rw [if_neg nz]
            refine bP_ok (gX11_1 S6) (bP_ok (by rw [vX7 S6]; exact numberOfX S6 hN g6.2.1 rfl _ _) ?_)
            have eW : withC (stF D) (dT D) (dB D) = withC D (dT D) (dB D) := rfl
            rw [eW]
            by_cases cw : withC D (dT D) (dB D) = none
            · rw [if_pos cw] at lv
              rw [if_pos ((oI_m1 (fun s z => by have := withC_lt s z; omega)).mpr cw)]
              refine bP_ok (gX11_1 S6) (bP_ok (gX7_1 S6) ?_)
              have en : fI (wfI h 1001 (A 1) 0) 701 (A 3) = nI (dn D) := g6.2.1.1
              rw [en]
              by_cases c12 : dn D < 12
              · rw [if_pos c12] at lv
                rw [if_pos (show nI (dn D) < 12 from nI_lt (b := 12) c12 (by omega))]
                refine bP_ok (gX11_4 S6) (bP_ok (pX0_4z S6 (v := 0) (Or.inl rfl)) ?_)
                generalize h23e : wfI (wfI h 1001 (A 1) 0) 4 (A 13) 0 = H23
                have S23 : ShX H23 A (dn D) := by rw [← h23e]; exact S
                refine bP_ok (gX11_1 S23) ?_
                intro th h26 hq e26
                subst e26
                refine stInit hN hq a0 a1 a2 a3 _ (fun h27 la lg rw es K b1 b2 b3 b4 b5 b6 b7 b8 b9 b10 b11 b12 L i1 i2 i3 => ?_)
                have SX := ShX_ext S23 c12 K b1 hq b2 b3 b4 b5 L i1 i2 i3
                have nz : ∀ {i}, lvX (dn D) i → kd H23 (A i) ≠ 0 := fun hi => by rw [kA S23 hi]; exact KX_nz h12 hi
                have l3 : lvX (dn D) 3 := lv_lit (by decide) (by decide)
                have l4 : lvX (dn D) 4 := lv_lit (by decide) (by decide)
                have K3 := K (A 3) (nz l3)
                have K4 := K (A 4) (nz l4)
                have k3 : kd h27 (A 3) = 8 := by rw [K3.1]; exact kA S23 l3
                have k4 : kd h27 (A 4) = 25 := by rw [K4.1]; exact kA S23 l4
                have n4 : ln h27 (A 4) = 12 := by rw [K4.2.1]; exact lA S23 l4 (by decide)
                have s27 : fI h27 701 (A 3) = nI (dn D) := by
                  rw [(K3.2.2 (fun z => z)).1, ← h23e, fI_wfI_ne _ _ (by decide)]
                  exact en
                have r27 : fR h27 700 (A 3) = some (A 4) := by
                  rw [(K3.2.2 (fun z => z)).2.2.1]
                  exact rA S23 700 3 4 (by decide)
                have eadd : s_X7_add h27 (A 3) (some th) = some (nI (dn D), wfI (wrR h27 (A 4) (dn D) (some th)) 701 (A 3) (nI (dn D + 1))) := by
                  unfold s_X7_add
                  rw [gI_ok (c := 7) 1 k3, Option.bind_some]
                  show (if fI h27 701 (A 3) < 12 then _ else _) = _
                  rw [s27, if_pos (show nI (dn D) < 12 from nI_lt (b := 12) c12 (by omega)), gR_ok (c := 7) 0 k3, Option.bind_some]
                  show ((some (nI (dn D))).bind fun v4 => (sR h27 5 9 (fR h27 700 (A 3)) v4 (some th)).bind _) = _
                  rw [Option.bind_some, r27, sR_ok (k := 5) (c := 9) k4 b1 (by omega) (by omega), Option.bind_some]
                  have k3' : kd (wrR h27 (A 4) (dn D) (some th)) (A 3) = 8 := k3
                  rw [gI_ok (c := 7) 1 k3', Option.bind_some]
                  show ((pI (wrR h27 (A 4) (dn D) (some th)) 7 1 (some (A 3)) (fI h27 701 (A 3) + 1)).bind _) = _
                  rw [s27, nI_1, pI_ok (c := 7) 1 _ k3', Option.bind_some, gI_ok (c := 7) 1 (show kd (wfI (wrR h27 (A 4) (dn D) (some th)) (100 * 7 + 1) (A 3) (nI (dn D + 1))) (A 3) = 7 + 1 from k3), Option.bind_some, fI_wfI, show (1 : Int32) = nI 1 from rfl, nI_sub (by omega)]
                  rfl
                refine bP_ok (by rw [cV_ok (c := 7) _ k3]; exact eadd) ?_
                dsimp only
                rw [← lv]
                have old : ∀ {i}, lvX (dn D) i → exN A (dn D) th la lg rw es i = A i := fun hi => exN_old c12 hi
                have oI_ : ∀ {i} f, lvX (dn D) i → f ≠ 701 → fI (wfI (wrR h27 (A 4) (dn D) (some th)) 701 (A 3) (nI (dn D + 1))) f (A i) = fI H23 f (A i) := fun f hi hf => by
                  rw [fI_wfI_ne _ _ hf]
                  exact ((K _ (nz hi)).2.2 (fun z => z)).1 f
                have oL_ : ∀ {i} f, lvX (dn D) i → fL (wfI (wrR h27 (A 4) (dn D) (some th)) 701 (A 3) (nI (dn D + 1))) f (A i) = fL H23 f (A i) := fun f hi => ((K _ (nz hi)).2.2 (fun z => z)).2.1 f
                have oR_ : ∀ {i}, lvX (dn D) i → rI (wfI (wrR h27 (A 4) (dn D) (some th)) 701 (A 3) (nI (dn D + 1))) (A i) = rI H23 (A i) := fun hi => ((K _ (nz hi)).2.2 (fun z => z)).2.2.2.1
                have o23 : ∀ f a, f ≠ 4 → fI H23 f a = fI (wfI h 1001 (A 1) 0) f a := fun f a hf => by rw [← h23e, fI_wfI_ne _ _ hf]
                have r23 : ∀ a, rI H23 a = rI h a := fun a => by rw [← h23e]; rfl
                have l23 : fL H23 = fL h := by rw [← h23e]; rfl
                have lit : ∀ {i}, i < 90 → KX i ≠ 0 → lvX (dn D) i := fun h1 h2 => lv_lit h1 h2
                refine qS (exN A (dn D) th la lg rw es) _ ⟨⟨c0, c1, c2, c3⟩, ck, cw, c12⟩ (old (lit (by decide) (by decide))) SX ?_ ⟨⟨?_, ?_⟩, ⟨?_, fun s hs => ?_⟩, fun q hq => ?_, ⟨?_, ?_⟩, ⟨?_, ?_⟩, ⟨?_, ?_⟩, ⟨?_, fun i hi => ?_⟩, ?_⟩
                · rw [old (lit (by decide) (by decide)), oI_ 4 (lit (by decide) (by decide)) (by decide), ← h23e, fI_wfI]
                · rw [old (lit (by decide) (by decide)), oI_ 1001 (lit (by decide) (by decide)) (by decide), o23 _ _ (by decide), fI_wfI]
                  rfl
                · rw [old (lit (by decide) (by decide)), oR_ (lit (by decide) (by decide)), r23]
                  exact gT.2
                · rw [old l3, fI_wfI]
                  rfl
                · have hs : s < dn D + 1 := hs
                  have ms := mem_st wS c12 a0 a1 a2 a3 s (by omega)
                  show fI _ 900 _ = upd (dK D) (dn D) a0 s ∧ fI _ 901 _ = upd (dZ D) (dn D) a1 s ∧ fI _ 902 _ = upd (dX D) (dn D) a2 s ∧ fI _ 903 _ = upd (dY D) (dn D) a3 s ∧ fL _ 904 _ = calV (if s = dn D then dB D else dcb D s) (if s = dn D then dT D else dcl D s) 0 0 ∧ fI _ 906 _ = dtm D s - 1 ∧ fI _ 907 _ = nI (mem (stD D a0 a1 a2 a3) s)
                  rw [ms.1]
                  unfold upd
                  by_cases c : s = dn D
                  · subst c
                    have e7 : ∀ f, f ≠ 701 → fI (wfI (wrR h27 (A 4) (dn D) (some th)) 701 (A 3) (nI (dn D + 1))) f th = fI h27 f th := fun f hf => fI_wfI_ne _ _ hf
                    rw [if_pos rfl, if_pos rfl, if_pos rfl, if_pos rfl, if_pos rfl, if_pos rfl, exN_s, e7 _ (by decide), e7 _ (by decide), e7 _ (by decide), e7 _ (by decide), e7 _ (by decide), e7 _ (by decide), tm0 wS (Nat.le_refl _) c12, ms.2 rfl]
                    exact ⟨b6, b7, b8, b9, b10, b11, b12⟩
                  · have hs' : s < dn D := by omega
                    have l := lv_s hs'
                    have gs := gS.2 s hs'
                    have ne1 : A (100 + s) ≠ A 1 := nA S l (lit (by decide) (by decide)) (by omega)
                    have e6 : ∀ f, 900 ≤ f → f ≤ 907 → fI (wfI (wrR h27 (A 4) (dn D) (some th)) 701 (A 3) (nI (dn D + 1))) f (A (100 + s)) = fI h f (A (100 + s)) := fun f h1 h2 => by rw [oI_ f l (by omega), o23 _ _ (by omega), fI_wfI_ne _ _ (by omega)]
                    rw [if_neg c, if_neg c, if_neg c, if_neg c, if_neg c, if_neg c, old l, e6 900 (by omega) (by omega), e6 901 (by omega) (by omega), e6 902 (by omega) (by omega), e6 903 (by omega) (by omega), e6 906 (by omega) (by omega), e6 907 (by omega) (by omega), oL_ 904 l, l23]
                    exact gs
                · have hq : q < 3 * (dn D + 1) := hq
                  show fI _ 402 _ = bI (dms D q) ∧ fI _ 401 _ = nI (dsz D q) ∧ _
                  by_cases c : q < 3 * dn D
                  · have l := lv_q h12 (Or.inl c : lvQ (dn D) q)
                    obtain ⟨o1, o2, o3⟩ := gL q c
                    have e6 : ∀ f, 200 ≤ f → f ≤ 402 → ∀ {i}, lvX (dn D) i → fI (wfI (wrR h27 (A 4) (dn D) (some th)) 701 (A 3) (nI (dn D + 1))) f (A i) = fI h f (A i) := fun f h1 h2 _ l => by rw [oI_ f l (by omega), o23 _ _ (by omega), fI_wfI_ne _ _ (by omega)]
                    rw [old l, e6 402 (by omega) (by omega) l, e6 401 (by omega) (by omega) l]
                    refine ⟨o1, o2, fun i hi => ?_⟩
                    have hi16 := (wL.1 q (by omega)).1
                    have hi : i < dsz D q := hi
                    have le := lv_e h12 (Or.inl c : lvQ (dn D) q) (show i < 16 by omega)
                    have o := o3 i hi
                    unfold EnX at o ⊢
                    rw [old le, e6 200 (by omega) (by omega) le, e6 204 (by omega) (by omega) le, e6 205 (by omega) (by omega) le, oL_ 201 le, oL_ 202 le, oL_ 203 le, l23]
                    exact o
                  · obtain ⟨b, hb, rfl⟩ : ∃ b, b < 3 ∧ q = 3 * dn D + b := ⟨q - 3 * dn D, by omega, by omega⟩
                    have w1 := wL.1 (3 * dn D + b) (by omega)
                    have wm := w1.2.2.1 (by omega)
                    have wz := w1.2.1 wm
                    have l := (L b hb).2.2
                    rw [exN_q c12 hb, wm, wz, fI_wfI_ne _ _ (by decide), fI_wfI_ne _ _ (by decide)]
                    refine ⟨l.2.2.2.2.2.2.2.2, l.2.2.2.2.2.2.2.1, fun i hi => ?_⟩
                    have hi : i < dsz D (3 * dn D + b) := hi
                    rw [wz] at hi
                    omega
                · rw [old (lit (by decide) (by decide)), oI_ 503 (lit (by decide) (by decide)) (by decide), o23 _ _ (by decide), fI_wfI_ne _ _ (by decide)]
                  exact gW.1
                · rw [old (lit (by decide) (by decide)), oR_ (lit (by decide) (by decide)), r23]
                  exact gW.2
                · rw [old (lit (by decide) (by decide)), oI_ 301 (lit (by decide) (by decide)) (by decide), o23 _ _ (by decide), fI_wfI_ne _ _ (by decide)]
                  exact gR.1
                · rw [old (lit (by decide) (by decide)), oR_ (lit (by decide) (by decide)), r23]
                  exact gR.2
                · rw [old (lit (by decide) (by decide)), oI_ 3 (lit (by decide) (by decide)) (by decide), o23 _ _ (by decide), fI_wfI_ne _ _ (by decide)]
                  exact gP.1
                · rw [old (lit (by decide) (by decide)), oI_ 802 (lit (by decide) (by decide)) (by decide), o23 _ _ (by decide), fI_wfI_ne _ _ (by decide)]
                  exact gP.2
                · rw [old (lit (by decide) (by decide)), oI_ 1108 (lit (by decide) (by decide)) (by decide), o23 _ _ (by decide), fI_wfI_ne _ _ (by decide)]
                  exact gE.1
                · have hE : i < dE D := hi
                  have hE2 := wE.1
                  have l7 : lvX (dn D) (70 + i) := lit (by omega) (by have := (eRow i (by omega)).1; omega)
                  rw [old (lit (by decide) (by decide)), oR_ (lit (by decide) (by decide)), r23, old l7, oR_ l7, r23]
                  exact gE.2 i hi
                · unfold XgA
                  have e0 := fun f (h1 : 1109 ≤ f) (h2 : f ≤ 1113) => (show fI (wfI (wrR h27 (A 4) (dn D) (some th)) 701 (A 3) (nI (dn D + 1))) f (A 0) = fI h f (A 0) by rw [oI_ f (lit (by decide) (by decide)) (by omega), o23 _ _ (by omega), fI_wfI_ne _ _ (by omega)])
                  rw [old (lit (by decide) (by decide)), e0 1109 (by omega) (by omega), e0 1110 (by omega) (by omega), e0 1111 (by omega) (by omega), e0 1112 (by omega) (by omega), e0 1113 (by omega) (by omega)]
                  exact gA
              · rw [if_neg c12] at lv
                rw [if_neg (show ¬ nI (dn D) < 12 from nI_nlt (b := 12) (by omega) (by omega)), ← lv]
                exact qF' (fun z => c12 z.2.2.2)
            · rw [if_neg cw] at lv
              rw [if_neg (fun z => cw ((oI_m1 (fun s z => by have := withC_lt s z; omega)).mp z)), ← lv]
              exact qF' (fun z => cw z.2.2.1)
          · rw [if_neg ck] at lv
            have ck' : ¬ (0 < dT D ∧ dT D ≤ 6 ∧ allB clB (dB D) (dT D) 0 = true) := fun z => ck ⟨by omega, z.2⟩
            rw [if_neg ck', if_pos ((lc_eq _ _).mpr rfl), ← lv]
            exact qF' (fun z => ck z.2.1)
        · rw [if_neg c3] at lv
          rw [if_neg c3, ← lv]
          exact qF' (fun z => c3 z.1.2.2.2)
      · rw [if_neg c2] at lv
        rw [if_neg c2, ← lv]
        exact qF' (fun z => c2 z.1.2.2.1)
    · rw [if_neg c1] at lv
      rw [if_neg c1, ← lv]
      exact qF' (fun z => c1 z.1.2.1)
  · rw [if_neg c0] at lv
    rw [if_neg c0, ← lv]
    exact qF' (fun z => c0 z.1.1)
