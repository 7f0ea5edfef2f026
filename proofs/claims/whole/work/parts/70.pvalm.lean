/-! ===== the value of a rule, worked by the reference word by word ===== -/
def wkF (f : Nat) : Prop := f = 1252 ∨ f = 1256
abbrev FrW (m : Nat) (ar : Nat → Nat) : IH → IH → Prop := FM m ar wkF no1 no1 no1
theorem woC_in {c : Int32} (h : in_ c (-10) 9999) : (0 ≤ c ∧ woC c = 10) ∨ c = -1 ∨ c = -2 ∨ c = -3 ∨ c = -4 ∨ c = -5 ∨ c = -6 ∨ c = -7 ∨ c = -8 ∨ c = -9 ∨ c = -10 := by
  by_cases q : 0 ≤ c
  · refine Or.inl ⟨q, ?_⟩
    unfold woC
    rw [if_pos q]
  · have h1 := h.1
    have h2 : c.toInt < 0 := by
      have : ¬ 0 ≤ c.toInt := fun z => q (iLe.mpr z)
      omega
    have e : ∀ k : Int32, c.toInt = k.toInt → c = k := fun k z => iEq.mpr z
    have c1 : (-1 : Int32).toInt = -1 := rfl
    have c2 : (-2 : Int32).toInt = -2 := rfl
    have c3 : (-3 : Int32).toInt = -3 := rfl
    have c4 : (-4 : Int32).toInt = -4 := rfl
    have c5 : (-5 : Int32).toInt = -5 := rfl
    have c6 : (-6 : Int32).toInt = -6 := rfl
    have c7 : (-7 : Int32).toInt = -7 := rfl
    have c8 : (-8 : Int32).toInt = -8 := rfl
    have c9 : (-9 : Int32).toInt = -9 := rfl
    have c10 : (-10 : Int32).toInt = -10 := rfl
    have : c.toInt = -1 ∨ c.toInt = -2 ∨ c.toInt = -3 ∨ c.toInt = -4 ∨ c.toInt = -5 ∨ c.toInt = -6 ∨ c.toInt = -7 ∨ c.toInt = -8 ∨ c.toInt = -9 ∨ c.toInt = -10 := by omega
    rcases this with z | z | z | z | z | z | z | z | z | z
    · exact Or.inr (Or.inl (e _ (z.trans c1.symm)))
    · exact Or.inr (Or.inr (Or.inl (e _ (z.trans c2.symm))))
    · exact Or.inr (Or.inr (Or.inr (Or.inl (e _ (z.trans c3.symm)))))
    · exact Or.inr (Or.inr (Or.inr (Or.inr (Or.inl (e _ (z.trans c4.symm))))))
    · exact Or.inr (Or.inr (Or.inr (Or.inr (Or.inr (Or.inl (e _ (z.trans c5.symm)))))))
    · exact Or.inr (Or.inr (Or.inr (Or.inr (Or.inr (Or.inr (Or.inl (e _ (z.trans c6.symm))))))))
    · exact Or.inr (Or.inr (Or.inr (Or.inr (Or.inr (Or.inr (Or.inr (Or.inl (e _ (z.trans c7.symm)))))))))
    · exact Or.inr (Or.inr (Or.inr (Or.inr (Or.inr (Or.inr (Or.inr (Or.inr (Or.inl (e _ (z.trans c8.symm))))))))))
    · exact Or.inr (Or.inr (Or.inr (Or.inr (Or.inr (Or.inr (Or.inr (Or.inr (Or.inr (Or.inl (e _ (z.trans c9.symm)))))))))))
    · exact Or.inr (Or.inr (Or.inr (Or.inr (Or.inr (Or.inr (Or.inr (Or.inr (Or.inr (Or.inr (e _ (z.trans c10.symm)))))))))))
/-- what a worked expression leaves: y0 the flag before, y1 behind; w whether it works; v its value; x what is answered -/
def WkR (y0 y1 : Int32) (w : Bool) (v : Option Int32) (x : Int32) : Prop := (w = false → y1 = y0) ∧ (w = true → (y1 ≠ 0 ↔ (y0 ≠ 0 ∨ v = none)) ∧ ∀ u, v = some u → x = u)
theorem workM {D : Dt} {N m : Nat} {ar : Nat → Nat} {s t : Nat} {bd : Int32} (hN : 2000 ≤ N) (w : WgS D) (wR : WgR D) (hs : s < dn D) (ht : t < dn D) : ∀ (k d i : Nat) (h : IH) (wk : Bool), dR D - i ≤ k → i < dR D → k < d → ShM h m ar → MgS h m ar D → MgR h m ar D → fI h 1253 m = nI s → fI h 1254 m = nI t → fI h 1255 m = bd → fI h 1256 m = nI i → (fI h 1252 m = 0 ∨ fI h 1252 m = 1) → ∃ x h' j v, s_X12_worked N d h m (bI wk) = some (x, h') ∧ FrW m ar h h' ∧ fI h' 1256 m = nI j ∧ i < j ∧ j ≤ dR D ∧ nd (dco D) j + 1 = nd (dco D) i ∧ (fI h' 1252 m = 0 ∨ fI h' 1252 m = 1) ∧ evN (lfV D bd s t (dst D s t)) (dco D) (dR D - i) i = v :: evN (lfV D bd s t (dst D s t)) (dco D) (dR D - j) j ∧ WkR (fI h 1252 m) (fI h' 1252 m) wk v x := by
  intro k
  induction k with
  | zero => intro d i h wk h1 h2; omega
  | succ k ih =>
    intro d i h wk h1 h2 h3 S gS gRu k3 k4 k5 k6 kz
    obtain ⟨d, rfl⟩ : ∃ y, d = y + 1 := ⟨d - 1, by omega⟩
    have h12 := w.1
    have hR := wR.2.1
    have hnd := (wR.2.2.1 i h2).1
    have hin := (wR.2.2.1 i h2).2
    have e2 : nd (dco D) (i + 1) = nd (dco D) i - 1 + arC (dco D i) := rfl
    have gi := gRu.2 i h2
    have gs := gS.2.1 s hs
    have gt := gS.2.1 t ht
    generalize h3e : wfI h (1200 + 56) m (nI (i + 1)) = H
    have SH : ShM H m ar := by rw [← h3e]; exact S
    have fH : FrW m ar h H := by rw [← h3e]; exact Fr.wI _ _ _ _ ⟨Or.inr rfl, rfl⟩
    have rH : rI H = rI h := by rw [← h3e]; rfl
    have iH : ∀ f, f ≠ 1256 → fI H f m = fI h f m := fun f hf => by rw [← h3e]; exact fI_wfI_ne _ _ hf
    have wH : fI H 1256 m = nI (i + 1) := by rw [← h3e]; exact fI_wfI _ _ _ _
    have gSH : MgS H m ar D := by
      unfold MgS
      rw [iH _ (by decide), rH]
      exact gS
    have gRH : MgR H m ar D := by
      unfold MgR
      rw [iH _ (by decide), rH]
      exact gRu
    have no : mRow no1 := fun i z => z.elim
    have start : s_X12_worked N (d + 1) h m (bI wk) = (if woC (dco D i) = 0 then (gI H 12 55 (some m)).bind fun v17 => some (v17, H) else if woC (dco D i) = 1 then (gR H 12 2 (some m)).bind fun v18 => (gI H 12 54 (some m)).bind fun v19 => (aI H v18 v19).bind fun v20 => some (v20, H) else if woC (dco D i) = 2 then (gR H 12 3 (some m)).bind fun v21 => (gI H 12 54 (some m)).bind fun v22 => (aI H v21 v22).bind fun v23 => some (v23, H) else if woC (dco D i) = 3 then (gR H 12 3 (some m)).bind fun v24 => (gI H 12 53 (some m)).bind fun v25 => (aI H v24 v25).bind fun v26 => some (v26, H) else if woC (dco D i) = 4 then ((if bI wk = 0 then some 0 else (cV H 12 (some m) fun a29 => s_X12_distance N H a29).bind fun v28 => some v28) : Option (Int32)).bind fun q30 => some (q30, H) else if woC (dco D i) = 9 then (cV H 12 (some m) fun a46 => s_X12_worked N d H a46 (bI wk)).bind fun v31 => ((if v31.1 ≤ 0 then some 0 else some 1) : Option (Int32)).bind fun q33 => ((if bI wk = 0 then some 0 else if q33 = 0 then some 0 else some 1) : Option (Int32)).bind fun q36 => (cV v31.2 12 (some m) fun a45 => s_X12_worked N d v31.2 a45 q36).bind fun v37 => ((if bI wk = 0 then some 0 else if q33 = 0 then some 1 else some 0) : Option (Int32)).bind fun q40 => (cV v37.2 12 (some m) fun a44 => s_X12_worked N d v37.2 a44 q40).bind fun v41 => ((if q33 = 0 then some v41.1 else some v37.1) : Option (Int32)).bind fun q43 => some (q43, v41.2) else if woC (dco D i) = 10 then (gR H 12 25 (some m)).bind fun v47 => (aI H v47 (nI i)).bind fun v48 => some (v48, H) else (cV H 12 (some m) fun a83 => s_X12_worked N d H a83 (bI wk)).bind fun v49 => (cV v49.2 12 (some m) fun a82 => s_X12_worked N d v49.2 a82 (bI wk)).bind fun v50 => (gR v50.2 12 24 (some m)).bind fun v51 => (aI v50.2 v51 (nI i)).bind fun v52 => if v52 = 8 then if v50.1 = 0 then (gI v50.2 12 52 (some m)).bind fun v55 => ((if v55 = 0 then if bI wk = 0 then some 0 else some 1 else some 1) : Option (Int32)).bind fun q58 => (pZ v50.2 12 52 (some m) q58).bind fun h59 => some (0, h59) else (gR v50.2 12 24 (some m)).bind fun v60 => (aI v50.2 v60 (nI i)).bind fun v61 => ((if v61 = 5 then some (v49.1 + v50.1) else (gR v50.2 12 24 (some m)).bind fun v63 => (aI v50.2 v63 (nI i)).bind fun v64 => if v64 = 6 then some (v49.1 - v50.1) else (gR v50.2 12 24 (some m)).bind fun v66 => (aI v50.2 v66 (nI i)).bind fun v67 => if v67 = 7 then some (v49.1 * v50.1) else if v50.1 = 0 then none else some (v49.1 / v50.1)) : Option (Int32)).bind fun q70 => some (q70, v50.2) else (gR v50.2 12 24 (some m)).bind fun v71 => (aI v50.2 v71 (nI i)).bind fun v72 => ((if v72 = 5 then some (v49.1 + v50.1) else (gR v50.2 12 24 (some m)).bind fun v74 => (aI v50.2 v74 (nI i)).bind fun v75 => if v75 = 6 then some (v49.1 - v50.1) else (gR v50.2 12 24 (some m)).bind fun v77 => (aI v50.2 v77 (nI i)).bind fun v78 => if v78 = 7 then some (v49.1 * v50.1) else if v50.1 = 0 then none else some (v49.1 / v50.1)) : Option (Int32)).bind fun q81 => some (q81, v50.2)) := by
      rw [s_X12_worked.eq_2, mgI 56 S.1, Option.bind_some, k6, Option.bind_some, nI_1, mpI 56 _ S.1, Option.bind_some, h3e, mgR 24 SH (by decide), Option.bind_some, maI 24 i SH (by decide) (show i < 30 by omega), Option.bind_some, rH, gi.1]
    rw [start]
    clear start
    have er : dR D - i = dR D - (i + 1) + 1 := by omega
    -- a plain word
    have leaf : ∀ x, arC (dco D i) = 0 → (wk = true → x = lfV D bd s t (dst D s t) (dco D i)) → ∃ x' h' j v, some (x, H) = some (x', h') ∧ FrW m ar h h' ∧ fI h' 1256 m = nI j ∧ i < j ∧ j ≤ dR D ∧ nd (dco D) j + 1 = nd (dco D) i ∧ (fI h' 1252 m = 0 ∨ fI h' 1252 m = 1) ∧ evN (lfV D bd s t (dst D s t)) (dco D) (dR D - i) i = v :: evN (lfV D bd s t (dst D s t)) (dco D) (dR D - j) j ∧ WkR (fI h 1252 m) (fI h' 1252 m) wk v x' := by
      intro x h0 hx
      refine ⟨x, H, i + 1, some (lfV D bd s t (dst D s t) (dco D i)), rfl, fH, wH, by omega, by omega, by omega, by rw [iH _ (by decide)]; exact kz, ?_, ?_⟩
      · rw [er]
        show stV_ _ _ _ = _
        unfold stV_
        rw [if_pos h0]
      · rw [iH _ (by decide)]
        refine ⟨fun _ => rfl, fun z => ⟨⟨fun z => Or.inl z, fun z => z.elim (fun z => z) (fun z => by cases z)⟩, fun u hu => ?_⟩⟩
        cases hu
        exact hx z
    -- an operand
    have opnd : ∀ (i' : Nat) (G : IH) (wk' : Bool), i < i' → i' < dR D → FrW m ar h G → fI G 1256 m = nI i' → (fI G 1252 m = 0 ∨ fI G 1252 m = 1) → ∃ x h' j v, s_X12_worked N d G m (bI wk') = some (x, h') ∧ FrW m ar h h' ∧ fI h' 1256 m = nI j ∧ i' < j ∧ j ≤ dR D ∧ nd (dco D) j + 1 = nd (dco D) i' ∧ (fI h' 1252 m = 0 ∨ fI h' 1252 m = 1) ∧ evN (lfV D bd s t (dst D s t)) (dco D) (dR D - i') i' = v :: evN (lfV D bd s t (dst D s t)) (dco D) (dR D - j) j ∧ WkR (fI G 1252 m) (fI h' 1252 m) wk' v x := by
      intro i' G wk' hi hi2 fG wG zG
      have SG := fG.shM S
      obtain ⟨x, h', j, v, b1, b2, b3⟩ := ih d i' G wk' (by omega) hi2 (by omega) SG (MgS.fr S fG no gS (by unfold wkF; omega) (fun k z => z.elim)) (MgR.fr S fG no gRu (by unfold wkF; omega) (fun z => z) (fun z => z)) (by rw [mfI fG (by unfold wkF; omega)]; exact k3) (by rw [mfI fG (by unfold wkF; omega)]; exact k4) (by rw [mfI fG (by unfold wkF; omega)]; exact k5) wG zG
      exact ⟨x, h', j, v, b1, fG.trans b2, b3⟩
    have nz : ∀ j, 1 ≤ nd (dco D) j → j ≤ dR D → j < dR D := fun j hj hj2 => by
      by_cases z : j = dR D
      · rw [z, wR.2.2.2] at hj
        omega
      · omega
    have two : arC (dco D i) = 2 → ∃ x h' j v, ((cV H 12 (some m) fun a83 => s_X12_worked N d H a83 (bI wk)).bind fun v49 => (cV v49.2 12 (some m) fun a82 => s_X12_worked N d v49.2 a82 (bI wk)).bind fun v50 => (gR v50.2 12 24 (some m)).bind fun v51 => (aI v50.2 v51 (nI i)).bind fun v52 => if v52 = 8 then if v50.1 = 0 then (gI v50.2 12 52 (some m)).bind fun v55 => ((if v55 = 0 then if bI wk = 0 then some 0 else some 1 else some 1) : Option (Int32)).bind fun q58 => (pZ v50.2 12 52 (some m) q58).bind fun h59 => some (0, h59) else (gR v50.2 12 24 (some m)).bind fun v60 => (aI v50.2 v60 (nI i)).bind fun v61 => ((if v61 = 5 then some (v49.1 + v50.1) else (gR v50.2 12 24 (some m)).bind fun v63 => (aI v50.2 v63 (nI i)).bind fun v64 => if v64 = 6 then some (v49.1 - v50.1) else (gR v50.2 12 24 (some m)).bind fun v66 => (aI v50.2 v66 (nI i)).bind fun v67 => if v67 = 7 then some (v49.1 * v50.1) else if v50.1 = 0 then none else some (v49.1 / v50.1)) : Option (Int32)).bind fun q70 => some (q70, v50.2) else (gR v50.2 12 24 (some m)).bind fun v71 => (aI v50.2 v71 (nI i)).bind fun v72 => ((if v72 = 5 then some (v49.1 + v50.1) else (gR v50.2 12 24 (some m)).bind fun v74 => (aI v50.2 v74 (nI i)).bind fun v75 => if v75 = 6 then some (v49.1 - v50.1) else (gR v50.2 12 24 (some m)).bind fun v77 => (aI v50.2 v77 (nI i)).bind fun v78 => if v78 = 7 then some (v49.1 * v50.1) else if v50.1 = 0 then none else some (v49.1 / v50.1)) : Option (Int32)).bind fun q81 => some (q81, v50.2)) = some (x, h') ∧ FrW m ar h h' ∧ fI h' 1256 m = nI j ∧ i < j ∧ j ≤ dR D ∧ nd (dco D) j + 1 = nd (dco D) i ∧ (fI h' 1252 m = 0 ∨ fI h' 1252 m = 1) ∧ evN (lfV D bd s t (dst D s t)) (dco D) (dR D - i) i = v :: evN (lfV D bd s t (dst D s t)) (dco D) (dR D - j) j ∧ WkR (fI h 1252 m) (fI h' 1252 m) wk v x := by
      intro ha
      obtain ⟨x1, G1, j1, v1, a1, a2, a3, a4, a5, a6, a7, a8, a9⟩ := opnd (i + 1) H wk (by omega) (nz _ (by omega) (by omega)) fH wH (by rw [iH _ (by decide)]; exact kz)
      rw [iH _ (by decide)] at a9
      obtain ⟨x2, G2, j2, v2, b1, b2, b3, b4, b5, b6, b7, b8, b9⟩ := opnd j1 G1 wk (by omega) (nz _ (by omega) a5) a2 a3 a7
      have T1 := a2.shM S
      have T2 := b2.shM S
      have r24 : rI G2 (ar 24) i = woC (dco D i) := by
        rw [mrI S b2 no (by decide) (fun z => z)]
        exact gi.1
      have ev : evN (lfV D bd s t (dst D s t)) (dco D) (dR D - i) i = biV (dco D i) v1 v2 :: evN (lfV D bd s t (dst D s t)) (dco D) (dR D - j2) j2 := by
        rw [er]
        show stV_ _ _ _ = _
        unfold stV_
        rw [if_neg (by omega), if_neg (by omega), a8, b8]
      have end1 : ∀ x y1 (H' : IH), FrW m ar h H' → fI H' 1256 m = nI j2 → (fI H' 1252 m = 0 ∨ fI H' 1252 m = 1) → fI H' 1252 m = y1 → WkR (fI h 1252 m) y1 wk (biV (dco D i) v1 v2) x → ∃ x' h' j v, some (x, H') = some (x', h') ∧ FrW m ar h h' ∧ fI h' 1256 m = nI j ∧ i < j ∧ j ≤ dR D ∧ nd (dco D) j + 1 = nd (dco D) i ∧ (fI h' 1252 m = 0 ∨ fI h' 1252 m = 1) ∧ evN (lfV D bd s t (dst D s t)) (dco D) (dR D - i) i = v :: evN (lfV D bd s t (dst D s t)) (dco D) (dR D - j) j ∧ WkR (fI h 1252 m) (fI h' 1252 m) wk v x' := by
        intro x y1 H' q1 q2 q3 q4 q5
        subst q4
        exact ⟨x, H', j2, _, rfl, q1, q2, by omega, b5, by omega, q3, ev, q5⟩
      -- flags of both operands
      have fl : wk = true → (fI G2 1252 m ≠ 0 ↔ (fI h 1252 m ≠ 0 ∨ v1 = none ∨ v2 = none)) := fun z => by
        have p1 := (a9.2 z).1
        have p2 := (b9.2 z).1
        rw [p2, p1]
        constructor
        · intro q
          rcases q with (q | q) | q
          · exact Or.inl q
          · exact Or.inr (Or.inl q)
          · exact Or.inr (Or.inr q)
        · intro q
          rcases q with q | q | q
          · exact Or.inl (Or.inl q)
          · exact Or.inl (Or.inr q)
          · exact Or.inr q
      have fn : wk = false → fI G2 1252 m = fI h 1252 m := fun z => (b9.1 z).trans (a9.1 z)
      -- when no division by nought comes here
      have plain : ∀ x, (∀ u1 u2, v1 = some u1 → v2 = some u2 → wk = true → x1 = u1 → x2 = u2 → biV (dco D i) v1 v2 = some x) → WkR (fI h 1252 m) (fI G2 1252 m) wk (biV (dco D i) v1 v2) x := by
        intro x hx
        refine ⟨fn, fun z => ?_⟩
        have p := fl z
        cases hv1 : v1 with
        | none =>
          have eb : biV (dco D i) none v2 = none := rfl
          rw [eb]
          refine ⟨⟨fun q => ?_, fun q => p.mpr ?_⟩, fun u hu => by cases hu⟩
          · exact Or.inr rfl
          · exact Or.inr (Or.inl hv1)
        | some u1 =>
          cases hv2 : v2 with
          | none =>
            have eb : biV (dco D i) (some u1) none = none := rfl
            rw [eb]
            refine ⟨⟨fun q => Or.inr rfl, fun q => p.mpr (Or.inr (Or.inr hv2))⟩, fun u hu => by cases hu⟩
          | some u2 =>
            have e1 := (a9.2 z).2 u1 hv1
            have e2 := (b9.2 z).2 u2 hv2
            have eb := hx u1 u2 hv1 hv2 z e1 e2
            rw [hv1, hv2] at eb p
            rw [eb]
            refine ⟨⟨fun q => ?_, fun q => p.mpr ?_⟩, fun u hu => ?_⟩
            · rcases p.mp q with q | q | q
              · exact Or.inl q
              · cases q
              · cases q
            · rcases q with q | q
              · exact Or.inl q
              · cases q
            · cases hu
              rfl
      rw [mV12 SH, a1, Option.bind_some]
      dsimp only
      rw [mV12 T1, b1, Option.bind_some]
      dsimp only
      simp only [mgR 24 T2 (by decide), Option.bind_some, maI 24 i T2 (by decide) (show i < 30 by omega), r24]
      have cs : dco D i = -6 ∨ dco D i = -7 ∨ dco D i = -8 ∨ dco D i = -9 := by
        rcases woC_in hin with q | q | q | q | q | q | q | q | q | q | q
        · have : arC (dco D i) = 0 := by
            unfold arC
            have h0 := iLe.mp q.1
            have z0 : (0 : Int32).toInt = 0 := rfl
            rw [if_neg (fun z => by rw [z] at h0; exact absurd h0 (by decide)), if_neg (fun z => by have := iLe.mp z.2; have e6 : (-6 : Int32).toInt = -6 := rfl; omega)]
          omega
        · rw [q] at ha; exact absurd ha (by decide)
        · rw [q] at ha; exact absurd ha (by decide)
        · rw [q] at ha; exact absurd ha (by decide)
        · rw [q] at ha; exact absurd ha (by decide)
        · rw [q] at ha; exact absurd ha (by decide)
        · exact Or.inl q
        · exact Or.inr (Or.inl q)
        · exact Or.inr (Or.inr (Or.inl q))
        · exact Or.inr (Or.inr (Or.inr q))
        · rw [q] at ha; exact absurd ha (by decide)
      rcases cs with q | q | q | q
      · rw [q, if_neg (show ¬ woC (-6) = 8 by decide), if_pos (show woC (-6) = 5 by decide), Option.bind_some]
        refine end1 _ _ G2 b2 b3 b7 rfl (plain _ (fun u1 u2 e1 e2 z e3 e4 => ?_))
        rw [e1, e2, e3, e4, q]
        rfl
      · rw [q, if_neg (show ¬ woC (-7) = 8 by decide), if_neg (show ¬ woC (-7) = 5 by decide), if_pos (show woC (-7) = 6 by decide), Option.bind_some]
        refine end1 _ _ G2 b2 b3 b7 rfl (plain _ (fun u1 u2 e1 e2 z e3 e4 => ?_))
        rw [e1, e2, e3, e4, q]
        rfl
      · rw [q, if_neg (show ¬ woC (-8) = 8 by decide), if_neg (show ¬ woC (-8) = 5 by decide), if_neg (show ¬ woC (-8) = 6 by decide), if_pos (show woC (-8) = 7 by decide), Option.bind_some]
        refine end1 _ _ G2 b2 b3 b7 rfl (plain _ (fun u1 u2 e1 e2 z e3 e4 => ?_))
        rw [e1, e2, e3, e4, q]
        rfl
      · rw [q, if_pos (show woC (-9) = 8 by decide)]
        by_cases x20 : x2 = 0
        · rw [if_pos x20, mgI 52 T2.1, Option.bind_some]
          have ez : ((if fI G2 (1200 + 52) m = 0 then if bI wk = 0 then some 0 else some 1 else some 1) : Option Int32) = some (if fI G2 1252 m = 0 ∧ wk = false then 0 else 1) := by
            show ((if fI G2 1252 m = 0 then if bI wk = 0 then some 0 else some 1 else some 1) : Option Int32) = _
            cases wk with
            | false =>
              by_cases c : fI G2 1252 m = 0
              · rw [if_pos c, if_pos (show bI false = 0 from rfl), if_pos ⟨c, rfl⟩]
              · rw [if_neg c, if_neg (show ¬ (fI G2 1252 m = 0 ∧ false = false) from fun z => c z.1)]
            | true =>
              rw [if_neg (show ¬ (fI G2 1252 m = 0 ∧ true = false) from fun z => Bool.noConfusion z.2)]
              by_cases c : fI G2 1252 m = 0
              · rw [if_pos c, if_neg (show ¬ bI true = 0 by decide)]
              · rw [if_neg c]
          rw [ez, Option.bind_some, mpZ 52 T2.1 (by split; exact Or.inl rfl; exact Or.inr rfl), Option.bind_some]
          have q01 : ∀ (p : Prop) [Decidable p], ((if p then (0 : Int32) else 1) = 0 ∨ (if p then (0 : Int32) else 1) = 1) := fun p _ => by split; exact Or.inl rfl; exact Or.inr rfl
          refine end1 _ (if fI G2 1252 m = 0 ∧ wk = false then 0 else 1) _ (b2.trans (Fr.wI _ _ _ _ ⟨Or.inl rfl, rfl⟩)) ?_ ?_ (fI_wfI _ _ _ _) ⟨fun z => ?_, fun z => ⟨⟨fun p => ?_, fun p => ?_⟩, fun u hu => ?_⟩⟩
          · rw [fI_wfI_ne _ _ (by decide)]
            exact b3
          · have : fI (wfI G2 (1200 + 52) m (if fI G2 1252 m = 0 ∧ wk = false then 0 else 1)) 1252 m = (if fI G2 1252 m = 0 ∧ wk = false then 0 else 1) := fI_wfI _ _ _ _
            rw [this]
            exact q01 _
          · rw [← fn z]
            rcases b7 with c | c
            · rw [if_pos ⟨c, z⟩, c]
            · rw [if_neg (fun y => by rw [c] at y; exact absurd y.1 (by decide)), c]
          · cases hv1 : v1 with
            | none => exact Or.inr rfl
            | some u1 =>
              cases hv2 : v2 with
              | none => exact Or.inr rfl
              | some u2 =>
                have e4 := (b9.2 z).2 u2 hv2
                refine Or.inr ?_
                rw [q]
                show (if u2 = 0 then none else some (u1 / u2)) = none
                rw [if_pos (e4 ▸ x20)]
          · rw [if_neg (fun y => by rw [z] at y; cases y.2)]
            decide
          · cases hv1 : v1 with
            | none => rw [hv1] at hu; cases hu
            | some u1 =>
              cases hv2 : v2 with
              | none => rw [hv1, hv2] at hu; cases hu
              | some u2 =>
                have e4 := (b9.2 z).2 u2 hv2
                rw [hv1, hv2, q] at hu
                have hu : (if u2 = 0 then none else some (u1 / u2)) = some u := hu
                rw [if_pos (e4 ▸ x20)] at hu
                cases hu
        · rw [if_neg x20, if_neg (show ¬ woC (-9) = 5 by decide), if_neg (show ¬ woC (-9) = 6 by decide), if_neg (show ¬ woC (-9) = 7 by decide), if_neg x20, Option.bind_some]
          refine end1 _ _ G2 b2 b3 b7 rfl (plain _ (fun u1 u2 e1 e2 z e3 e4 => ?_))
          rw [e1, e2, q]
          show (if u2 = 0 then none else some (u1 / u2)) = _
          rw [if_neg (e4 ▸ x20), e3, e4]
    rcases woC_in hin with ⟨q, q'⟩ | q | q | q | q | q | q | q | q | q | q
    · have h0 := iLe.mp q
      have ha : arC (dco D i) = 0 := by
        unfold arC
        have z0 : (0 : Int32).toInt = 0 := rfl
        rw [if_neg (fun z => by rw [z] at h0; exact absurd h0 (by decide)), if_neg (fun z => by have := iLe.mp z.2; have e6 : (-6 : Int32).toInt = -6 := rfl; omega)]
      rw [q', if_neg (by decide), if_neg (by decide), if_neg (by decide), if_neg (by decide), if_neg (by decide), if_neg (by decide), if_pos rfl, mgR 25 SH (by decide), Option.bind_some, maI 25 i SH (by decide) (show i < 30 by omega), Option.bind_some, rH, gi.2 q]
      refine leaf _ ha (fun _ => ?_)
      have nn : ∀ k : Int32, k.toInt < 0 → dco D i ≠ k := fun k hk z => by rw [z] at h0; have z0 : (0 : Int32).toInt = 0 := rfl; omega
      unfold lfV
      rw [if_neg (nn _ (by decide)), if_neg (nn _ (by decide)), if_neg (nn _ (by decide)), if_neg (nn _ (by decide)), if_neg (nn _ (by decide))]
    · rw [q, if_pos (by decide), mgI 55 SH.1, Option.bind_some]
      refine leaf _ (by rw [q]; decide) (fun _ => ?_)
      rw [iH _ (by decide), q]
      exact k5
    · rw [q, if_neg (by decide), if_pos (by decide), mgR 2 SH (by decide), Option.bind_some, mgI 54 SH.1, Option.bind_some]
      have : fI H (1200 + 54) m = nI t := by rw [iH _ (by decide)]; exact k4
      rw [this, maI 2 t SH (by decide) (show t < 12 by omega), Option.bind_some, rH, gt.1]
      refine leaf _ (by rw [q]; decide) (fun _ => ?_)
      rw [q]
      rfl
    · rw [q, if_neg (by decide), if_neg (by decide), if_pos (by decide), mgR 3 SH (by decide), Option.bind_some, mgI 54 SH.1, Option.bind_some]
      have : fI H (1200 + 54) m = nI t := by rw [iH _ (by decide)]; exact k4
      rw [this, maI 3 t SH (by decide) (show t < 12 by omega), Option.bind_some, rH, gt.2.1]
      refine leaf _ (by rw [q]; decide) (fun _ => ?_)
      rw [q]
      rfl
    · rw [q, if_neg (by decide), if_neg (by decide), if_neg (by decide), if_pos (by decide), mgR 3 SH (by decide), Option.bind_some, mgI 53 SH.1, Option.bind_some]
      have : fI H (1200 + 53) m = nI s := by rw [iH _ (by decide)]; exact k3
      rw [this, maI 3 s SH (by decide) (show s < 12 by omega), Option.bind_some, rH, gs.2.1]
      refine leaf _ (by rw [q]; decide) (fun _ => ?_)
      rw [q]
      rfl
    · rw [q, if_neg (by decide), if_neg (by decide), if_neg (by decide), if_neg (by decide), if_pos (by decide)]
      cases wk with
      | false =>
        rw [if_pos (show bI false = 0 from rfl), Option.bind_some]
        exact leaf _ (by rw [q]; decide) (fun z => by cases z)
      | true =>
        rw [if_neg (show ¬ bI true = 0 by decide), mV12 SH, distM SH hN gSH w hs ht (by rw [iH _ (by decide)]; exact k3) (by rw [iH _ (by decide)]; exact k4), Option.bind_some, Option.bind_some]
        refine leaf _ (by rw [q]; decide) (fun _ => ?_)
        rw [q]
        rfl
    · have e6 : woC (dco D i) = 5 := by rw [q]; decide
      rw [e6, if_neg (by decide), if_neg (by decide), if_neg (by decide), if_neg (by decide), if_neg (by decide), if_neg (by decide), if_neg (by decide)]
      exact two (by rw [q]; decide)
    · have e6 : woC (dco D i) = 6 := by rw [q]; decide
      rw [e6, if_neg (by decide), if_neg (by decide), if_neg (by decide), if_neg (by decide), if_neg (by decide), if_neg (by decide), if_neg (by decide)]
      exact two (by rw [q]; decide)
    · have e6 : woC (dco D i) = 7 := by rw [q]; decide
      rw [e6, if_neg (by decide), if_neg (by decide), if_neg (by decide), if_neg (by decide), if_neg (by decide), if_neg (by decide), if_neg (by decide)]
      exact two (by rw [q]; decide)
    · have e6 : woC (dco D i) = 8 := by rw [q]; decide
      rw [e6, if_neg (by decide), if_neg (by decide), if_neg (by decide), if_neg (by decide), if_neg (by decide), if_neg (by decide), if_neg (by decide)]
      exact two (by rw [q]; decide)
    · have e6 : woC (dco D i) = 9 := by rw [q]; decide
      have ha : arC (dco D i) = 3 := by rw [q]; decide
      rw [e6, if_neg (by decide), if_neg (by decide), if_neg (by decide), if_neg (by decide), if_neg (by decide), if_pos rfl]
      obtain ⟨x1, G1, j1, v1, a1, a2, a3, a4, a5, a6, a7, a8, a9⟩ := opnd (i + 1) H wk (by omega) (nz _ (by omega) (by omega)) fH wH (by rw [iH _ (by decide)]; exact kz)
      rw [iH _ (by decide)] at a9
      have T1 := a2.shM S
      rw [mV12 SH, a1, Option.bind_some]
      dsimp only
      have i1 : ((if x1 ≤ 0 then some 0 else some 1) : Option Int32) = some (bI (decide (0 < x1))) := by
        have e : (x1 ≤ 0) ↔ ¬ 0 < x1 := by rw [iLe, iLt]; omega
        by_cases c : 0 < x1
        · rw [if_neg (fun z => (e.mp z) c), decide_eq_true c]
          rfl
        · rw [if_pos (e.mpr c), decide_eq_false c]
          rfl
      rw [i1, Option.bind_some]
      have i2 : ((if bI wk = 0 then some 0 else if bI (decide (0 < x1)) = 0 then some 0 else some 1) : Option Int32) = some (bI (wk && decide (0 < x1))) := by
        cases wk <;> cases decide (0 < x1) <;> rfl
      have i3 : ((if bI wk = 0 then some 0 else if bI (decide (0 < x1)) = 0 then some 1 else some 0) : Option Int32) = some (bI (wk && !decide (0 < x1))) := by
        cases wk <;> cases decide (0 < x1) <;> rfl
      rw [i2, Option.bind_some]
      obtain ⟨x2, G2, j2, v2, b1, b2, b3, b4, b5, b6, b7, b8, b9⟩ := opnd j1 G1 (wk && decide (0 < x1)) (by omega) (nz _ (by omega) a5) a2 a3 a7
      have T2 := b2.shM S
      rw [mV12 T1, b1, Option.bind_some]
      dsimp only
      rw [i3, Option.bind_some]
      obtain ⟨x3, G3, j3, v3, c1, c2, c3, c4, c5, c6, c7, c8, c9⟩ := opnd j2 G2 (wk && !decide (0 < x1)) (by omega) (nz _ (by omega) b5) b2 b3 b7
      rw [mV12 T2, c1, Option.bind_some]
      dsimp only
      have i4 : ((if bI (decide (0 < x1)) = 0 then some x3 else some x2) : Option Int32) = some (if 0 < x1 then x2 else x3) := by
        by_cases c : 0 < x1
        · rw [decide_eq_true c, if_pos c]
          rfl
        · rw [decide_eq_false c, if_neg c]
          rfl
      rw [i4, Option.bind_some]
      have hj3 : i < j3 := by clear two leaf opnd; omega
      have hn3 : nd (dco D) j3 + 1 = nd (dco D) i := by clear two leaf opnd; omega
      refine ⟨_, G3, j3, chV v1 v2 v3, rfl, c2, c3, hj3, c5, hn3, c7, ?_, ?_⟩
      · rw [er]
        show stV_ _ _ _ = _
        unfold stV_
        rw [if_neg (by omega), if_pos ha, a8, b8, c8]
      · refine ⟨fun z => ?_, fun z => ?_⟩
        · have z1 : (wk && decide (0 < x1)) = false := by rw [z]; rfl
          have z2 : (wk && !decide (0 < x1)) = false := by rw [z]; rfl
          rw [c9.1 z2, b9.1 z1, a9.1 z]
        · have p1 := a9.2 z
          by_cases c : 0 < x1
          · have z1 : (wk && decide (0 < x1)) = true := by rw [z, decide_eq_true c]; rfl
            have z2 : (wk && !decide (0 < x1)) = false := by rw [z, decide_eq_true c]; rfl
            have p2 := b9.2 z1
            rw [c9.1 z2, if_pos c, p2.1, p1.1]
            cases hv1 : v1 with
            | none =>
              refine ⟨⟨fun _ => Or.inr rfl, fun _ => Or.inl (Or.inr rfl)⟩, fun u hu => by cases hu⟩
            | some u1 =>
              have e1 := p1.2 u1 hv1
              have ec : chV (some u1) v2 v3 = v2 := by
                show (if 0 < u1 then v2 else v3) = v2
                rw [← e1, if_pos c]
              rw [ec]
              refine ⟨⟨fun y => ?_, fun y => ?_⟩, p2.2⟩
              · rcases y with (y | y) | y
                · exact Or.inl y
                · cases y
                · exact Or.inr y
              · rcases y with y | y
                · exact Or.inl (Or.inl y)
                · exact Or.inr y
          · have z1 : (wk && decide (0 < x1)) = false := by rw [z, decide_eq_false c]; rfl
            have z2 : (wk && !decide (0 < x1)) = true := by rw [z, decide_eq_false c]; rfl
            have p3 := c9.2 z2
            rw [p3.1, b9.1 z1, if_neg c, p1.1]
            cases hv1 : v1 with
            | none =>
              refine ⟨⟨fun _ => Or.inr rfl, fun _ => Or.inl (Or.inr rfl)⟩, fun u hu => by cases hu⟩
            | some u1 =>
              have e1 := p1.2 u1 hv1
              have ec : chV (some u1) v2 v3 = v3 := by
                show (if 0 < u1 then v2 else v3) = v3
                rw [← e1, if_neg c]
              rw [ec]
              refine ⟨⟨fun y => ?_, fun y => ?_⟩, p3.2⟩
              · rcases y with (y | y) | y
                · exact Or.inl y
                · cases y
                · exact Or.inr y
              · rcases y with y | y
                · exact Or.inl (Or.inl y)
                · exact Or.inr y
