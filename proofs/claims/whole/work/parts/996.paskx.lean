/-! ===== the small asks: the class ===== -/
def xkF (f : Nat) : Prop := rfF f ∨ f = 306 ∨ akF f
def xkQ (i : Nat) : Prop := i = 15 ∨ i = 12
abbrev FrXK (A : Nat → Nat) : IH → IH → Prop := FX A xkF (e1 908) rfR xkQ
def OkX (h h' : IH) (A : Nat → Nat) (D : Dt) (a f : Int32) : Prop := FrXK A h h' ∧ XgA h' A (akD D a f) ∧ ChX h' A D
section
variable {A : Nat → Nat} {n N : Nat} {D : Dt}
theorem FrK.toK {h h' : IH} (x : FrK A h h') : FrXK A h h' := FX.mo x (fun _ z => Or.inr (Or.inr z)) (fun _ z => z.elim) (fun _ z => z.elim) (fun _ z => z.elim)
theorem FrRF.toK {h h' : IH} (x : FrRF A h h') : FrXK A h h' := FX.mo x (fun _ z => Or.inl z) (fun _ z => z) (fun _ z => z) (fun _ z => Or.inl z)
theorem FrV.toK {h h' : IH} (x : FrV A h h') : FrXK A h h' := FX.mo x (fun _ z => Or.inr (Or.inl z)) (fun _ z => z.elim) (fun _ z => z.elim) (fun _ z => Or.inr z)
theorem ChX.fr {h h' : IH} {F G R Q : Nat → Prop} (x : FX A F G R Q h h') (c : ChX h A D) (f1 : ¬ F 4) (f2 : ∀ f, F f → f < 206 ∨ 210 < f) (g1 : ¬ G 908) : ChX h' A D := fun z => by
  rw [x.fI f1] at z
  have q := c z
  have d : ∀ f, 206 ≤ f → f ≤ 210 → ¬ F f := fun f h1 h2 y => by have := f2 f y; omega
  exact ⟨q.1.fr x (d _ (by omega) (by omega)) (d _ (by omega) (by omega)) (d _ (by omega) (by omega)) g1, q.2.fr x (d _ (by omega) (by omega)) (d _ (by omega) (by omega))⟩
theorem ChX.k {h h' : IH} (x : FrK A h h') (c : ChX h A D) : ChX h' A D := c.fr x (by unfold akF; omega) (fun f z => by unfold akF at z; omega) (fun z => z)
theorem ChX.v {h h' : IH} (x : FrV A h h') (c : ChX h A D) : ChX h' A D := c.fr x (fun z => by cases z) (fun f z => by cases z; omega) (fun z => z)
theorem bk32 (x : Int32) : x.toInt64.toInt32 = x := vJ_32 x
theorem linesX_ {h : IH} (S : ShX h A n) (hn : n = dn D) (gs : XgS h A D) (qL : XgL h A D) (gA : XgA h A D) (w : WgL D) (hd : dop D < 1000000) (ch : ChX h A D) (a b : Int32) : ∃ h', s_X11_lines h (A 0) a b = some (linV D a b, h') ∧ OkX h h' A D a (rsL D a b) := by
  obtain ⟨H, e, fr, k⟩ := askedLoX S hn gs qL gA a b
  subst hn
  have wn := S.1
  have SH := fr.shX S
  have gLH : XgL H A D := qL.fr fr (fun f z => by unfold akF at z; omega) (fun f z => z.elim)
  have fin : ∀ v : Int64, ∃ h', s_X11_answered H (A 0) v = some (if rsL D a b = 0 then v else 0, h') ∧ OkX h h' A D a (rsL D a b) := fun v => by
    obtain ⟨h', e', f', x⟩ := answX SH k hd v
    exact ⟨h', e', FrK.toK (fr.trans f'), x, ch.k (fr.trans f')⟩
  unfold s_X11_lines linV
  rw [vX11 S, e, Option.bind_some]
  by_cases c : rsL D a b = 0
  · obtain ⟨s, j, hs, hj, ea, eb, eq, hm⟩ := rsL_0 wn c
    have lq : lvQ (dn D) (3 * s + j) := Or.inl (by omega)
    obtain ⟨h', e', ok⟩ := fin (nI (dsz D (3 * s + j))).toInt64
    rw [if_pos c] at e'
    rw [if_pos c, if_pos c, eq]
    show ∃ h', (((if some (A (200 + (3 * s + j))) = none then some 0 else (gI H 4 1 (some (A (200 + (3 * s + j))))).bind fun v3 => some v3.toInt64) : Option (Int64)).bind fun q4 => (cV H 11 (some (A 0)) fun a6 => s_X11_answered H a6 q4).bind fun v5 => some (v5.1.toInt32, v5.2)) = _ ∧ _
    rw [if_neg (fun z => by cases z), gX4_1 SH lq, Option.bind_some, (gLH _ (by omega)).2.1, Option.bind_some, vX11 SH, e', Option.bind_some, bk32]
    exact ⟨h', rfl, ok⟩
  · obtain ⟨h', e', ok⟩ := fin 0
    rw [if_neg c] at e'
    rw [if_neg c, if_neg c]
    show ∃ h', (((if (none : Option Nat) = none then some 0 else (gI H 4 1 none).bind fun v3 => some v3.toInt64) : Option (Int64)).bind fun q4 => (cV H 11 (some (A 0)) fun a6 => s_X11_answered H a6 q4).bind fun v5 => some (v5.1.toInt32, v5.2)) = _ ∧ _
    rw [if_pos rfl, Option.bind_some, vX11 SH, e', Option.bind_some]
    exact ⟨h', rfl, ok⟩
theorem entryX {h : IH} (S : ShX h A n) (hn : n = dn D) (gs : XgS h A D) (qL : XgL h A D) (gA : XgA h A D) (w : WgL D) (hd : dop D < 1000000) (ch : ChX h A D) (a b i : Int32) : ∃ h', s_X11_entry h (A 0) a b i = some (entV D a b i, h') ∧ OkX h h' A D a (rsI D a b i) := by
  obtain ⟨H, e, fr, k⟩ := askedLiX S hn gs qL gA w a b i
  subst hn
  have wn := S.1
  have SH := fr.shX S
  have gLH : XgL H A D := qL.fr fr (fun f z => by unfold akF at z; omega) (fun f z => z.elim)
  have fin : ∀ v : Int64, ∃ h', s_X11_answered H (A 0) v = some (if rsI D a b i = 0 then v else 0, h') ∧ OkX h h' A D a (rsI D a b i) := fun v => by
    obtain ⟨h', e', f', x⟩ := answX SH k hd v
    exact ⟨h', e', FrK.toK (fr.trans f'), x, ch.k (fr.trans f')⟩
  unfold s_X11_entry entV
  rw [vX11 S, e, Option.bind_some]
  by_cases c : rsI D a b i = 0
  · obtain ⟨s, l, j, hs, hl, hj, h16, ea, eb, ei, eq, ee, _⟩ := rsI_0 wn w c
    have he : (16 * (3 * s + l) + j) / 16 < 3 * dn D := by omega
    have e0 : fI H (100 * 2 + 0) (A (1000 + (16 * (3 * s + l) + j))) = dso D (16 * (3 * s + l) + j) := ((gLH (3 * s + l) (by omega)).2.2 j hj).1
    obtain ⟨h', e', ok⟩ := fin (dso D (16 * (3 * s + l) + j)).toInt64
    rw [if_pos c] at e'
    rw [if_pos c, if_pos c, ee]
    show ∃ h', (((if some (A (1000 + (16 * (3 * s + l) + j))) = none then some 0 else (gI H 2 0 (some (A (1000 + (16 * (3 * s + l) + j))))).bind fun v3 => some v3.toInt64) : Option (Int64)).bind fun q4 => (cV H 11 (some (A 0)) fun a6 => s_X11_answered H a6 q4).bind fun v5 => some (v5.1.toInt32, v5.2)) = _ ∧ _
    rw [if_neg (fun z => by cases z), gI_ok (c := 2) 0 (kEn SH he), Option.bind_some, e0, Option.bind_some, vX11 SH, e', Option.bind_some, bk32]
    exact ⟨h', rfl, ok⟩
  · obtain ⟨h', e', ok⟩ := fin 0
    rw [if_neg c] at e'
    rw [if_neg c, if_neg c]
    show ∃ h', (((if (none : Option Nat) = none then some 0 else (gI H 2 0 none).bind fun v3 => some v3.toInt64) : Option (Int64)).bind fun q4 => (cV H 11 (some (A 0)) fun a6 => s_X11_answered H a6 q4).bind fun v5 => some (v5.1.toInt32, v5.2)) = _ ∧ _
    rw [if_pos rfl, Option.bind_some, vX11 SH, e', Option.bind_some]
    exact ⟨h', rfl, ok⟩
theorem momentX {h : IH} (S : ShX h A n) (hn : n = dn D) (gs : XgS h A D) (qL : XgL h A D) (gA : XgA h A D) (w : WgL D) (hd : dop D < 1000000) (ch : ChX h A D) (a b i k3 : Int32) : ∃ h', s_X11_moment h (A 0) a b i k3 = some (momV D a b i k3, h') ∧ OkX h h' A D a (momF D a b i k3) := by
  obtain ⟨H, e, fr, k⟩ := askedLiX S hn gs qL gA w a b i
  subst hn
  have wn := S.1
  have SH := fr.shX S
  have gLH : XgL H A D := qL.fr fr (fun f z => by unfold akF at z; omega) (fun f z => z.elim)
  have fin : ∀ v : Int64, ∃ h', s_X11_answered H (A 0) v = some (if rsI D a b i = 0 then v else 0, h') ∧ OkX h h' A D a (rsI D a b i) := fun v => by
    obtain ⟨h', e', f', x⟩ := answX SH k hd v
    exact ⟨h', e', FrK.toK (fr.trans f'), x, ch.k (fr.trans f')⟩
  have ref : ∀ g : Int32, g ≠ 0 → ∃ h', s_X11_refused H (A 0) g = some (0, h') ∧ OkX h h' A D a g := fun g hg => by
    obtain ⟨h', e', f', x⟩ := refuX SH k hd hg
    exact ⟨h', e', FrK.toK (fr.trans f'), x, ch.k (fr.trans f')⟩
  unfold s_X11_moment momV momF
  rw [vX11 S, e, Option.bind_some]
  by_cases c : rsI D a b i = 0
  · obtain ⟨s, l, j, hs, hl, hj, h16, ea, eb, ei, eq, ee, _⟩ := rsI_0 wn w c
    have he : (16 * (3 * s + l) + j) / 16 < 3 * dn D := by omega
    have en := (gLH (3 * s + l) (by omega)).2.2 j hj
    have e0 : fI H (100 * 2 + 0) (A (1000 + (16 * (3 * s + l) + j))) = dso D (16 * (3 * s + l) + j) := en.1
    have kE := kEn SH he
    rw [c] at fin
    rw [c, if_pos rfl, if_pos rfl, if_pos rfl, ee]
    generalize hE : A (1000 + (16 * (3 * s + l) + j)) = E at e0 kE en ⊢
    show ∃ h', (if some E = none then _ else (gI H 2 0 (some E)).bind fun v5 => if v5 = 2 then (cV H 11 (some (A 0)) fun a8 => s_X11_refused H a8 3).bind fun v7 => some (v7.1, v7.2) else if k3 = 1 then (gI H 2 0 (some E)).bind fun v10 => if v10 = 1 then (gL H 2 2 (some E)).bind fun v12 => (cV H 11 (some (A 0)) fun a14 => s_X11_answered H a14 v12).bind fun v13 => some (v13.1, v13.2) else ((if k3 = 0 then (gL H 2 1 (some E)).bind fun v16 => (cV H 11 (some (A 0)) fun a18 => s_X11_answered H a18 v16).bind fun v17 => some (v17.1, v17.2) else (cV H 11 (some (A 0)) fun a20 => s_X11_refused H a20 2).bind fun v19 => some (v19.1, v19.2)) : Option (Int64 × IH)).bind fun q21 => some (q21.1, q21.2) else ((if k3 = 0 then (gL H 2 1 (some E)).bind fun v23 => (cV H 11 (some (A 0)) fun a25 => s_X11_answered H a25 v23).bind fun v24 => some (v24.1, v24.2) else (cV H 11 (some (A 0)) fun a27 => s_X11_refused H a27 2).bind fun v26 => some (v26.1, v26.2)) : Option (Int64 × IH)).bind fun q28 => some (q28.1, q28.2)) = _ ∧ _
    rw [if_neg (fun z => by cases z), gI_ok (c := 2) 0 kE, Option.bind_some, e0]
    by_cases d2 : dso D (16 * (3 * s + l) + j) = 2
    · obtain ⟨h', e', ok⟩ := ref 3 (by decide)
      rw [if_pos d2, if_pos d2, if_pos d2, vX11 SH, e', Option.bind_some]
      exact ⟨h', rfl, ok⟩
    · have em : fL H (100 * 2 + 1) E = dmo D (16 * (3 * s + l) + j) := en.2.1 d2
      rw [if_neg d2, if_neg d2, if_neg d2]
      by_cases d0 : k3 = 0
      · obtain ⟨h', e', ok⟩ := fin (dmo D (16 * (3 * s + l) + j))
        rw [if_pos rfl] at e'
        rw [if_neg (show ¬ k3 = 1 by rw [d0]; decide), if_pos d0, if_pos d0, if_pos d0, gL_ok (c := 2) 1 kE, Option.bind_some, em, vX11 SH, e', Option.bind_some, Option.bind_some]
        exact ⟨h', rfl, ok⟩
      · by_cases d1 : k3 = 1
        · rw [if_pos d1, Option.bind_some]
          by_cases d3 : dso D (16 * (3 * s + l) + j) = 1
          · have es : fL H (100 * 2 + 2) E = dse D (16 * (3 * s + l) + j) := en.2.2.1 d3
            obtain ⟨h', e', ok⟩ := fin (dse D (16 * (3 * s + l) + j))
            rw [if_pos rfl] at e'
            rw [if_pos d3, gL_ok (c := 2) 2 kE, Option.bind_some, es, vX11 SH, e', Option.bind_some, if_neg d0, if_pos ⟨d1, d3⟩, if_neg d0, if_pos ⟨d1, d3⟩]
            exact ⟨h', rfl, ok⟩
          · obtain ⟨h', e', ok⟩ := ref 2 (by decide)
            rw [if_neg d3, if_neg d0, vX11 SH, e', Option.bind_some, Option.bind_some, if_neg d0, if_neg (fun z => d3 z.2), if_neg d0, if_neg (fun z => d3 z.2)]
            exact ⟨h', rfl, ok⟩
        · obtain ⟨h', e', ok⟩ := ref 2 (by decide)
          rw [if_neg d1, if_neg d0, vX11 SH, e', Option.bind_some, Option.bind_some, if_neg d0, if_neg (fun z => d1 z.1), if_neg d0, if_neg (fun z => d1 z.1)]
          exact ⟨h', rfl, ok⟩
  · obtain ⟨h', e', ok⟩ := fin 0
    rw [if_neg c] at e'
    rw [if_neg c, if_neg c, if_neg c]
    show ∃ h', (if (none : Option Nat) = none then (cV H 11 (some (A 0)) fun a4 => s_X11_answered H a4 0).bind fun v3 => some (v3.1, v3.2) else _) = _ ∧ _
    rw [if_pos rfl, vX11 SH, e', Option.bind_some]
    exact ⟨h', rfl, ok⟩
theorem callLenX {h : IH} {N : Nat} (hN : 2000 ≤ N) {e : Nat} {b : Nat → Int32} {l : Nat} (k : kd h e = 3) (hl : l ≤ 6) (hb : allB clB b l 0 = true) (hc : fL h 203 e = calV b l 0 0) : s_X2_callLength N h e = some (nI l) := by
  obtain ⟨cv, cb⟩ := calV_N hl hb
  have hc' : fL h (100 * 2 + 3) e = Int64.ofNat (cvN b l 0 0) := hc.trans cv
  have nz : ∀ j, j < 6 → (cvN b l 0 0 / 256 ^ j = 0 ↔ l ≤ j) := fun j hj => by
    constructor
    · intro z
      have := cvN_byte l j hb
      rw [z] at this
      exact (cbt_0 hb).mp this.symm
    · intro z
      have : ∀ l : Nat, cvN b l 0 0 < 256 ^ l ∨ ¬ allB clB b l 0 = true := by
        intro l
        induction l with
        | zero => exact Or.inl (by show 0 < 256 ^ 0; decide)
        | succ l ih =>
          by_cases q : allB clB b (l + 1) 0 = true
          · obtain ⟨q1, q2⟩ := allB_snoc q
            rcases ih with ih | ih
            · refine Or.inl ?_
              rw [cvN_snoc, Nat.zero_add, Nat.pow_succ]
              rw [Nat.zero_add] at q2
              have := clB_bd q2
              omega
            · exact absurd q1 ih
          · exact Or.inr q
      rcases this l with q | q
      · exact Nat.div_eq_of_lt (Nat.lt_of_lt_of_le q (Nat.pow_le_pow_right (by decide) z))
      · exact absurd hb q
  have L : ∀ (r j z : Nat), j + r = l → r < z → s_X2_callLength_L2 N z e (nI j) h = some (nI l) := by
    intro r
    induction r with
    | zero =>
      intro j z hj hz
      obtain ⟨z, rfl⟩ : ∃ y, z = y + 1 := ⟨z - 1, by omega⟩
      have : j = l := by omega
      subst this
      rw [s_X2_callLength_L2.eq_2]
      by_cases c6 : 6 ≤ j
      · rw [if_pos (show (6 : Int32) ≤ nI j from nI_le (a := 6) c6 (by omega))]
      · rw [if_neg (show ¬ (6 : Int32) ≤ nI j from nI_ge (b := 6) (by omega) (by omega)), gL_ok (c := 2) 3 k, Option.bind_some, hc', show (8 : Int32) = nI 8 from rfl, nI_mul, shr64 cb (by omega), (nz j (by omega)).mpr (by omega), if_pos ((lc_eq _ _).mpr (by decide))]
    | succ r ih =>
      intro j z hj hz
      obtain ⟨z, rfl⟩ : ∃ y, z = y + 1 := ⟨z - 1, by omega⟩
      have hd : cvN b l 0 0 / 256 ^ j ≤ cvN b l 0 0 := Nat.div_le_self _ _
      rw [s_X2_callLength_L2.eq_2, if_neg (show ¬ (6 : Int32) ≤ nI j from nI_ge (b := 6) (by omega) (by omega)), gL_ok (c := 2) 3 k, Option.bind_some, hc', show (8 : Int32) = nI 8 from rfl, nI_mul, shr64 cb (by omega), if_neg (fun z => by
        have z := (lc_eq _ _).mp z
        have z := (u64_inj (a := cvN b l 0 0 / 256 ^ j) (b := 0) (by omega) (by omega)).mp z
        have := (nz j (by omega)).mp z
        omega), nI_1]
      exact ih (j + 1) z (by omega) (by omega)
  have e0 := L l 0 N (by omega) (by omega)
  rw [nI_0] at e0
  unfold s_X2_callLength
  rw [e0, Option.bind_some]
theorem callChX {h : IH} {N : Nat} (hN : 2000 ≤ N) {e : Nat} {b : Nat → Int32} {l : Nat} (k : kd h e = 3) (hl : l ≤ 6) (hb : allB clB b l 0 = true) (hc : fL h 203 e = calV b l 0 0) {j : Nat} (hj : j < l) : s_X2_callCharacter N h e (nI j) = some (b j) := by
  obtain ⟨cv, cb⟩ := calV_N hl hb
  have hc' : fL h (100 * 2 + 3) e = Int64.ofNat (cvN b l 0 0) := hc.trans cv
  have hd : cvN b l 0 0 / 256 ^ (l - 1 - j) ≤ cvN b l 0 0 := Nat.div_le_self _ _
  have ej : nI l - 1 - nI j = nI (l - 1 - j) := by
    rw [Int32.sub_eq_iff_eq_add, Int32.sub_eq_iff_eq_add, nI_add, nI_1]
    congr 1
    omega
  have bb := clB_bd (allB_get l j hb hj)
  unfold s_X2_callCharacter
  rw [gL_ok (c := 2) 3 k, Option.bind_some, cV_ok (c := 2) _ k, callLenX hN k hl hb hc, Option.bind_some, ej, hc', show (8 : Int32) = nI 8 from rfl, nI_mul, shr64 cb (by omega), and32 (by omega), cvN_byte l _ hb]
  unfold cbt
  rw [if_pos (by omega), show l - 1 - (l - 1 - j) = j by omega]
  congr 1
  have p0 : 0 ≤ b j := iLe.mpr (by rw [show (0 : Int32).toInt = 0 from rfl]; omega)
  exact (clampI p0).symm
theorem isBelX (h : IH) (a : Int32) {k : Nat} (hk : k < 1000000) : s_X11_isBelow h a (nI k) = some (if 0 ≤ a ∧ a < nI k then 1 else 0) := by
  unfold s_X11_isBelow
  by_cases c : a < 0
  · rw [if_pos c, Option.bind_some, if_pos (Or.inl rfl), if_neg (fun z => (lt0 a).mp c z.1)]
  · rw [if_neg c]
    by_cases d : nI k ≤ a
    · rw [if_pos d, Option.bind_some, if_pos (Or.inl rfl), if_neg (fun z => (ltge _ _).mp z.2 d)]
    · rw [if_neg d, Option.bind_some, if_pos (Or.inr rfl), if_pos ⟨Decidable.byContradiction (fun y => c ((lt0 a).mpr y)), (ltge _ _).mpr d⟩]
theorem characterX {h : IH} (S : ShX h A n) (hN : 2000 ≤ N) (hn : n = dn D) (gs : XgS h A D) (qL : XgL h A D) (gA : XgA h A D) (w : WgL D) (hd : dop D < 1000000) (ch : ChX h A D) (a b i k3 : Int32) : ∃ h', s_X11_character N h (A 0) a b i k3 = some (chaV D a b i k3, h') ∧ OkX h h' A D a (chaF D a b i k3) := by
  obtain ⟨H, e, fr, k⟩ := askedCoX S hn gs qL gA w a b i
  subst hn
  have wn := S.1
  have SH := fr.shX S
  have gLH : XgL H A D := qL.fr fr (fun f z => by unfold akF at z; omega) (fun f z => z.elim)
  have fin : ∀ v : Int64, ∃ h', s_X11_answered H (A 0) v = some (if rsC D a b i = 0 then v else 0, h') ∧ OkX h h' A D a (rsC D a b i) := fun v => by
    obtain ⟨h', e', f', x⟩ := answX SH k hd v
    exact ⟨h', e', FrK.toK (fr.trans f'), x, ch.k (fr.trans f')⟩
  have ref : ∀ g : Int32, g ≠ 0 → ∃ h', s_X11_refused H (A 0) g = some (0, h') ∧ OkX h h' A D a g := fun g hg => by
    obtain ⟨h', e', f', x⟩ := refuX SH k hd hg
    exact ⟨h', e', FrK.toK (fr.trans f'), x, ch.k (fr.trans f')⟩
  unfold s_X11_character chaV chaF
  rw [vX11 S, e, Option.bind_some]
  by_cases c : rsC D a b i = 0
  · obtain ⟨s, l, j, hs, hl, hj, h16, ea, eb, ei, ee, ct, _⟩ := rsC_0 wn w c
    have he : (16 * (3 * s + l) + j) / 16 < 3 * dn D := by omega
    have en := enX gLH he ct
    have we := w.2 (3 * s + l) (by omega) j hj
    have kE := kEn SH he
    have l6 := we.2.2.2.1
    have cb := (we.2.2.2.2.1 (ct_in ct).2).2
    have ec := (en.2.2.2 (ct_in ct).2).1
    rw [c] at fin
    rw [c, if_pos rfl, if_pos rfl, if_pos rfl, ee]
    generalize hE : A (1000 + (16 * (3 * s + l) + j)) = E at kE ec ⊢
    show ∃ h', (if some E = none then _ else (cV H 2 (some E) fun a14 => s_X2_callLength N H a14).bind fun v5 => (s_X11_isBelow H k3 v5).bind fun v6 => if v6 = 0 then (cV H 11 (some (A 0)) fun a9 => s_X11_refused H a9 2).bind fun v8 => some (v8.1.toInt32, v8.2) else (cV H 2 (some E) fun a13 => s_X2_callCharacter N H a13 k3).bind fun v10 => (cV H 11 (some (A 0)) fun a12 => s_X11_answered H a12 v10.toInt64).bind fun v11 => some (v11.1.toInt32, v11.2)) = _ ∧ _
    rw [if_neg (fun z => by cases z), cV_ok (c := 2) _ kE, callLenX hN kE l6 cb ec, Option.bind_some, isBelX H k3 (by omega), Option.bind_some]
    by_cases d : 0 ≤ k3 ∧ k3 < nI (dtl D (16 * (3 * s + l) + j))
    · have z1 := clampI d.1
      have z2 := d.2
      rw [z1] at z2
      have b31 : k3.toNatClampNeg < 2 ^ 31 := Int32.toNatClampNeg_lt k3
      have z3 := iLt.mp z2
      rw [nI_toInt b31, nI_toInt (by omega)] at z3
      have hk : k3.toNatClampNeg < dtl D (16 * (3 * s + l) + j) := by omega
      have cc := callChX (N := N) hN kE l6 cb ec hk
      rw [← z1] at cc
      obtain ⟨h', e', ok⟩ := fin (dtb D (16 * (3 * s + l) + j) k3.toNatClampNeg).toInt64
      rw [if_pos rfl] at e'
      rw [if_pos d, if_pos d, if_pos d, if_neg (show ¬ (1 : Int32) = 0 by decide), cV_ok (c := 2) _ kE, cc, Option.bind_some, vX11 SH, e', Option.bind_some, bk32]
      exact ⟨h', rfl, ok⟩
    · obtain ⟨h', e', ok⟩ := ref 2 (by decide)
      rw [if_neg d, if_neg d, if_neg d, if_pos rfl, vX11 SH, e', Option.bind_some]
      exact ⟨h', rfl, ok⟩
  · obtain ⟨h', e', ok⟩ := fin 0
    rw [if_neg c] at e'
    rw [if_neg c, if_neg c, if_neg c]
    show ∃ h', (if (none : Option Nat) = none then (cV H 11 (some (A 0)) fun a4 => s_X11_answered H a4 0).bind fun v3 => some (v3.1.toInt32, v3.2) else _) = _ ∧ _
    rw [if_pos rfl, vX11 SH, e', Option.bind_some]
    exact ⟨h', rfl, ok⟩
theorem num_in (w : WgL D) {e : Nat} (he : EnW D e) (k3 : Int32) : nuX D e k3 = -1 ↔ ¬ 0 ≤ nuX D e k3 := by
  unfold nuX
  by_cases d0 : k3 = 0
  · rw [if_pos d0]
    exact m1_in he.2.2.2.2.2.1
  · rw [if_neg d0]
    by_cases d1 : k3 = 1
    · rw [if_pos d1]
      exact m1_in he.2.2.2.2.2.2
    · rw [if_neg d1]
      exact ⟨fun _ => by decide, fun _ => rfl⟩
theorem numberX {h : IH} (S : ShX h A n) (hn : n = dn D) (gs : XgS h A D) (qL : XgL h A D) (gA : XgA h A D) (w : WgL D) (hd : dop D < 1000000) (ch : ChX h A D) (a b i k3 : Int32) : ∃ h', s_X11_number h (A 0) a b i k3 = some (numV_ D a b i k3, h') ∧ OkX h h' A D a (numF D a b i k3) := by
  obtain ⟨H, e, fr, k⟩ := askedCoX S hn gs qL gA w a b i
  subst hn
  have wn := S.1
  have SH := fr.shX S
  have gLH : XgL H A D := qL.fr fr (fun f z => by unfold akF at z; omega) (fun f z => z.elim)
  have fin : ∀ v : Int64, ∃ h', s_X11_answered H (A 0) v = some (if rsC D a b i = 0 then v else 0, h') ∧ OkX h h' A D a (rsC D a b i) := fun v => by
    obtain ⟨h', e', f', x⟩ := answX SH k hd v
    exact ⟨h', e', FrK.toK (fr.trans f'), x, ch.k (fr.trans f')⟩
  have ref : ∀ g : Int32, g ≠ 0 → ∃ h', s_X11_refused H (A 0) g = some (0, h') ∧ OkX h h' A D a g := fun g hg => by
    obtain ⟨h', e', f', x⟩ := refuX SH k hd hg
    exact ⟨h', e', FrK.toK (fr.trans f'), x, ch.k (fr.trans f')⟩
  unfold s_X11_number numV_ numF
  rw [vX11 S, e, Option.bind_some]
  by_cases c : rsC D a b i = 0
  · obtain ⟨s, l, j, hs, hl, hj, h16, ea, eb, ei, ee, ct, _⟩ := rsC_0 wn w c
    have he : (16 * (3 * s + l) + j) / 16 < 3 * dn D := by omega
    have en := (enX gLH he ct).2.2.2 (ct_in ct).2
    have we := w.2 (3 * s + l) (by omega) j hj
    have kE := kEn SH he
    have e4 : fI H (100 * 2 + 4) (A (1000 + (16 * (3 * s + l) + j))) = dsn D (16 * (3 * s + l) + j) := en.2.1
    have e5 : fI H (100 * 2 + 5) (A (1000 + (16 * (3 * s + l) + j))) = dgt D (16 * (3 * s + l) + j) := en.2.2
    rw [c] at fin
    rw [c, if_pos rfl, if_pos rfl, if_pos rfl, ee]
    generalize hE : A (1000 + (16 * (3 * s + l) + j)) = E at kE e4 e5 ⊢
    have q9 : ((if k3 = 0 then (gI H 2 4 (some E)).bind fun v6 => some v6 else if k3 = 1 then (gI H 2 5 (some E)).bind fun v8 => some v8 else some (-1)) : Option (Int32)) = some (nuX D (16 * (3 * s + l) + j) k3) := by
      unfold nuX
      by_cases d0 : k3 = 0
      · rw [if_pos d0, if_pos d0, gI_ok (c := 2) 4 kE, Option.bind_some, e4]
      · rw [if_neg d0, if_neg d0]
        by_cases d1 : k3 = 1
        · rw [if_pos d1, if_pos d1, gI_ok (c := 2) 5 kE, Option.bind_some, e5]
        · rw [if_neg d1, if_neg d1]
    show ∃ h', (if some E = none then _ else ((if k3 = 0 then (gI H 2 4 (some E)).bind fun v6 => some v6 else if k3 = 1 then (gI H 2 5 (some E)).bind fun v8 => some v8 else some (-1)) : Option (Int32)).bind fun q9 => ((if q9 = (-1) then (cV H 11 (some (A 0)) fun a12 => s_X11_refused H a12 2).bind fun v11 => some (v11.1, v11.2) else (cV H 11 (some (A 0)) fun a14 => s_X11_answered H a14 q9.toInt64).bind fun v13 => some (v13.1, v13.2)) : Option (Int64 × IH)).bind fun q15 => some (q15.1.toInt32, q15.2)) = _ ∧ _
    rw [if_neg (fun z => by cases z), q9, Option.bind_some]
    have nn := num_in w we k3
    by_cases d : 0 ≤ nuX D (16 * (3 * s + l) + j) k3
    · obtain ⟨h', e', ok⟩ := fin (nuX D (16 * (3 * s + l) + j) k3).toInt64
      rw [if_pos rfl] at e'
      rw [if_neg (fun z => nn.mp z d), vX11 SH, e', Option.bind_some, Option.bind_some, if_pos d, if_pos d, bk32]
      exact ⟨h', rfl, ok⟩
    · obtain ⟨h', e', ok⟩ := ref 2 (by decide)
      rw [if_pos (nn.mpr d), vX11 SH, e', Option.bind_some, Option.bind_some, if_neg d, if_neg d]
      exact ⟨h', rfl, ok⟩
  · obtain ⟨h', e', ok⟩ := fin 0
    rw [if_neg c] at e'
    rw [if_neg c, if_neg c, if_neg c]
    show ∃ h', (if (none : Option Nat) = none then (cV H 11 (some (A 0)) fun a4 => s_X11_answered H a4 0).bind fun v3 => some (v3.1.toInt32, v3.2) else _) = _ ∧ _
    rw [if_pos rfl, vX11 SH, e', Option.bind_some]
    exact ⟨h', rfl, ok⟩
end
