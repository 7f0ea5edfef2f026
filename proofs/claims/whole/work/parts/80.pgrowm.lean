/-! ===== the reference looks for cheapest ways ===== -/
def mxL : Int := 9223372036854775807
def cvO (o : Option Int) : Int := match o with
  | none => mxL
  | some v => v
/-- rows, columns, distances and the columns that are taken -/
def GrM (h : IH) (m : Nat) (ar : Nat → Nat) (R C : Nat) (c : Nat → Nat → Int) (tk : Nat → Bool) : Prop := fI h 1257 m = nI R ∧ fI h 1258 m = nI C ∧ R ≤ 16 ∧ C ≤ 16 ∧ (∀ i j, i < R → j < C → (rL h (ar 61) (16 * i + j)).toInt = c i j) ∧ (∀ j, j < 16 → rI h (ar 62) j = bI (tk j)) ∧ ∀ i j, -1 ≤ c i j ∧ c i j ≤ 3600
def McM (h : IH) (ar : Nat → Nat) (F G : Nat → Option Nat) : Prop := (∀ i, i < 16 → rI h (ar 64) i = oI (F i)) ∧ ∀ j, j < 16 → rI h (ar 63) j = oI (G j)
def CoM (h : IH) (ar : Nat → Nat) (C : Nat) (co : Nat → Option Int) (fr : Nat → Nat) : Prop := ∀ j, j < C → (rL h (ar 65) j).toInt = cvO (co j) ∧ (co j ≠ none → rI h (ar 66) j = nI (fr j))
abbrev FrC (m : Nat) (ar : Nat → Nat) : IH → IH → Prop := FM m ar no1 no1 (e1 66) (e1 65)
theorem r66 : mRow (e1 66) := fun i z => by cases z; decide
theorem r65 : mRow (e1 65) := fun i z => by cases z; decide
theorem GrM.fr {h h' : IH} {m : Nat} {ar : Nat → Nat} {R C : Nat} {c : Nat → Nat → Int} {tk : Nat → Bool} {F G Rw Q : Nat → Prop} (S : ShM h m ar) (x : FM m ar F G Rw Q h h') (hR : mRow Rw) (hQ : mRow Q) (g : GrM h m ar R C c tk) (f1 : ¬ F 1257) (f2 : ¬ F 1258) (r1 : ¬ Rw 62) (q1 : ¬ Q 61) : GrM h' m ar R C c tk := by
  unfold GrM
  rw [mfI x f1, mfI x f2, mrI S x hR (by decide) r1, mrL S x hQ (by decide) q1]
  exact g
theorem McM.fr {h h' : IH} {m : Nat} {ar : Nat → Nat} {F G : Nat → Option Nat} {A B Rw Q : Nat → Prop} (S : ShM h m ar) (x : FM m ar A B Rw Q h h') (hR : mRow Rw) (g : McM h ar F G) (r1 : ¬ Rw 63) (r2 : ¬ Rw 64) : McM h' ar F G := by
  unfold McM
  rw [mrI S x hR (by decide) r1, mrI S x hR (by decide) r2]
  exact g
theorem cvO_big {o : Option Int} (h : ∀ v, o = some v → v ≤ 57600) : (cvO o = mxL ↔ o = none) := by
  cases o with
  | none => exact ⟨fun _ => rfl, fun _ => rfl⟩
  | some v =>
    have := h v rfl
    refine ⟨fun z => ?_, fun z => by cases z⟩
    have z : v = 9223372036854775807 := z
    omega
section
variable {m : Nat} {ar : Nat → Nat} {N R C f0 : Nat} {c : Nat → Nat → Int} {tk : Nat → Bool} {F G : Nat → Option Nat} {β : Nat → Int} {lam : Int}
theorem bfi_bd {co : Nat → Option Int} {fr τ : Nat → Nat} {clk : Nat} (hC16 : C ≤ 16) (b : BFI R C f0 c tk F β lam co fr τ clk) : ∀ j v, co j = some v → 0 ≤ v ∧ v ≤ 57600 := fun j v h => by
  obtain ⟨a1, a2, a3, a4, a5, a6, a7, a8, _⟩ := b j v h
  have := nf_le co C
  exact ⟨a7, by omega⟩
def CoMono (co co' : Nat → Option Int) : Prop := ∀ k v, co k = some v → ∃ v', co' k = some v' ∧ v' ≤ v
theorem CoMono.refl (co : Nat → Option Int) : CoMono co co := fun k v h => ⟨v, h, Int.le_refl _⟩
theorem CoMono.trans {a b d : Nat → Option Int} (x : CoMono a b) (y : CoMono b d) : CoMono a d := fun k v h => by
  obtain ⟨v', h', l⟩ := x k v h
  obtain ⟨v2, h2, l2⟩ := y k v' h'
  exact ⟨v2, h2, by omega⟩
/-- one row offers its ways to all columns -/
theorem rowM {h : IH} (S : ShM h m ar) (g : GrM h m ar R C c tk) (mc : McM h ar F G) (hF : MtF R C f0 c tk F) (hC : Cert R C f0 c tk F β lam) {i : Nat} (hi : f0 ≤ i) (hi2 : i < R) {B : Int} (x5 : Int64) (hx5 : x5.toInt = B) (hB : -60000 ≤ B ∧ B ≤ 60000) (x1 : Int32) : ∀ (r j z : Nat) (H : IH) (x2 : Int32) (co : Nat → Option Int) (fr τ : Nat → Nat) (clk : Nat), j + r = C → r < z → FrC m ar h H → CoM H ar C co fr → BFI R C f0 c tk F β lam co fr τ clk → bsO c F co i = some B → ∃ H' x2' co' fr' τ' clk', s_X12_grows_L134 N z m x1 x2 (nI i) x5 (nI j) H = some (x2', H') ∧ FrC m ar h H' ∧ CoM H' ar C co' fr' ∧ BFI R C f0 c tk F β lam co' fr' τ' clk' ∧ clk' + mu co' C ≤ clk + mu co C ∧ CoMono co co' ∧ (∀ k, k < C → j ≤ k → alw c tk i k → F i ≠ some k → ∃ v, co' k = some v ∧ v ≤ B + c i k) ∧ ((x2' = x2 ∧ co' = co) ∨ (x2' = 1 ∧ mu co' C < mu co C)) := by
  have hR16 := g.2.2.1
  have hC16 := g.2.2.2.1
  have hcb := g.2.2.2.2.2.2
  have z0 : (0 : Int64).toInt = 0 := rfl
  intro r
  induction r with
  | zero =>
    intro j z H x2 co fr τ clk hj hz fH cm b hb
    obtain ⟨z, rfl⟩ : ∃ y, z = y + 1 := ⟨z - 1, by omega⟩
    have SH := fH.shM S
    have gH := GrM.fr S fH r66 r65 g (fun z => z) (fun z => z) (e1n (by decide)) (e1n (by decide))
    rw [s_X12_grows_L134.eq_2, mgI 58 SH.1, Option.bind_some]
    have e : fI H (1200 + 58) m = nI C := gH.2.1
    rw [e, if_pos (nI_le (by omega) (by omega))]
    exact ⟨H, x2, co, fr, τ, clk, rfl, fH, cm, b, Nat.le_refl _, CoMono.refl _, fun k h1 h2 => by omega, Or.inl ⟨rfl, rfl⟩⟩
  | succ r ih =>
    intro j z H x2 co fr τ clk hj hz fH cm b hb
    obtain ⟨z, rfl⟩ : ∃ y, z = y + 1 := ⟨z - 1, by omega⟩
    have hjC : j < C := by omega
    have SH := fH.shM S
    have gH := GrM.fr S fH r66 r65 g (fun z => z) (fun z => z) (e1n (by decide)) (e1n (by decide))
    have mH := McM.fr S fH r66 mc (e1n (by decide)) (e1n (by decide))
    have e58 : fI H (1200 + 58) m = nI C := gH.2.1
    have fij := gH.2.2.2.2.1 i j hi2 hjC
    have cij := hcb i j
    have cb := bfi_bd hC16 b
    -- when this column is passed over
    have skip : (alw c tk i j → F i ≠ some j → ∃ v, co j = some v ∧ v ≤ B + c i j) → ∃ H' x2' co' fr' τ' clk', s_X12_grows_L134 N z m x1 x2 (nI i) x5 (nI (j + 1)) H = some (x2', H') ∧ FrC m ar h H' ∧ CoM H' ar C co' fr' ∧ BFI R C f0 c tk F β lam co' fr' τ' clk' ∧ clk' + mu co' C ≤ clk + mu co C ∧ CoMono co co' ∧ (∀ k, k < C → j ≤ k → alw c tk i k → F i ≠ some k → ∃ v, co' k = some v ∧ v ≤ B + c i k) ∧ ((x2' = x2 ∧ co' = co) ∨ (x2' = 1 ∧ mu co' C < mu co C)) := by
      intro hq
      obtain ⟨H', x2', co', fr', τ', clk', a1, a2, a3, a4, a5, a5', a6, a7⟩ := ih (j + 1) z H x2 co fr τ clk (by omega) (by omega) fH cm b hb
      refine ⟨H', x2', co', fr', τ', clk', a1, a2, a3, a4, a5, a5', fun k h1 h2 h3 h4 => ?_, a7⟩
      by_cases e : k = j
      · subst e
        obtain ⟨v, hv, hle⟩ := hq h3 h4
        obtain ⟨v', hv', hle'⟩ := a5' k v hv
        exact ⟨v', hv', by omega⟩
      · exact a6 k h1 (by omega) h3 h4
    have i16 : (16 * nI i) + nI j = nI (16 * i + j) := by rw [show (16 : Int32) = nI 16 from rfl, nI_mul, nI_add]
    rw [s_X12_grows_L134.eq_2, mgI 58 SH.1, Option.bind_some, e58, if_neg (nI_ge hjC (by omega)), mgR 61 SH (by decide), Option.bind_some, i16, maJ 61 _ SH (by decide) (show 16 * i + j < 256 by omega), Option.bind_some, nI_1]
    have e0 : (lg_cmp (rL H (ar 61) (16 * i + j)) 0 < 0) ↔ c i j < 0 := by rw [lc_lt, lLt, z0, fij]
    by_cases c0 : c i j < 0
    · rw [if_pos (e0.mpr c0), Option.bind_some]
      exact skip (fun ha => by have := ha.1; omega)
    · rw [if_neg (fun z => c0 (e0.mp z)), mgR 62 SH (by decide), Option.bind_some, maZ 62 j SH (by decide) (show j < 16 by omega), Option.bind_some, gH.2.2.2.2.2.1 j (by omega)]
      cases ht : tk j with
      | true =>
        rw [if_neg (show ¬ bI true = 0 by decide), Option.bind_some]
        exact skip (fun ha => by have := ha.2; rw [ht] at this; cases this)
      | false =>
        have ha : alw c tk i j := ⟨by omega, ht⟩
        have fi := mH.1 i (by omega)
        have inj := oI_inj (o := F i) (t := j) (fun u hu => by have := (hF.1 i u hu).2.2.1; omega) (by omega)
        rw [if_pos (show bI false = 0 from rfl), mgR 64 SH (by decide), Option.bind_some, maI 64 i SH (by decide) (show i < 16 by omega), Option.bind_some, fi]
        by_cases c1 : F i = some j
        · rw [if_pos (inj.mpr c1), Option.bind_some]
          exact skip (fun _ h => absurd c1 h)
        · have e45 := (cm j hjC).1
          have esum : (x5 + rL H (ar 61) (16 * i + j)).toInt = B + c i j := by rw [la (by rw [hx5, fij]; omega) (by rw [hx5, fij]; omega), hx5, fij]
          rw [if_neg (fun z => c1 (inj.mp z)), Option.bind_some, maJ 61 _ SH (by decide) (show 16 * i + j < 256 by omega), Option.bind_some, mgR 65 SH (by decide), Option.bind_some, maJ 65 j SH (by decide) (show j < 16 by omega), Option.bind_some]
          have e1 : (lg_cmp (x5 + rL H (ar 61) (16 * i + j)) (rL H (ar 65) j) < 0) ↔ B + c i j < cvO (co j) := by rw [lc_lt, lLt, esum, e45]
          by_cases c2 : B + c i j < cvO (co j)
          · -- cheaper
            have hlt : ∀ v, co j = some v → B + c i j < v := fun v hv => by rw [hv] at c2; exact c2
            obtain ⟨b', b0, b1⟩ := bfi_upd hF hC (fun i j => (hcb i j).2) b hi hi2 hjC ha c1 hb hlt
            have hnf := nf_le (uo co j (B + c i j)) C
            have hmu := mu_uo (co := co) (v := B + c i j) hjC b0 (by omega) hlt
            have S50 : ∀ q, ShM (setJ H (ar 65) q) m ar := fun q => SH
            rw [if_pos (e1.mpr c2), Option.bind_some, Option.bind_some, maJ 61 _ SH (by decide) (show 16 * i + j < 256 by omega), Option.bind_some, msJ 65 j _ SH (by decide) (show j < 16 by omega), Option.bind_some, mgR 66 (S50 _) (by decide), Option.bind_some, msI 66 j _ (S50 _) (by decide) (show j < 16 by omega), Option.bind_some, Option.bind_some]
            generalize hH1 : setI (setJ H (ar 65) (vp_updL (rL H (ar 65)) j (x5 + rL H (ar 61) (16 * i + j)))) (ar 66) (upd (rI (setJ H (ar 65) (vp_updL (rL H (ar 65)) j (x5 + rL H (ar 61) (16 * i + j)))) (ar 66)) j (nI i)) = H1
            have f1 : FrC m ar H H1 := by
              rw [← hH1]
              exact (Fr.sJ _ _ _ ⟨65, rfl, rfl⟩).trans (Fr.sI _ _ _ ⟨66, rfl, rfl⟩)
            have cm1 : CoM H1 ar C (uo co j (B + c i j)) (upN fr j i) := by
              intro k hk
              rw [← hH1, rL_setI, rL_setJ, rI_setI, rI_setJ]
              unfold vp_updL upd uo upN
              by_cases e : k = j
              · rw [if_pos e, if_pos e, if_pos e, if_pos e]
                exact ⟨esum, fun _ => rfl⟩
              · rw [if_neg e, if_neg e, if_neg e, if_neg e]
                exact cm k hk
            have hb1 : bsO c F (uo co j (B + c i j)) i = some B := by
              unfold bsO at hb ⊢
              cases hf : F i with
              | none => rw [hf] at hb; exact hb
              | some j0 =>
                rw [hf] at hb
                have ne : j0 ≠ j := fun z => c1 (by rw [hf, z])
                show (uo co j (B + c i j) j0).map _ = _
                unfold uo
                rw [if_neg ne]
                exact hb
            obtain ⟨H', x2', co', fr', τ', clk', a1, a2, a3, a4, a5, a5', a6, a7⟩ := ih (j + 1) z H1 1 _ _ _ _ (by omega) (by omega) (fH.trans f1) cm1 b' hb1
            refine ⟨H', x2', co', fr', τ', clk', a1, a2, a3, a4, by omega, ?_, fun k h1 h2 h3 h4 => ?_, Or.inr ?_⟩
            · refine CoMono.trans (b := uo co j (B + c i j)) (fun k v hv => ?_) a5'
              unfold uo
              by_cases e : k = j
              · rw [if_pos e]
                rw [e] at hv
                have := hlt v hv
                exact ⟨_, rfl, by omega⟩
              · rw [if_neg e]
                exact ⟨v, hv, Int.le_refl _⟩
            · by_cases e : k = j
              · subst e
                obtain ⟨v', hv', hle'⟩ := a5' k (B + c i k) (by unfold uo; rw [if_pos rfl])
                exact ⟨v', hv', hle'⟩
              · exact a6 k h1 (by omega) h3 h4
            · rcases a7 with ⟨q1, q2⟩ | ⟨q1, q2⟩
              · exact ⟨q1, by rw [q2]; exact hmu⟩
              · exact ⟨q1, by omega⟩
          · rw [if_neg (fun z => c2 (e1.mp z)), Option.bind_some]
            refine skip (fun _ _ => ?_)
            cases hco : co j with
            | none =>
              rw [hco] at c2
              have : cvO none = 9223372036854775807 := rfl
              omega
            | some v =>
              rw [hco] at c2
              have : cvO (some v) = v := rfl
              exact ⟨v, rfl, by omega⟩
/-- a round over all rows -/
theorem roundM {h : IH} (S : ShM h m ar) (hN : 2000 ≤ N) (g : GrM h m ar R C c tk) (mc : McM h ar F G) (hF : MtF R C f0 c tk F) (hC : Cert R C f0 c tk F β lam) (x1 : Int32) : ∀ (r i z : Nat) (H : IH) (x2 : Int32) (co : Nat → Option Int) (fr τ : Nat → Nat) (clk : Nat), i + r = R → r < z → f0 ≤ i → FrC m ar h H → CoM H ar C co fr → BFI R C f0 c tk F β lam co fr τ clk → ∃ H' x2' co' fr' τ' clk', s_X12_grows_L42 N z m x1 x2 (nI i) H = some (x2', H') ∧ FrC m ar h H' ∧ CoM H' ar C co' fr' ∧ BFI R C f0 c tk F β lam co' fr' τ' clk' ∧ clk' + mu co' C ≤ clk + mu co C ∧ ((x2' = x2 ∧ co' = co ∧ ∀ i', i ≤ i' → i' < R → ∀ j B, j < C → alw c tk i' j → F i' ≠ some j → bsO c F co i' = some B → ∃ v, co j = some v ∧ v ≤ B + c i' j) ∨ (x2' = 1 ∧ mu co' C < mu co C)) := by
  have hR16 := g.2.2.1
  have hC16 := g.2.2.2.1
  have hcb := g.2.2.2.2.2.2
  intro r
  induction r with
  | zero =>
    intro i z H x2 co fr τ clk hi hz hf0 fH cm b
    obtain ⟨z, rfl⟩ : ∃ y, z = y + 1 := ⟨z - 1, by omega⟩
    have SH := fH.shM S
    have gH := GrM.fr S fH r66 r65 g (fun z => z) (fun z => z) (e1n (by decide)) (e1n (by decide))
    have e57 : fI H (1200 + 57) m = nI R := gH.1
    rw [s_X12_grows_L42.eq_2, mgI 57 SH.1, Option.bind_some, e57, if_pos (nI_le (by omega) (by omega))]
    exact ⟨H, x2, co, fr, τ, clk, rfl, fH, cm, b, Nat.le_refl _, Or.inl ⟨rfl, rfl, fun i' h1 h2 => by omega⟩⟩
  | succ r ih =>
    intro i z H x2 co fr τ clk hi hz hf0 fH cm b
    obtain ⟨z, rfl⟩ : ∃ y, z = y + 1 := ⟨z - 1, by omega⟩
    have hiR : i < R := by omega
    have SH := fH.shM S
    have gH := GrM.fr S fH r66 r65 g (fun z => z) (fun z => z) (e1n (by decide)) (e1n (by decide))
    have mH := McM.fr S fH r66 mc (e1n (by decide)) (e1n (by decide))
    have e57 : fI H (1200 + 57) m = nI R := gH.1
    have fi := mH.1 i (by omega)
    have cb := bfi_bd hC16 b
    -- a row with a base
    have go : ∀ (x5 : Int64) (B : Int), x5.toInt = B → (-60000 ≤ B ∧ B ≤ 60000) → bsO c F co i = some B → ∃ H' x2' co' fr' τ' clk', (((s_X12_grows_L134 N N m x1 x2 (nI i) x5 0 H).bind fun q54 => some (q54.1, q54.2)).bind fun q66 => s_X12_grows_L42 N z m x1 q66.1 (nI i + 1) q66.2) = some (x2', H') ∧ FrC m ar h H' ∧ CoM H' ar C co' fr' ∧ BFI R C f0 c tk F β lam co' fr' τ' clk' ∧ clk' + mu co' C ≤ clk + mu co C ∧ ((x2' = x2 ∧ co' = co ∧ ∀ i', i ≤ i' → i' < R → ∀ j B, j < C → alw c tk i' j → F i' ≠ some j → bsO c F co i' = some B → ∃ v, co j = some v ∧ v ≤ B + c i' j) ∨ (x2' = 1 ∧ mu co' C < mu co C)) := by
      intro x5 B hx hB hb
      obtain ⟨H1, y2, co1, fr1, τ1, clk1, a1, a2, a3, a4, a5, a5', a6, a7⟩ := rowM (N := N) S g mc hF hC hf0 hiR x5 hx hB x1 C 0 N H x2 co fr τ clk (by omega) (by omega) fH cm b hb
      rw [nI_0] at a1
      rw [a1, Option.bind_some, Option.bind_some, nI_1]
      obtain ⟨H', x2', co', fr', τ', clk', b1, b2, b3, b4, b5, b6⟩ := ih (i + 1) z H1 y2 co1 fr1 τ1 clk1 (by omega) (by omega) (by omega) a2 a3 a4
      refine ⟨H', x2', co', fr', τ', clk', b1, b2, b3, b4, by omega, ?_⟩
      rcases a7 with ⟨q1, q2⟩ | ⟨q1, q2⟩
      · subst q1
        subst q2
        rcases b6 with ⟨p1, p2, p3⟩ | p
        · refine Or.inl ⟨p1, p2, fun i' h1 h2 j B' hj ha hn hbb => ?_⟩
          by_cases e : i' = i
          · subst e
            rw [hb] at hbb
            cases hbb
            exact a6 j hj (by omega) ha hn
          · exact p3 i' (by omega) h2 j B' hj ha hn hbb
        · exact Or.inr p
      · rcases b6 with ⟨p1, p2, p3⟩ | ⟨p1, p2⟩
        · exact Or.inr ⟨by rw [p1, q1], by rw [p2]; exact q2⟩
        · exact Or.inr ⟨p1, by omega⟩
    rw [s_X12_grows_L42.eq_2, mgI 57 SH.1, Option.bind_some, e57, if_neg (nI_ge hiR (by omega)), mgR 64 SH (by decide), Option.bind_some, maI 64 i SH (by decide) (show i < 16 by omega), Option.bind_some, fi]
    cases hf : F i with
    | none =>
      have hb : bsO c F co i = some 0 := by unfold bsO; rw [hf]
      rw [if_neg (show ¬ (0 : Int32) ≤ oI none by decide), Option.bind_some, if_neg (show ¬ (1 : Int32) = 0 by decide), if_neg (show ¬ (1 : Int32) = 0 by decide), Option.bind_some]
      exact go 0 0 rfl ⟨by omega, by omega⟩ hb
    | some j0 =>
      obtain ⟨q1, q2, q3, q4⟩ := hF.1 i j0 hf
      have eo : oI (some j0) = nI j0 := rfl
      have e65 := (cm j0 q3).1
      rw [eo, if_pos (nI_pos' (by omega)), Option.bind_some, if_pos rfl, mgR 65 SH (by decide), Option.bind_some, Option.bind_some, maI 64 i SH (by decide) (show i < 16 by omega), Option.bind_some, fi, hf, eo, maJ 65 j0 SH (by decide) (show j0 < 16 by omega), Option.bind_some]
      have em : (lg_cmp (rL H (ar 65) j0) 9223372036854775807 = 0) ↔ co j0 = none := by
        have e9 : (9223372036854775807 : Int64).toInt = mxL := by decide
        rw [lc_eq, lEq, e65, e9]
        exact cvO_big (fun v hv => (cb j0 v hv).2)
      cases hco : co j0 with
      | none =>
        rw [if_pos (em.mpr hco), Option.bind_some, nI_1]
        obtain ⟨H', x2', co', fr', τ', clk', b1, b2, b3, b4, b5, b6⟩ := ih (i + 1) z H x2 co fr τ clk (by omega) (by omega) (by omega) fH cm b
        refine ⟨H', x2', co', fr', τ', clk', b1, b2, b3, b4, b5, ?_⟩
        rcases b6 with ⟨p1, p2, p3⟩ | p
        · refine Or.inl ⟨p1, p2, fun i' h1 h2 j B' hj ha hn hbb => ?_⟩
          by_cases e : i' = i
          · subst e
            unfold bsO at hbb
            rw [hf] at hbb
            have hbb : (co j0).map (fun v0 => v0 - c i' j0) = some B' := hbb
            rw [hco] at hbb
            cases hbb
          · exact p3 i' (by omega) h2 j B' hj ha hn hbb
        · exact Or.inr p
      | some v0 =>
        have vb := cb j0 v0 hco
        have hcc := hcb i j0
        have fi0 := gH.2.2.2.2.1 i j0 hiR q3
        have hb : bsO c F co i = some (v0 - c i j0) := by unfold bsO; rw [hf]; show (co j0).map _ = _; rw [hco]; rfl
        have i16 : (16 * nI i) + nI j0 = nI (16 * i + j0) := by rw [show (16 : Int32) = nI 16 from rfl, nI_mul, nI_add]
        rw [if_neg (fun z => by rw [em.mp z] at hco; cases hco), if_pos rfl, Option.bind_some, Option.bind_some, maI 64 i SH (by decide) (show i < 16 by omega), Option.bind_some, fi, hf, eo, maJ 65 j0 SH (by decide) (show j0 < 16 by omega), Option.bind_some, mgR 61 SH (by decide), Option.bind_some, Option.bind_some, maI 64 i SH (by decide) (show i < 16 by omega), Option.bind_some, fi, hf, eo, i16, maJ 61 _ SH (by decide) (show 16 * i + j0 < 256 by omega), Option.bind_some, Option.bind_some]
        have e65' : (rL H (ar 65) j0).toInt = v0 := by rw [e65, hco]; rfl
        refine go _ (v0 - c i j0) ?_ ⟨by omega, by omega⟩ hb
        rw [ls (by rw [e65', fi0]; omega) (by rw [e65', fi0]; omega), e65', fi0]
/-- rounds until nothing gets cheaper -/
theorem roundsM {h : IH} (S : ShM h m ar) (hN : 2000 ≤ N) (g : GrM h m ar R C c tk) (mc : McM h ar F G) (hF : MtF R C f0 c tk F) (hC : Cert R C f0 c tk F β lam) (hf0 : f0 ≤ R) : ∀ (k z : Nat) (H : IH) (co : Nat → Option Int) (fr τ : Nat → Nat) (clk : Nat), mu co C ≤ k → k + 1 < z → FrC m ar h H → CoM H ar C co fr → BFI R C f0 c tk F β lam co fr τ clk → ∃ H' co' fr' τ' clk', s_X12_grows_L34 N z m (nI f0) 1 H = some H' ∧ FrC m ar h H' ∧ CoM H' ar C co' fr' ∧ BFI R C f0 c tk F β lam co' fr' τ' clk' ∧ clk' + mu co' C ≤ clk + mu co C ∧ FixP R C f0 c tk F co' := by
  have hR16 := g.2.2.1
  intro k
  induction k with
  | zero =>
    intro z H co fr τ clk hk hz fH cm b
    obtain ⟨z, rfl⟩ : ∃ y, z = y + 1 + 1 := ⟨z - 2, by omega⟩
    obtain ⟨H', x2', co', fr', τ', clk', b1, b2, b3, b4, b5, b6⟩ := roundM (N := N) S hN g mc hF hC (nI f0) (R - f0) f0 N H 0 co fr τ clk (by omega) (by omega) (Nat.le_refl _) fH cm b
    rw [s_X12_grows_L34.eq_2, if_neg (by decide), b1, Option.bind_some]
    rcases b6 with ⟨p1, p2, p3⟩ | ⟨p1, p2⟩
    · rw [p1, s_X12_grows_L34.eq_2, if_pos rfl]
      refine ⟨H', co', fr', τ', clk', rfl, b2, b3, b4, b5, ?_⟩
      rw [p2]
      exact fun i j B h1 h2 h3 h4 h5 h6 => p3 i h1 h2 j B h3 h4 h5 h6
    · omega
  | succ k ih =>
    intro z H co fr τ clk hk hz fH cm b
    obtain ⟨z, rfl⟩ : ∃ y, z = y + 1 := ⟨z - 1, by omega⟩
    obtain ⟨H', x2', co', fr', τ', clk', b1, b2, b3, b4, b5, b6⟩ := roundM (N := N) S hN g mc hF hC (nI f0) (R - f0) f0 N H 0 co fr τ clk (by omega) (by omega) (Nat.le_refl _) fH cm b
    rw [s_X12_grows_L34.eq_2, if_neg (by decide), b1, Option.bind_some]
    rcases b6 with ⟨p1, p2, p3⟩ | ⟨p1, p2⟩
    · obtain ⟨z, rfl⟩ : ∃ y, z = y + 1 := ⟨z - 1, by omega⟩
      rw [p1, s_X12_grows_L34.eq_2, if_pos rfl]
      refine ⟨H', co', fr', τ', clk', rfl, b2, b3, b4, b5, ?_⟩
      rw [p2]
      exact fun i j B h1 h2 h3 h4 h5 h6 => p3 i h1 h2 j B h3 h4 h5 h6
    · rw [p1]
      obtain ⟨H2, co2, fr2, τ2, clk2, c1, c2, c3, c4, c5, c6⟩ := ih z H' co' fr' τ' clk' (by omega) (by omega) b2 b3 b4
      exact ⟨H2, co2, fr2, τ2, clk2, c1, c2, c3, c4, by omega, c6⟩
end
