/-! ===== one more pair by a cheapest way: prices ===== -/
def alw (c : Nat → Nat → Int) (tk : Nat → Bool) (i j : Nat) : Prop := 0 ≤ c i j ∧ tk j = false
def MtF (R C f0 : Nat) (c : Nat → Nat → Int) (tk : Nat → Bool) (F : Nat → Option Nat) : Prop := (∀ i j, F i = some j → f0 ≤ i ∧ i < R ∧ j < C ∧ alw c tk i j) ∧ ∀ i i' j, F i = some j → F i' = some j → i = i'
def Cert (R C f0 : Nat) (c : Nat → Nat → Int) (tk : Nat → Bool) (F : Nat → Option Nat) (β : Nat → Int) (lam : Int) : Prop := (∀ j, 0 ≤ β j) ∧ (∀ j, j < C → (∀ i, F i ≠ some j) → β j = 0) ∧ (∀ i j0 j, F i = some j0 → j < C → alw c tk i j → c i j0 + β j0 ≤ c i j + β j) ∧ (∀ i j0, F i = some j0 → c i j0 + β j0 ≤ lam) ∧ (∀ i j, f0 ≤ i → i < R → F i = none → j < C → alw c tk i j → lam ≤ c i j + β j) ∧ 0 ≤ lam
/-- what it costs to come to row i -/
def bsO (c : Nat → Nat → Int) (F : Nat → Option Nat) (co : Nat → Option Int) (i : Nat) : Option Int := match F i with
  | none => some 0
  | some j0 => (co j0).map (fun v0 => v0 - c i j0)
def nf (co : Nat → Option Int) (C : Nat) : Nat := cnt (fun j => (co j).isSome) C
def mu (co : Nat → Option Int) (C : Nat) : Nat := sm (fun j => match co j with | none => 57601 | some v => v.toNat) C
def BFI (R C f0 : Nat) (c : Nat → Nat → Int) (tk : Nat → Bool) (F : Nat → Option Nat) (β : Nat → Int) (lam : Int) (co : Nat → Option Int) (fr τ : Nat → Nat) (clk : Nat) : Prop := ∀ j v, co j = some v → j < C ∧ f0 ≤ fr j ∧ fr j < R ∧ alw c tk (fr j) j ∧ F (fr j) ≠ some j ∧ lam - β j ≤ v ∧ 0 ≤ v ∧ v ≤ 3600 * (nf co C : Int) ∧ τ j < clk ∧ (F (fr j) = none → v = c (fr j) j) ∧ ∀ j0, F (fr j) = some j0 → ∃ v0, co j0 = some v0 ∧ v0 - c (fr j) j0 + c (fr j) j ≤ v ∧ (v0 - c (fr j) j0 + c (fr j) j = v → τ j0 < τ j)
def uo (co : Nat → Option Int) (j : Nat) (v : Int) : Nat → Option Int := fun k => if k = j then some v else co k
theorem nf_uo {co : Nat → Option Int} {j C : Nat} {v : Int} (hj : j < C) : nf co C ≤ nf (uo co j v) C ∧ (co j = none → nf (uo co j v) C = nf co C + 1) := by
  constructor
  · apply cnt_mono
    intro k _ h
    show (uo co j v k).isSome = true
    unfold uo
    by_cases e : k = j
    · rw [if_pos e]; rfl
    · rw [if_neg e]; exact h
  · intro h
    unfold nf
    rw [cnt_set (p := fun k => (co k).isSome) (s := j)]
    · rw [if_pos hj]
    · show (co j).isSome = false
      rw [h]; rfl
    · show (uo co j v j).isSome = true
      unfold uo
      rw [if_pos rfl]; rfl
    · intro k hk
      show (uo co j v k).isSome = (co k).isSome
      unfold uo
      rw [if_neg hk]
theorem mu_uo {co : Nat → Option Int} {j C : Nat} {v : Int} (hj : j < C) (h0 : 0 ≤ v) (h1 : v ≤ 57600) (h2 : ∀ u, co j = some u → v < u) : mu (uo co j v) C < mu co C := by
  have e := sm_upd (f := fun k => match uo co j v k with | none => 57601 | some v => v.toNat) (g := fun k => match co k with | none => 57601 | some v => v.toNat) (k := j) (fun i hi => by
    show (match uo co j v i with | none => 57601 | some v => v.toNat) = _
    unfold uo
    rw [if_neg hi]) C hj
  have e1 : (match uo co j v j with | none => 57601 | some v => v.toNat) = v.toNat := by
    unfold uo
    rw [if_pos rfl]
  have e2 : v.toNat < (match co j with | none => 57601 | some v => v.toNat) := by
    cases hc : co j with
    | none => show v.toNat < 57601; omega
    | some u =>
      have := h2 u hc
      show v.toNat < u.toNat
      omega
  rw [e1] at e
  show mu (uo co j v) C < mu co C
  unfold mu
  omega
theorem nf_le (co : Nat → Option Int) (C : Nat) : nf co C ≤ C := cnt_le _ _
section
variable {R C f0 : Nat} {c : Nat → Nat → Int} {tk : Nat → Bool} {F : Nat → Option Nat} {β : Nat → Int} {lam : Int} {co : Nat → Option Int} {fr τ : Nat → Nat} {clk : Nat}
/-- a cheaper way to column j -/
theorem bfi_upd (hF : MtF R C f0 c tk F) (hC : Cert R C f0 c tk F β lam) (hc : ∀ i j, c i j ≤ 3600) (b : BFI R C f0 c tk F β lam co fr τ clk) {i j : Nat} {B : Int} (hi : f0 ≤ i) (hi2 : i < R) (hj : j < C) (ha : alw c tk i j) (hn : F i ≠ some j) (hb : bsO c F co i = some B) (hlt : ∀ v, co j = some v → B + c i j < v) : BFI R C f0 c tk F β lam (uo co j (B + c i j)) (upN fr j i) (upN τ j clk) (clk + 1) ∧ 0 ≤ B + c i j ∧ B + c i j ≤ 3600 * (nf (uo co j (B + c i j)) C : Int) := by
  have hc0 := ha.1
  have hn1 := nf_uo (co := co) (v := B + c i j) hj
  -- bounds of the new cost
  have bd : lam - β j ≤ B + c i j ∧ 0 ≤ B + c i j ∧ B + c i j ≤ 3600 * (nf (uo co j (B + c i j)) C : Int) := by
    cases hf : F i with
    | none =>
      have hB : B = 0 := by
        unfold bsO at hb
        rw [hf] at hb
        cases hb
        rfl
      have h5 := hC.2.2.2.2.1 i j hi hi2 hf hj ha
      have h3 := hc i j
      refine ⟨by omega, by omega, ?_⟩
      cases hcj : co j with
      | none =>
        have := hn1.2 hcj
        omega
      | some v =>
        have h8 := (b j v hcj).2.2.2.2.2.2.2.1
        have := hlt v hcj
        have := hn1.1
        omega
    | some j0 =>
      unfold bsO at hb
      rw [hf] at hb
      have hb : (co j0).map (fun v0 => v0 - c i j0) = some B := hb
      obtain ⟨v0, h0, e0⟩ := Option.map_eq_some_iff.mp hb
      have b0 := b j0 v0 h0
      have hc00 := (hF.1 i j0 hf).2.2.2.1
      have q1 := hC.2.2.1 i j0 j hf hj ha
      have q2 := hC.2.2.2.1 i j0 hf
      have h3 := hc i j
      have h8 := b0.2.2.2.2.2.2.2.1
      have h6 := b0.2.2.2.2.2.1
      refine ⟨by omega, by omega, ?_⟩
      cases hcj : co j with
      | none =>
        have := hn1.2 hcj
        omega
      | some v =>
        have h9 := (b j v hcj).2.2.2.2.2.2.2.1
        have := hlt v hcj
        have := hn1.1
        omega
  refine ⟨?_, bd.2⟩
  intro k v hv
  unfold uo at hv
  by_cases e : k = j
  · subst e
    rw [if_pos rfl] at hv
    cases hv
    have u1 : upN fr k i k = i := by unfold upN; rw [if_pos rfl]
    have u2 : upN τ k clk k = clk := by unfold upN; rw [if_pos rfl]
    rw [u1, u2]
    refine ⟨hj, hi, hi2, ha, hn, bd.1, bd.2.1, bd.2.2, by omega, fun hf => ?_, fun j0 hf => ?_⟩
    · unfold bsO at hb
      rw [hf] at hb
      cases hb
      omega
    · have hb' := hb
      unfold bsO at hb'
      rw [hf] at hb'
      have hb' : (co j0).map (fun v0 => v0 - c i j0) = some B := hb'
      obtain ⟨v0, h0, e0⟩ := Option.map_eq_some_iff.mp hb'
      have ne : j0 ≠ k := fun z => hn (by rw [hf, z])
      have t0 := (b j0 v0 h0).2.2.2.2.2.2.2.2.1
      refine ⟨v0, ?_, by omega, fun _ => ?_⟩
      · unfold uo
        rw [if_neg ne]
        exact h0
      · unfold upN
        rw [if_neg ne]
        exact t0
  · rw [if_neg e] at hv
    have u1 : upN fr j i k = fr k := by unfold upN; rw [if_neg e]
    have u2 : upN τ j clk k = τ k := by unfold upN; rw [if_neg e]
    rw [u1, u2]
    obtain ⟨a1, a2, a3, a4, a5, a6, a7, a8, a9, a10, a11⟩ := b k v hv
    refine ⟨a1, a2, a3, a4, a5, a6, a7, ?_, by omega, a10, fun j0 hf => ?_⟩
    · have := hn1.1
      omega
    · obtain ⟨v0, h0, q1, q2⟩ := a11 j0 hf
      by_cases d : j0 = j
      · subst d
        have := hlt v0 h0
        refine ⟨B + c i j0, ?_, by omega, fun z => by omega⟩
        unfold uo
        rw [if_pos rfl]
      · refine ⟨v0, ?_, q1, fun z => ?_⟩
        · unfold uo
          rw [if_neg d]
          exact h0
        · unfold upN
          rw [if_neg d]
          exact q2 z
/-- nothing gets cheaper any more -/
def FixP (R C f0 : Nat) (c : Nat → Nat → Int) (tk : Nat → Bool) (F : Nat → Option Nat) (co : Nat → Option Int) : Prop := ∀ i j B, f0 ≤ i → i < R → j < C → alw c tk i j → F i ≠ some j → bsO c F co i = some B → ∃ v, co j = some v ∧ v ≤ B + c i j
/-- the new prices -/
def nb (β : Nat → Int) (co : Nat → Option Int) (K : Int) (j : Nat) : Int := match co j with
  | none => β j
  | some v => if β j ≤ K - v then K - v else β j
theorem nb_ge (K : Int) (j : Nat) : β j ≤ nb β co K j := by
  unfold nb
  split
  · exact Int.le_refl _
  · split <;> omega
theorem nb_co {K v : Int} {j : Nat} (h : co j = some v) : K - v ≤ nb β co K j := by
  unfold nb
  rw [h]
  dsimp only
  split <;> omega
/-- prices at K for a matching F' whose rows are as in F or newly paired along tight edges -/
theorem cert_new (hF : MtF R C f0 c tk F) (hC : Cert R C f0 c tk F β lam) (b : BFI R C f0 c tk F β lam co fr τ clk) (fx : FixP R C f0 c tk F co) {K : Int} (hK : lam ≤ K) {F' : Nat → Option Nat} (hF' : MtF R C f0 c tk F') (ch : ∀ i j, F' i = some j → F i = some j ∨ (fr j = i ∧ ∃ v, co j = some v ∧ v + β j ≤ K)) (fr0 : ∀ i, F' i = none → F i = none) (cf : ∀ j, j < C → (∀ i, F' i ≠ some j) → (∀ i, F i ≠ some j) ∧ ∀ v, co j = some v → K ≤ v) : Cert R C f0 c tk F' (nb β co K) K := by
  obtain ⟨c1, c2, c3, c4, c5, c6⟩ := hC
  -- columns of matched rows cost at least the pair
  have low : ∀ i j0 v0, F i = some j0 → co j0 = some v0 → c i j0 ≤ v0 := fun i j0 v0 h1 h2 => by
    have := (b j0 v0 h2).2.2.2.2.2.1
    have := c4 i j0 h1
    omega
  -- a row matched in F, under the new prices
  have keep : ∀ i j0 j, F i = some j0 → j < C → alw c tk i j → c i j0 + nb β co K j0 ≤ c i j + nb β co K j := by
    intro i j0 j h1 hj ha
    by_cases e : j = j0
    · rw [e]; exact Int.le_refl _
    · have old := c3 i j0 j h1 hj ha
      have g1 := nb_ge (β := β) (co := co) K j
      cases h0 : co j0 with
      | none =>
        have : nb β co K j0 = β j0 := by unfold nb; rw [h0]
        omega
      | some v0 =>
        have hb : bsO c F co i = some (v0 - c i j0) := by unfold bsO; rw [h1]; show (co j0).map _ = _; rw [h0]; rfl
        have hl := hF.1 i j0 h1
        obtain ⟨v, hv, q⟩ := fx i j _ hl.1 hl.2.1 hj ha (fun z => e (by rw [h1] at z; cases z; rfl)) hb
        have g2 := nb_co (β := β) (K := K) hv
        have : nb β co K j0 = if β j0 ≤ K - v0 then K - v0 else β j0 := by unfold nb; rw [h0]
        rw [this]
        split <;> omega
  refine ⟨fun j => ?_, fun j hj hn => ?_, fun i j0 j h1 hj ha => ?_, fun i j0 h1 => ?_, fun i j hi hi2 h1 hj ha => ?_, by omega⟩
  · have := nb_ge (β := β) (co := co) K j
    have := c1 j
    omega
  · obtain ⟨q1, q2⟩ := cf j hj hn
    have z := c2 j hj q1
    unfold nb
    cases h : co j with
    | none => exact z
    | some v =>
      have := q2 v h
      dsimp only
      split <;> omega
  · rcases ch i j0 h1 with q | ⟨q1, v, q2, q3⟩
    · exact keep i j0 j q hj ha
    · -- newly paired: the price is met exactly
      obtain ⟨a1, a2, a3, a4, a5, a6, a7, a8, a9, a10, a11⟩ := b j0 v q2
      rw [q1] at a2 a3 a4 a5 a10 a11
      have e0 : nb β co K j0 = K - v := by unfold nb; rw [q2]; dsimp only; rw [if_pos (by omega)]
      cases hf : F i with
      | none =>
        have hv := a10 hf
        obtain ⟨u, hu, q⟩ := fx i j 0 a2 a3 hj ha (by rw [hf]; intro z; cases z) (by unfold bsO; rw [hf])
        have g2 := nb_co (β := β) (K := K) hu
        omega
      | some k0 =>
        obtain ⟨v0, h0, r1, _⟩ := a11 k0 hf
        have hb : bsO c F co i = some (v0 - c i k0) := by unfold bsO; rw [hf]; show (co k0).map _ = _; rw [h0]; rfl
        obtain ⟨u0, hu0, r2⟩ := fx i j0 _ a2 a3 a1 a4 a5 hb
        rw [q2] at hu0
        cases hu0
        by_cases e : j = k0
        · subst e
          have g2 := nb_co (β := β) (K := K) h0
          omega
        · obtain ⟨u, hu, q⟩ := fx i j _ a2 a3 hj ha (by rw [hf]; intro z; cases z; exact e rfl) hb
          have g2 := nb_co (β := β) (K := K) hu
          omega
  · rcases ch i j0 h1 with q | ⟨q1, v, q2, q3⟩
    · have q4 := c4 i j0 q
      unfold nb
      cases h0 : co j0 with
      | none => dsimp only; omega
      | some v0 =>
        have := low i j0 v0 q h0
        dsimp only
        split <;> omega
    · obtain ⟨a1, a2, a3, a4, a5, a6, a7, a8, a9, a10, a11⟩ := b j0 v q2
      rw [q1] at a2 a3 a4 a5 a10 a11
      have e0 : nb β co K j0 = K - v := by unfold nb; rw [q2]; dsimp only; rw [if_pos (by omega)]
      rw [e0]
      cases hf : F i with
      | none =>
        have hv := a10 hf
        omega
      | some k0 =>
        obtain ⟨v0, h0, r1, _⟩ := a11 k0 hf
        have := low i k0 v0 hf h0
        have hb : bsO c F co i = some (v0 - c i k0) := by unfold bsO; rw [hf]; show (co k0).map _ = _; rw [h0]; rfl
        obtain ⟨u0, hu0, r2⟩ := fx i j0 _ a2 a3 a1 a4 a5 hb
        rw [q2] at hu0
        cases hu0
        omega
  · have hf := fr0 i h1
    obtain ⟨u, hu, q⟩ := fx i j 0 hi hi2 hj ha (by rw [hf]; intro z; cases z) (by unfold bsO; rw [hf])
    have g2 := nb_co (β := β) (K := K) hu
    omega
end
