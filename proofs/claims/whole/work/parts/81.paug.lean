/-! ===== the reference: the best way is taken ===== -/
def pcs (c : Nat → Nat → Int) (F : Nat → Option Nat) (i : Nat) : Nat := match F i with
  | none => 0
  | some j => (c i j).toNat
def sF (c : Nat → Nat → Int) (F : Nat → Option Nat) (R : Nat) : Nat := sm (pcs c F) R
def nM (F : Nat → Option Nat) (R : Nat) : Nat := cnt (fun i => (F i).isSome) R
def uF (F : Nat → Option Nat) (i : Nat) (j : Nat) : Nat → Option Nat := fun k => if k = i then some j else F k
theorem uF_s {F : Nat → Option Nat} {i j : Nat} : uF F i j i = some j := by unfold uF; rw [if_pos rfl]
theorem uF_n {F : Nat → Option Nat} {i j k : Nat} (h : k ≠ i) : uF F i j k = F k := by unfold uF; rw [if_neg h]
theorem uF_oI {F : Nat → Option Nat} {i j : Nat} (f : Nat → Int32) (h : ∀ k, k < 16 → f k = oI (F k)) : ∀ k, k < 16 → upd f i (nI j) k = oI (uF F i j k) := by
  intro k hk
  unfold upd uF
  by_cases e : k = i
  · rw [if_pos e, if_pos e]
    rfl
  · rw [if_neg e, if_neg e]
    exact h k hk
section
variable {m : Nat} {ar : Nat → Nat} {N R C f0 : Nat} {c : Nat → Nat → Int} {tk : Nat → Bool} {F G : Nat → Option Nat} {β : Nat → Int} {lam : Int} {co : Nat → Option Int} {fr τ : Nat → Nat} {clk : Nat}
/-- the cheapest free column -/
theorem bestM {h : IH} (S : ShM h m ar) (g : GrM h m ar R C c tk) (mc : McM h ar F G) (cm : CoM h ar C co fr) (cb : ∀ j v, co j = some v → 0 ≤ v ∧ v ≤ 57600) (hG : ∀ j i, G j = some i → i < 16) : ∀ (r j z : Nat) (o : Option Nat), j + r = C → r < z → ((o = none ∧ ∀ k, k < j → G k = none → co k = none) ∨ ∃ k0 v0, o = some k0 ∧ k0 < j ∧ G k0 = none ∧ co k0 = some v0 ∧ ∀ k v, k < j → G k = none → co k = some v → v0 ≤ v) → ∃ o', s_X12_grows_L262 N z m (oI o) (nI j) h = some (oI o') ∧ ((o' = none ∧ ∀ k, k < C → G k = none → co k = none) ∨ ∃ k0 v0, o' = some k0 ∧ k0 < C ∧ G k0 = none ∧ co k0 = some v0 ∧ ∀ k v, k < C → G k = none → co k = some v → v0 ≤ v) := by
  have hC16 := g.2.2.2.1
  have e9 : (9223372036854775807 : Int64).toInt = mxL := by decide
  intro r
  induction r with
  | zero =>
    intro j z o hj hz q
    obtain ⟨z, rfl⟩ : ∃ y, z = y + 1 := ⟨z - 1, by omega⟩
    have e : fI h (1200 + 58) m = nI C := g.2.1
    rw [s_X12_grows_L262.eq_2, mgI 58 S.1, Option.bind_some, e, if_pos (nI_le (by omega) (by omega))]
    have : j = C := by omega
    subst this
    exact ⟨o, rfl, q⟩
  | succ r ih =>
    intro j z o hj hz q
    obtain ⟨z, rfl⟩ : ∃ y, z = y + 1 := ⟨z - 1, by omega⟩
    have hjC : j < C := by omega
    have e : fI h (1200 + 58) m = nI C := g.2.1
    have ej := (cm j hjC).1
    rw [s_X12_grows_L262.eq_2, mgI 58 S.1, Option.bind_some, e, if_neg (nI_ge hjC (by omega)), mgR 63 S (by decide), Option.bind_some, maI 63 j S (by decide) (show j < 16 by omega), Option.bind_some, mc.2 j (by omega), nI_1]
    -- the next one is not better
    have stay : (∀ v, G j = none → co j = some v → ∃ k0 v0, o = some k0 ∧ co k0 = some v0 ∧ v0 ≤ v) → ∃ o', s_X12_grows_L262 N z m (oI o) (nI (j + 1)) h = some (oI o') ∧ ((o' = none ∧ ∀ k, k < C → G k = none → co k = none) ∨ ∃ k0 v0, o' = some k0 ∧ k0 < C ∧ G k0 = none ∧ co k0 = some v0 ∧ ∀ k v, k < C → G k = none → co k = some v → v0 ≤ v) := by
      intro hq
      refine ih (j + 1) z o (by omega) (by omega) ?_
      rcases q with ⟨q1, q2⟩ | ⟨k0, v0, q1, q2, q3, q4, q5⟩
      · refine Or.inl ⟨q1, fun k hk hg => ?_⟩
        by_cases d : k = j
        · subst d
          cases hc : co k with
          | none => rfl
          | some v =>
            obtain ⟨k0, v0, p1, _⟩ := hq v hg hc
            rw [q1] at p1
            cases p1
        · exact q2 k (by omega) hg
      · refine Or.inr ⟨k0, v0, q1, by omega, q3, q4, fun k v hk hg hc => ?_⟩
        by_cases d : k = j
        · subst d
          obtain ⟨k1, v1, p1, p2, p3⟩ := hq v hg hc
          rw [q1] at p1
          cases p1
          rw [q4] at p2
          cases p2
          exact p3
        · exact q5 k v (by omega) hg hc
    cases hg : G j with
    | some i =>
      have := hG j i hg
      rw [if_pos (show (0 : Int32) ≤ oI (some i) from nI_pos' (by omega)), Option.bind_some]
      exact stay (fun v h1 => by rw [hg] at h1; cases h1)
    | none =>
      rw [if_neg (show ¬ (0 : Int32) ≤ oI none by decide), mgR 65 S (by decide), Option.bind_some, maJ 65 j S (by decide) (show j < 16 by omega), Option.bind_some]
      have em : (0 ≤ lg_cmp (rL h (ar 65) j) 9223372036854775807) ↔ co j = none := by
        have e1 : (0 ≤ lg_cmp (rL h (ar 65) j) 9223372036854775807) ↔ ¬ (lg_cmp (rL h (ar 65) j) 9223372036854775807 < 0) := by rw [iLe, iLt]; omega
        rw [e1, lc_lt, lLt, ej, e9]
        cases hc : co j with
        | none => exact ⟨fun _ => rfl, fun _ => Int.lt_irrefl _⟩
        | some v =>
          have := cb j v hc
          refine ⟨fun z => absurd ?_ z, fun z => by cases z⟩
          show v < 9223372036854775807
          omega
      cases hc : co j with
      | none =>
        rw [if_pos (em.mpr hc), Option.bind_some]
        exact stay (fun v _ h2 => by rw [hc] at h2; cases h2)
      | some v =>
        rw [if_neg (fun z => by rw [em.mp z] at hc; cases hc)]
        have ev : (rL h (ar 65) j).toInt = v := by rw [ej, hc]; rfl
        rcases q with ⟨q1, q2⟩ | ⟨k0, v0, q1, q2, q3, q4, q5⟩
        · rw [q1, if_pos oI_none, Option.bind_some]
          refine ih (j + 1) z (some j) (by omega) (by omega) (Or.inr ⟨j, v, rfl, by omega, hg, hc, fun k u hk hgk hck => ?_⟩)
          by_cases d : k = j
          · subst d
            rw [hc] at hck
            cases hck
            exact Int.le_refl _
          · rw [q2 k (by omega) hgk] at hck
            cases hck
        · have e0 := (cm k0 (by omega)).1
          have ev0 : (rL h (ar 65) k0).toInt = v0 := by rw [e0, q4]; rfl
          have eo : oI (some k0) = nI k0 := rfl
          rw [q1, eo, if_neg (nI_pos (by omega)), Option.bind_some, maJ 65 j S (by decide) (show j < 16 by omega), Option.bind_some, Option.bind_some, maJ 65 k0 S (by decide) (show k0 < 16 by omega), Option.bind_some]
          have el : (0 ≤ lg_cmp (rL h (ar 65) j) (rL h (ar 65) k0)) ↔ v0 ≤ v := by
            have e1 : (0 ≤ lg_cmp (rL h (ar 65) j) (rL h (ar 65) k0)) ↔ ¬ (lg_cmp (rL h (ar 65) j) (rL h (ar 65) k0) < 0) := by rw [iLe, iLt]; omega
            rw [e1, lc_lt, lLt, ev, ev0]
            omega
          by_cases d : v0 ≤ v
          · rw [if_pos (el.mpr d), Option.bind_some]
            have := stay (fun u _ hu => ⟨k0, v0, q1, q4, by rw [hc] at hu; cases hu; exact d⟩)
            rw [q1, eo] at this
            exact this
          · rw [if_neg (fun z => d (el.mp z)), Option.bind_some]
            refine ih (j + 1) z (some j) (by omega) (by omega) (Or.inr ⟨j, v, rfl, by omega, hg, hc, fun k u hk hgk hck => ?_⟩)
            by_cases d2 : k = j
            · subst d2
              rw [hc] at hck
              cases hck
              exact Int.le_refl _
            · have := q5 k u (by omega) hgk hck
              omega
/-- half way along the path: F1, G1 are the pairs, column j is left over -/
def AugI (R C f0 : Nat) (c : Nat → Nat → Int) (tk : Nat → Bool) (F : Nat → Option Nat) (β : Nat → Int) (co : Nat → Option Int) (fr τ : Nat → Nat) (K : Int) (F1 G1 : Nat → Option Nat) (j : Nat) (v : Int) : Prop := MtF R C f0 c tk F1 ∧ (∀ i, F1 i ≠ some j) ∧ (∀ k i, k ≠ j → (G1 k = some i ↔ F1 i = some k)) ∧ (∀ i, F1 i = F i ∨ ∃ j' v', F1 i = some j' ∧ fr j' = i ∧ co j' = some v' ∧ v' + β j' ≤ K ∧ ∃ j0, F i = some j0 ∧ τ j ≤ τ j0) ∧ co j = some v ∧ v + β j ≤ K ∧ ((sF c F1 R : Int) + v = (sF c F R : Int) + K) ∧ nM F1 R = nM F R ∧ (∀ k, (∀ i, F1 i ≠ some k) → k = j ∨ ∀ i, F i ≠ some k)
/-- a whole augmented matching -/
def AugE (R C f0 : Nat) (c : Nat → Nat → Int) (tk : Nat → Bool) (F : Nat → Option Nat) (β : Nat → Int) (co : Nat → Option Int) (fr : Nat → Nat) (K : Int) (F' G' : Nat → Option Nat) : Prop := MtF R C f0 c tk F' ∧ (∀ k i, G' k = some i ↔ F' i = some k) ∧ (∀ i j, F' i = some j → F i = some j ∨ (fr j = i ∧ ∃ v, co j = some v ∧ v + β j ≤ K)) ∧ (∀ i, F' i = none → F i = none) ∧ ((sF c F' R : Int) = (sF c F R : Int) + K) ∧ nM F' R = nM F R + 1 ∧ (∀ k, (∀ i, F' i ≠ some k) → ∀ i, F i ≠ some k)
theorem augM {h : IH} (S : ShM h m ar) (g : GrM h m ar R C c tk) (cm : CoM h ar C co fr) (hF : MtF R C f0 c tk F) (hC : Cert R C f0 c tk F β lam) (b : BFI R C f0 c tk F β lam co fr τ clk) (fx : FixP R C f0 c tk F co) {K : Int} : ∀ (t j z : Nat) (v : Int) (H : IH) (F1 G1 : Nat → Option Nat), τ j ≤ t → t + 1 < z → FM m ar (e1 1267) (e1 1268) (fun i => i = 63 ∨ i = 64) no1 h H → McM H ar F1 G1 → AugI R C f0 c tk F β co fr τ K F1 G1 j v → ∃ H' F' G', s_X12_grows_L359 N z m (nI j) H = some H' ∧ FM m ar (e1 1267) (e1 1268) (fun i => i = 63 ∨ i = 64) no1 h H' ∧ fI H' 1267 m = fI H 1267 m ∧ fL H' 1268 m = fL H 1268 m ∧ McM H' ar F' G' ∧ AugE R C f0 c tk F β co fr K F' G' := by
  have hR16 := g.2.2.1
  have hC16 := g.2.2.2.1
  have row : mRow (fun i => i = 63 ∨ i = 64) := fun i q => by rcases q with q | q <;> subst q <;> decide
  intro t
  induction t using Nat.strongRecOn with
  | _ t ih =>
    intro j z v H F1 G1 ht hz fH mc inv
    obtain ⟨z, rfl⟩ : ∃ y, z = y + 1 := ⟨z - 1, by omega⟩
    obtain ⟨i1, i2, i3, i4, i5, i6, i7, i8, i9⟩ := inv
    have SH := fH.shM S
    obtain ⟨a1, a2, a3, a4, a5, a6, a7, a8, a9, a10, a11⟩ := b j v i5
    have r66' : rI H (ar 66) = rI h (ar 66) := mrI S fH row (by decide) (by omega)
    have ef : rI H (ar 66) j = nI (fr j) := by rw [r66']; exact (cm j a1).2 (by rw [i5]; intro z; cases z)
    -- the row is as it was
    have same : F1 (fr j) = F (fr j) := by
      rcases i4 (fr j) with q | ⟨j', v', q1, q2, q3, q4, j0, q5, q6⟩
      · exact q
      · obtain ⟨v0, h0, r1, r2⟩ := a11 j0 q5
        have hb : bsO c F co (fr j) = some (v0 - c (fr j) j0) := by unfold bsO; rw [q5]; show (co j0).map _ = _; rw [h0]; rfl
        obtain ⟨u, hu, r3⟩ := fx (fr j) j _ a2 a3 a1 a4 a5 hb
        rw [i5] at hu
        cases hu
        have := r2 (by omega)
        omega
    have mc1 := mc.1 (fr j) (by omega)
    have S98 : ∀ q, ShM (setI H (ar 64) q) m ar := fun q => SH
    have ne : ar 63 ≠ ar 64 := fun z => absurd (S.2.2 63 64 (by decide) (by decide) z) (by decide)
    rw [s_X12_grows_L359.eq_2, if_neg (nI_pos (by omega)), mgR 66 SH (by decide), Option.bind_some, maI 66 j SH (by decide) (show j < 16 by omega), Option.bind_some, ef, mgR 64 SH (by decide), Option.bind_some, maI 64 _ SH (by decide) (show fr j < 16 by omega), Option.bind_some, mc1, Option.bind_some, msI 64 _ _ SH (by decide) (show fr j < 16 by omega), Option.bind_some, mgR 63 (S98 _) (by decide), Option.bind_some, msI 63 _ _ (S98 _) (by decide) (show j < 16 by omega), Option.bind_some]
    generalize hH1 : setI (setI H (ar 64) (upd (rI H (ar 64)) (fr j) (nI j))) (ar 63) (upd (rI (setI H (ar 64) (upd (rI H (ar 64)) (fr j) (nI j))) (ar 63)) j (nI (fr j))) = H1
    have f1 : FM m ar (e1 1267) (e1 1268) (fun i => i = 63 ∨ i = 64) no1 H H1 := by
      rw [← hH1]
      exact (Fr.sI _ _ _ ⟨64, Or.inr rfl, rfl⟩).trans (Fr.sI _ _ _ ⟨63, Or.inl rfl, rfl⟩)
    have k67 : fI H1 1267 m = fI H 1267 m := by rw [← hH1]; rfl
    have k68 : fL H1 1268 m = fL H 1268 m := by rw [← hH1]; rfl
    have mc' : McM H1 ar (uF F1 (fr j) j) (uF G1 j (fr j)) := by
      constructor
      · rw [← hH1, rI_setI_ne _ _ (fun z => ne z.symm), rI_setI]
        exact uF_oI _ mc.1
      · rw [← hH1, rI_setI, rI_setI_ne _ _ ne]
        exact uF_oI _ mc.2
    -- the pairs stay a matching
    have mt' : MtF R C f0 c tk (uF F1 (fr j) j) := by
      refine ⟨fun i k hk => ?_, fun i i' k hk hk' => ?_⟩
      · by_cases e : i = fr j
        · rw [e, uF_s] at hk
          cases hk
          rw [e]
          exact ⟨a2, a3, a1, a4⟩
        · rw [uF_n e] at hk
          exact i1.1 i k hk
      · by_cases e : i = fr j
        · by_cases e' : i' = fr j
          · rw [e, e']
          · rw [e, uF_s] at hk
            rw [uF_n e'] at hk'
            cases hk
            exact absurd hk' (i2 i')
        · by_cases e' : i' = fr j
          · rw [e', uF_s] at hk'
            rw [uF_n e] at hk
            cases hk'
            exact absurd hk (i2 i)
          · rw [uF_n e] at hk
            rw [uF_n e'] at hk'
            exact i1.2 i i' k hk hk'
    have su := sm_upd (f := pcs c (uF F1 (fr j) j)) (g := pcs c F1) (k := fr j) (fun i hi => by unfold pcs; rw [uF_n hi]) R a3
    have p1 : pcs c (uF F1 (fr j) j) (fr j) = (c (fr j) j).toNat := by unfold pcs; rw [uF_s]
    rw [p1] at su
    have hc0 := a4.1
    cases hf : F (fr j) with
    | none =>
      have hv := a10 hf
      have ei : oI (F1 (fr j)) = -1 := by rw [same, hf]; rfl
      have p0 : pcs c F1 (fr j) = 0 := by unfold pcs; rw [same, hf]
      obtain ⟨z, rfl⟩ : ∃ y, z = y + 1 := ⟨z - 1, by omega⟩
      rw [ei, s_X12_grows_L359.eq_2, if_pos (by decide)]
      refine ⟨H1, uF F1 (fr j) j, uF G1 j (fr j), rfl, fH.trans f1, k67, k68, mc', mt', fun k i => ?_, fun i k hk => ?_, fun i hi => ?_, ?_, ?_, fun k hk => ?_⟩
      · by_cases e : k = j
        · subst e
          rw [uF_s]
          by_cases d : i = fr k
          · rw [d, uF_s]
            exact ⟨fun _ => rfl, fun _ => rfl⟩
          · rw [uF_n d]
            exact ⟨fun z => absurd (Option.some.inj z).symm d, fun z => absurd z (i2 i)⟩
        · rw [uF_n e]
          by_cases d : i = fr j
          · rw [d, uF_s, i3 k _ e, same, hf]
            exact ⟨fun z => (by cases z), fun z => absurd (Option.some.inj z).symm e⟩
          · rw [uF_n d]
            exact i3 k i e
      · by_cases e : i = fr j
        · rw [e, uF_s] at hk
          cases hk
          exact Or.inr ⟨e.symm, v, i5, i6⟩
        · rw [uF_n e] at hk
          rcases i4 i with q | ⟨j', v', q1, q2, q3, q4, _⟩
          · rw [q] at hk
            exact Or.inl hk
          · rw [q1] at hk
            cases hk
            exact Or.inr ⟨q2, v', q3, q4⟩
      · by_cases e : i = fr j
        · rw [e, uF_s] at hi
          cases hi
        · rw [uF_n e] at hi
          rcases i4 i with q | ⟨j', v', q1, _⟩
          · rw [← q]; exact hi
          · rw [q1] at hi
            cases hi
      · show ((sm (pcs c (uF F1 (fr j) j)) R : Nat) : Int) = _
        have i7' : ((sm (pcs c F1) R : Nat) : Int) + v = (sF c F R : Int) + K := i7
        omega
      · show cnt (fun i => (uF F1 (fr j) j i).isSome) R = _
        rw [cnt_set (p := fun i => (F1 i).isSome) (s := fr j), if_pos a3]
        · show nM F1 R + 1 = _
          rw [i8]
        · show (F1 (fr j)).isSome = false
          rw [same, hf]; rfl
        · show (uF F1 (fr j) j (fr j)).isSome = true
          rw [uF_s]; rfl
        · intro i hi
          show (uF F1 (fr j) j i).isSome = (F1 i).isSome
          rw [uF_n hi]
      · have hk1 : ∀ i, F1 i ≠ some k := fun i z => by
          by_cases e : i = fr j
          · rw [e, same, hf] at z
            cases z
          · exact hk i (by rw [uF_n e]; exact z)
        rcases i9 k hk1 with e | q
        · exact absurd uF_s (e ▸ hk (fr j))
        · exact q
    | some j0 =>
      obtain ⟨v0, h0, r1, r2⟩ := a11 j0 hf
      have hb : bsO c F co (fr j) = some (v0 - c (fr j) j0) := by unfold bsO; rw [hf]; show (co j0).map _ = _; rw [h0]; rfl
      obtain ⟨u, hu, r3⟩ := fx (fr j) j _ a2 a3 a1 a4 a5 hb
      rw [i5] at hu
      cases hu
      have ev : v0 - c (fr j) j0 + c (fr j) j = v := by omega
      have tl := r2 ev
      have nj : j0 ≠ j := fun z => a5 (by rw [hf, z])
      have hl := hF.1 (fr j) j0 hf
      have hc00 := hl.2.2.2.1
      have q1 := hC.2.2.1 (fr j) j0 j hf a1 a4
      have ei : oI (F1 (fr j)) = nI j0 := by rw [same, hf]; rfl
      have p0 : pcs c F1 (fr j) = (c (fr j) j0).toNat := by unfold pcs; rw [same, hf]
      rw [p0] at su
      rw [ei]
      have inv' : AugI R C f0 c tk F β co fr τ K (uF F1 (fr j) j) (uF G1 j (fr j)) j0 v0 := by
        refine ⟨mt', fun i hi => ?_, fun k i hk => ?_, fun i => ?_, h0, by omega, ?_, ?_, fun k hk => ?_⟩
        · by_cases e : i = fr j
          · rw [e, uF_s] at hi
            exact nj (Option.some.inj hi).symm
          · rw [uF_n e] at hi
            exact e (i1.2 i (fr j) j0 hi (by rw [same, hf]))
        · by_cases e : k = j
          · subst e
            rw [uF_s]
            by_cases d : i = fr k
            · rw [d, uF_s]
              exact ⟨fun _ => rfl, fun _ => rfl⟩
            · rw [uF_n d]
              exact ⟨fun z => absurd (Option.some.inj z).symm d, fun z => absurd z (i2 i)⟩
          · rw [uF_n e]
            by_cases d : i = fr j
            · rw [d, uF_s, i3 k _ e, same, hf]
              exact ⟨fun z => absurd (Option.some.inj z).symm hk, fun z => absurd (Option.some.inj z).symm e⟩
            · rw [uF_n d]
              exact i3 k i e
        · by_cases e : i = fr j
          · rw [e, uF_s]
            exact Or.inr ⟨j, v, rfl, rfl, i5, i6, j0, hf, Nat.le_refl _⟩
          · rw [uF_n e]
            rcases i4 i with q | ⟨j', v', z1, z2, z3, z4, j1, z5, z6⟩
            · exact Or.inl q
            · exact Or.inr ⟨j', v', z1, z2, z3, z4, j1, z5, by omega⟩
        · show ((sm (pcs c (uF F1 (fr j) j)) R : Nat) : Int) + v0 = _
          have i7' : ((sm (pcs c F1) R : Nat) : Int) + v = (sF c F R : Int) + K := i7
          omega
        · rw [← i8]
          apply cnt_congr
          intro i _
          show (uF F1 (fr j) j i).isSome = (F1 i).isSome
          by_cases e : i = fr j
          · rw [e, uF_s, same, hf]; rfl
          · rw [uF_n e]
        · by_cases e : k = j0
          · exact Or.inl e
          · have hk1 : ∀ i, F1 i ≠ some k := fun i z => by
              by_cases d : i = fr j
              · rw [d, same, hf] at z
                exact e (Option.some.inj z).symm
              · exact hk i (by rw [uF_n d]; exact z)
            rcases i9 k hk1 with d | q
            · exact absurd uF_s (d ▸ hk (fr j))
            · exact Or.inr q
      obtain ⟨H', F', G', b1, b2, b3, b4, b5, b6⟩ := ih (τ j0) (by omega) j0 z v0 H1 _ _ (Nat.le_refl _) (by omega) (fH.trans f1) mc' inv'
      exact ⟨H', F', G', b1, b2, by rw [b3, k67], by rw [b4, k68], b5, b6⟩
end
