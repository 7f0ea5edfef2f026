/-! ===== the reference: all pairs that there can be, at the least sum ===== -/
def SolI (h : IH) (m : Nat) (ar : Nat → Nat) (R C f0 : Nat) (c : Nat → Nat → Int) (tk : Nat → Bool) (F G : Nat → Option Nat) : Prop := MtF R C f0 c tk F ∧ (∀ k i, G k = some i ↔ F i = some k) ∧ McM h ar F G ∧ fI h 1267 m = nI (nM F R) ∧ (fL h 1268 m).toInt = (sF c F R : Int)
def soR (i : Nat) : Prop := i = 63 ∨ i = 64 ∨ i = 66
abbrev FrS (m : Nat) (ar : Nat → Nat) : IH → IH → Prop := FM m ar (e1 1267) (e1 1268) soR (e1 65)
theorem soR_row : mRow soR := fun i q => by rcases q with q | q | q <;> subst q <;> decide
theorem FrC.toS {m : Nat} {ar : Nat → Nat} {h h' : IH} (x : FrC m ar h h') : FrS m ar h h' := Fr.mono x (fun f a q => q.1.elim) (fun f a q => q.1.elim) (fun a ⟨i, q, y⟩ => ⟨i, Or.inr (Or.inr q), y⟩) (fun a q => q)
section
variable {m : Nat} {ar : Nat → Nat} {N R C f0 : Nat} {c : Nat → Nat → Int} {tk : Nat → Bool} {F G : Nat → Option Nat} {β : Nat → Int} {lam : Int}
theorem sF_bd (hc : ∀ i j, c i j ≤ 3600) (hR : R ≤ 16) : sF c F R ≤ 57600 := by
  have : sF c F R ≤ R * 3600 := sm_bd R (fun i _ => by
    unfold pcs
    split
    · omega
    · rename_i j _
      have := hc i j
      omega)
  have : R * 3600 ≤ 16 * 3600 := Nat.mul_le_mul_right _ hR
  omega
theorem growsM {h : IH} (S : ShM h m ar) (hN : 1000000 ≤ N) (g : GrM h m ar R C c tk) (hf0 : f0 ≤ R) (so : SolI h m ar R C f0 c tk F G) (hC : Cert R C f0 c tk F β lam) (hl : lam ≤ 57600) : ∃ x h', s_X12_grows N h m (nI f0) = some (x, h') ∧ FrS m ar h h' ∧ ((x = 1 ∧ ∃ F' G' β' lam', SolI h' m ar R C f0 c tk F' G' ∧ Cert R C f0 c tk F' β' lam' ∧ lam' ≤ 57600 ∧ nM F' R = nM F R + 1) ∨ (x = 0 ∧ SolI h' m ar R C f0 c tk F G ∧ ∃ β', Cert R C f0 c tk F β' 100000)) := by
  obtain ⟨hF, hG, mc, e67, e68⟩ := so
  have hR16 := g.2.2.1
  have hC16 := g.2.2.2.1
  have hcb := g.2.2.2.2.2.2
  -- all costs are taken away
  have L : ∀ (r j z : Nat) (H : IH), j + r = C → r < z → FrC m ar h H → (∀ k, k < j → (rL H (ar 65) k).toInt = mxL) → ∃ H', s_X12_grows_L2 N z m (nI f0) (nI j) H = some H' ∧ FrC m ar h H' ∧ ∀ k, k < C → (rL H' (ar 65) k).toInt = mxL := by
    intro r
    induction r with
    | zero =>
      intro j z H hj hz fH q
      obtain ⟨z, rfl⟩ : ∃ y, z = y + 1 := ⟨z - 1, by omega⟩
      have SH := fH.shM S
      have gH := GrM.fr S fH r66 r65 g (fun z => z) (fun z => z) (e1n (by decide)) (e1n (by decide))
      have e : fI H (1200 + 58) m = nI C := gH.2.1
      rw [s_X12_grows_L2.eq_2, mgI 58 SH.1, Option.bind_some, e, if_pos (nI_le (by omega) (by omega))]
      exact ⟨H, rfl, fH, fun k hk => q k (by omega)⟩
    | succ r ih =>
      intro j z H hj hz fH q
      obtain ⟨z, rfl⟩ : ∃ y, z = y + 1 := ⟨z - 1, by omega⟩
      have SH := fH.shM S
      have gH := GrM.fr S fH r66 r65 g (fun z => z) (fun z => z) (e1n (by decide)) (e1n (by decide))
      have e : fI H (1200 + 58) m = nI C := gH.2.1
      have S1 : ∀ q, ShM (setJ H (ar 65) q) m ar := fun q => SH
      rw [s_X12_grows_L2.eq_2, mgI 58 SH.1, Option.bind_some, e, if_neg (nI_ge (by omega) (by omega)), mgR 65 SH (by decide), Option.bind_some, msJ 65 j _ SH (by decide) (show j < 16 by omega), Option.bind_some, mgR 66 (S1 _) (by decide), Option.bind_some, msI 66 j _ (S1 _) (by decide) (show j < 16 by omega), Option.bind_some, nI_1]
      refine ih (j + 1) z _ (by omega) (by omega) (fH.trans ((Fr.sJ _ _ _ ⟨65, rfl, rfl⟩).trans (Fr.sI _ _ _ ⟨66, rfl, rfl⟩))) (fun k hk => ?_)
      rw [rL_setI, rL_setJ]
      unfold vp_updL
      by_cases d : k = j
      · rw [if_pos d]
        decide
      · rw [if_neg d]
        exact q k (by omega)
  obtain ⟨H7, e7, f7, q7⟩ := L C 0 N h (by omega) (by omega) (Fr.refl _) (fun k hk => absurd hk (by omega))
  rw [nI_0] at e7
  have cm7 : CoM H7 ar C (fun _ => none) (fun _ => 0) := fun k hk => ⟨q7 k hk, fun z => absurd rfl z⟩
  have b7 : BFI R C f0 c tk F β lam (fun _ => none) (fun _ => 0) (fun _ => 0) 0 := fun j v hv => by cases hv
  have hmu : mu (fun _ => none) C ≤ 16 * 57601 := by
    have k1 : mu (fun _ => none) C ≤ C * 57601 := sm_bd C (fun i _ => Nat.le_refl _)
    exact Nat.le_trans k1 (Nat.mul_le_mul_right _ hC16)
  obtain ⟨H8, co, fr, τ, clk, e8, f8, cm8, b8, m8, fx⟩ := roundsM (N := N) S (by omega) g mc hF hC hf0 (16 * 57601) N H7 _ _ _ 0 hmu (by omega) f7 cm7 b7
  have S8 := f8.shM S
  have g8 := GrM.fr S f8 r66 r65 g (fun z => z) (fun z => z) (e1n (by decide)) (e1n (by decide))
  have mc8 := McM.fr S f8 r66 mc (e1n (by decide)) (e1n (by decide))
  have cb := bfi_bd hC16 b8
  have hGi : ∀ j i, G j = some i → i < 16 := fun j i hj => by have := (hF.1 i j ((hG j i).mp hj)).2.1; omega
  have hGn : ∀ j, G j = none ↔ ∀ i, F i ≠ some j := fun j => by
    constructor
    · intro hj i hi
      rw [(hG j i).mpr hi] at hj
      cases hj
    · intro hj
      cases h : G j with
      | none => rfl
      | some i => exact absurd ((hG j i).mp h) (hj i)
  obtain ⟨o, e9, q9⟩ := bestM (N := N) S8 g8 mc8 cm8 cb hGi C 0 N none (by omega) (by omega) (Or.inl ⟨rfl, fun k hk => absurd hk (by omega)⟩)
  have e9 : s_X12_grows_L262 N N m (-1) 0 H8 = some (oI o) := e9
  unfold s_X12_grows
  rw [e7, Option.bind_some, e8, Option.bind_some, e9, Option.bind_some]
  rcases q9 with ⟨o1, o2⟩ | ⟨k0, K, o1, o2, o3, o4, o5⟩
  · rw [o1, if_neg (show ¬ (0 : Int32) ≤ oI none by decide)]
    refine ⟨0, H8, rfl, f8.toS, Or.inr ⟨rfl, ⟨hF, hG, mc8, ?_, ?_⟩, _, cert_new hF hC b8 fx (K := 100000) (by omega) hF (fun i j h => Or.inl h) (fun i h => h) (fun j hj hn => ⟨hn, fun v hv => ?_⟩)⟩⟩
    · rw [mfI f8 (fun z => z)]; exact e67
    · rw [mfL f8 (fun z => z)]; exact e68
    · rw [o2 j hj ((hGn j).mpr hn)] at hv
      cases hv
  · have eo : oI (some k0) = nI k0 := rfl
    have cK := cb k0 K o4
    have free0 := (hGn k0).mp o3
    have bk := b8 k0 K o4
    have beta0 := hC.2.1 k0 o2 free0
    have e65 : (rL H8 (ar 65) k0).toInt = K := by rw [(cm8 k0 o2).1, o4]; rfl
    have l8 : fL H8 (1200 + 68) m = fL h 1268 m := mfL f8 (fun z => z)
    have hsF := sF_bd (F := F) (fun i j => (hcb i j).2) hR16
    have S89 : ∀ q, ShM (wfL H8 (1200 + 68) m q) m ar := fun q => S8
    have i89 : ∀ q, fI (wfL H8 (1200 + 68) m q) (1200 + 67) m = nI (nM F R) := fun q => by rw [fI_wfL, mfI f8 (fun z => z)]; exact e67
    rw [o1, eo, if_pos (nI_pos' (by omega)), mgL 68 S8.1, Option.bind_some, l8, mgR 65 S8 (by decide), Option.bind_some, maJ 65 k0 S8 (by decide) (show k0 < 16 by omega), Option.bind_some, mpL 68 _ S8.1, Option.bind_some, mgI 67 (S89 _).1, Option.bind_some, i89, nI_1, mpI 67 _ (S89 _).1, Option.bind_some]
    generalize hH : wfI (wfL H8 (1200 + 68) m (fL h 1268 m + rL H8 (ar 65) k0)) (1200 + 67) m (nI (nM F R + 1)) = H91
    have f91 : FM m ar (e1 1267) (e1 1268) (fun i => i = 63 ∨ i = 64) no1 H8 H91 := by
      rw [← hH]
      exact (Fr.wL _ _ _ _ ⟨rfl, rfl⟩).trans (Fr.wI _ _ _ _ ⟨rfl, rfl⟩)
    have mc91 : McM H91 ar F G := by rw [← hH]; exact mc8
    have row : mRow (fun i => i = 63 ∨ i = 64) := fun i q => by rcases q with q | q <;> subst q <;> decide
    obtain ⟨H', F', G', a1, a2, a3, a4, a5, a6⟩ := augM (N := N) S8 g8 cm8 hF hC b8 fx (K := K) (τ k0) k0 N K H91 F G (Nat.le_refl _) (by have := bk.2.2.2.2.2.2.2.2.1; omega) f91 mc91 ⟨hF, free0, fun k i _ => hG k i, fun i => Or.inl rfl, o4, by omega, rfl, rfl, fun k hk => Or.inr hk⟩
    obtain ⟨c1, c2, c3, c4, c5, c6, c7⟩ := a6
    rw [a1, Option.bind_some]
    refine ⟨1, H', rfl, f8.toS.trans (Fr.mono a2 (fun f a q => q) (fun f a q => q) (fun a ⟨i, q, y⟩ => ⟨i, by rcases q with q | q; exact Or.inl q; exact Or.inr (Or.inl q), y⟩) (fun a ⟨i, q, _⟩ => q.elim)), Or.inl ⟨rfl, F', G', _, K, ⟨c1, c2, a5, ?_, ?_⟩, cert_new hF hC b8 fx (K := K) (by have := bk.2.2.2.2.2.1; omega) c1 c3 c4 (fun j hj hn => ⟨c7 j hn, fun v hv => o5 j v hj ((hGn j).mpr (c7 j hn)) hv⟩), by omega, c6⟩⟩
    · rw [a3, ← hH, c6]
      exact fI_wfI _ _ _ _
    · rw [a4, ← hH, c5, fL_wfI]
      have : fL (wfL H8 (1200 + 68) m (fL h 1268 m + rL H8 (ar 65) k0)) 1268 m = fL h 1268 m + rL H8 (ar 65) k0 := fL_wfL _ _ _ _
      rw [this, la (by rw [e68, e65]; omega) (by rw [e68, e65]; omega), e68, e65]
theorem cnt_le_R (F : Nat → Option Nat) : nM F R ≤ R := cnt_le _ _
theorem cert0 (hc : ∀ i j, -1 ≤ c i j) : Cert R C f0 c tk (fun _ => none) (fun _ => 0) 0 := ⟨(fun _ => Int.le_refl _), (fun _ _ _ => rfl), (fun i j0 j h => by cases h), (fun i j0 h => by cases h), (fun i j _ _ _ _ ha => by have := ha.1; show (0 : Int) ≤ c i j + 0; omega), Int.le_refl _⟩
/-- solve: a matching with prices at 100000 -/
theorem solveM {h : IH} (S : ShM h m ar) (hN : 1000000 ≤ N) (g : GrM h m ar R C c tk) (hf0 : f0 ≤ R) : ∃ h' F G, s_X12_solve N h m (nI f0) = some h' ∧ FrS m ar h h' ∧ SolI h' m ar R C f0 c tk F G ∧ ∃ β', Cert R C f0 c tk F β' 100000 := by
  have hR16 := g.2.2.1
  have hC16 := g.2.2.2.1
  have hcb := g.2.2.2.2.2.2
  have ne : ar 63 ≠ ar 64 := fun z => absurd (S.2.2 63 64 (by decide) (by decide) z) (by decide)
  unfold s_X12_solve
  have S1 : ShM (wfI h (1200 + 67) m 0) m ar := S
  rw [mpI 67 _ S.1, Option.bind_some, mpL 68 _ S1.1, Option.bind_some]
  generalize h2e : wfL (wfI h (1200 + 67) m 0) (1200 + 68) m 0 = H2
  have S2 : ShM H2 m ar := by rw [← h2e]; exact S
  have f2 : FrS m ar h H2 := by
    rw [← h2e]
    exact (Fr.wI _ _ _ _ ⟨rfl, rfl⟩).trans (Fr.wL _ _ _ _ ⟨rfl, rfl⟩)
  have i2 : fI H2 1267 m = 0 := by rw [← h2e, fI_wfL]; exact fI_wfI _ _ _ _
  have l2 : fL H2 1268 m = 0 := by rw [← h2e]; exact fL_wfL _ _ _ _
  have row : mRow (fun i => i = 63 ∨ i = 64) := fun i q => by rcases q with q | q <;> subst q <;> decide
  have L : ∀ (r k z : Nat) (H : IH), k + r = 16 → r < z → FM m ar no1 no1 (fun i => i = 63 ∨ i = 64) no1 H2 H → (∀ i, i < k → rI H (ar 63) i = -1 ∧ rI H (ar 64) i = -1) → ∃ H', s_X12_solve_L12 N z m (nI f0) (nI k) H = some H' ∧ FM m ar no1 no1 (fun i => i = 63 ∨ i = 64) no1 H2 H' ∧ ∀ i, i < 16 → rI H' (ar 63) i = -1 ∧ rI H' (ar 64) i = -1 := by
    intro r
    induction r with
    | zero =>
      intro k z H hk hz fH q
      obtain ⟨z, rfl⟩ : ∃ y, z = y + 1 := ⟨z - 1, by omega⟩
      rw [s_X12_solve_L12.eq_2, if_pos (show (16 : Int32) ≤ nI k from nI_le (a := 16) (by omega) (by omega))]
      exact ⟨H, rfl, fH, fun i hi => q i (by omega)⟩
    | succ r ih =>
      intro k z H hk hz fH q
      obtain ⟨z, rfl⟩ : ∃ y, z = y + 1 := ⟨z - 1, by omega⟩
      have SH := fH.shM S2
      have S5 : ∀ q, ShM (setI H (ar 63) q) m ar := fun q => SH
      rw [s_X12_solve_L12.eq_2, if_neg (show ¬ (16 : Int32) ≤ nI k from nI_ge (b := 16) (by omega) (by omega)), mgR 63 SH (by decide), Option.bind_some, msI 63 k _ SH (by decide) (show k < 16 by omega), Option.bind_some, mgR 64 (S5 _) (by decide), Option.bind_some, msI 64 k _ (S5 _) (by decide) (show k < 16 by omega), Option.bind_some, nI_1]
      refine ih (k + 1) z _ (by omega) (by omega) (fH.trans ((Fr.sI _ _ _ ⟨63, Or.inl rfl, rfl⟩).trans (Fr.sI _ _ _ ⟨64, Or.inr rfl, rfl⟩))) (fun i hi => ?_)
      rw [rI_setI_ne _ _ ne, rI_setI, rI_setI, rI_setI_ne _ _ (fun z => ne z.symm)]
      unfold upd
      by_cases d : i = k
      · rw [if_pos d, if_pos d]
        exact ⟨rfl, rfl⟩
      · rw [if_neg d, if_neg d]
        exact q i (by omega)
  obtain ⟨H8, e8, f8, q8⟩ := L 16 0 N H2 (by omega) (by omega) (Fr.refl _) (fun i hi => absurd hi (by omega))
  rw [nI_0] at e8
  rw [e8, Option.bind_some]
  have S8 := f8.shM S2
  have f8' : FrS m ar H2 H8 := Fr.mono f8 (fun f a q => q.1.elim) (fun f a q => q.1.elim) (fun a ⟨i, q, y⟩ => ⟨i, by rcases q with q | q; exact Or.inl q; exact Or.inr (Or.inl q), y⟩) (fun a ⟨i, q, _⟩ => q.elim)
  have fr8 := f2.trans f8'
  have n0 : nM (fun _ => none) R = 0 := by
    have : ∀ k, cnt (fun _ => false) k = 0 := fun k => by
      induction k with
      | zero => rfl
      | succ k ih => show cnt (fun _ => false) k + 0 = 0; rw [ih]
    exact this R
  have so8 : SolI H8 m ar R C f0 c tk (fun _ => none) (fun _ => none) := by
    refine ⟨⟨(fun i j h => by cases h), (fun i i' j h => by cases h)⟩, (fun k i => ⟨(fun h => by cases h), (fun h => by cases h)⟩), ⟨fun i hi => (q8 i hi).2, fun i hi => (q8 i hi).1⟩, ?_, ?_⟩
    · rw [mfI f8 (fun z => z), i2, n0]
      rfl
    · rw [mfL f8 (fun z => z), l2]
      have : sF c (fun _ => none) R = 0 := sm_0 R
      rw [this]
      rfl
  have L2 : ∀ (k z : Nat) (H : IH) (F G : Nat → Option Nat) (β : Nat → Int) (lam : Int), R - nM F R ≤ k → k + 1 < z → FrS m ar h H → SolI H m ar R C f0 c tk F G → Cert R C f0 c tk F β lam → lam ≤ 57600 → ∃ h' F G, s_X12_solve_L40 N z m (nI f0) 1 H = some h' ∧ FrS m ar h h' ∧ SolI h' m ar R C f0 c tk F G ∧ ∃ β', Cert R C f0 c tk F β' 100000 := by
    intro k
    induction k with
    | zero =>
      intro z H F G β lam hk hz fH so hC hl
      obtain ⟨z, rfl⟩ : ∃ y, z = y + 1 + 1 := ⟨z - 2, by omega⟩
      have SH := fH.shM S
      have gH := GrM.fr S fH soR_row r65 g (e1n (by decide)) (e1n (by decide)) (by unfold soR; omega) (e1n (by decide))
      obtain ⟨x, h', e, f, q⟩ := growsM SH hN gH hf0 so hC hl
      rw [s_X12_solve_L40.eq_2, if_neg (by decide), mV12 SH, e, Option.bind_some]
      rcases q with ⟨_, F', _, _, _, _, _, _, q⟩ | ⟨q1, q2, q3⟩
      · have := cnt_le_R (R := R) F'
        have := cnt_le_R (R := R) F
        omega
      · rw [q1, s_X12_solve_L40.eq_2, if_pos rfl]
        exact ⟨h', F, G, rfl, fH.trans f, q2, q3⟩
    | succ k ih =>
      intro z H F G β lam hk hz fH so hC hl
      obtain ⟨z, rfl⟩ : ∃ y, z = y + 1 := ⟨z - 1, by omega⟩
      have SH := fH.shM S
      have gH := GrM.fr S fH soR_row r65 g (e1n (by decide)) (e1n (by decide)) (by unfold soR; omega) (e1n (by decide))
      obtain ⟨x, h', e, f, q⟩ := growsM SH hN gH hf0 so hC hl
      rw [s_X12_solve_L40.eq_2, if_neg (by decide), mV12 SH, e, Option.bind_some]
      rcases q with ⟨q1, F', G', β', lam', q2, q3, q4, q5⟩ | ⟨q1, q2, q3⟩
      · rw [q1]
        exact ih z h' F' G' β' lam' (by omega) (by omega) (fH.trans f) q2 q3 q4
      · obtain ⟨z, rfl⟩ : ∃ y, z = y + 1 := ⟨z - 1, by omega⟩
        rw [q1, s_X12_solve_L40.eq_2, if_pos rfl]
        exact ⟨h', F, G, rfl, fH.trans f, q2, q3⟩
  obtain ⟨h', F, G, e, f, s1, s2⟩ := L2 16 N H8 _ _ _ 0 (by omega) (by omega) fr8 so8 (cert0 (fun i j => (hcb i j).1)) (by omega)
  rw [e, Option.bind_some]
  exact ⟨h', F, G, rfl, f, s1, s2⟩
/-- the worths that the reference's distances stand for -/
def wM (c : Nat → Nat → Int) (i j : Nat) : Nat := if 0 ≤ c i j then (100000 - c i j).toNat else 0
theorem wM_pos (hc : ∀ i j, c i j ≤ 3600) (i j : Nat) : 0 < wM c i j ↔ 0 ≤ c i j := by
  unfold wM
  have := hc i j
  split <;> omega
theorem cert_mx (hc : ∀ i j, c i j ≤ 3600) (hF : MtF R C f0 c tk F) (hC : Cert R C f0 c tk F β 100000) : IsMx (wM c) R C (fun i => decide (f0 ≤ i)) (fun j => !tk j) (100000 * nM F R - sF c F R) ∧ sF c F R ≤ 100000 * nM F R := by
  obtain ⟨c1, c2, c3, c4, c5, c6⟩ := hC
  have mt : IsMt (wM c) R C (fun i => decide (f0 ≤ i)) (fun j => !tk j) F := by
    refine ⟨fun i j h => ?_, hF.2⟩
    obtain ⟨h1, h2, h3, h4, h5⟩ := hF.1 i j h
    exact ⟨h2, h3, decide_eq_true h1, by show (!tk j) = true; rw [h5]; rfl, (wM_pos hc i j).mpr h4⟩
  have y := fun i => (match F i with | none => 0 | some j => (100000 - c i j - β j).toNat : Nat)
  have ub : ∀ i j, i < R → j < C → decide (f0 ≤ i) = true → (!tk j) = true → 0 < wM c i j → wM c i j ≤ (match F i with | none => 0 | some j => (100000 - c i j - β j).toNat : Nat) + (β j).toNat := by
    intro i j hi hj hp hq hw
    have hp := of_decide_eq_true hp
    have hc0 := (wM_pos hc i j).mp hw
    have hcl := hc i j
    have htk : tk j = false := by
      cases h : tk j with
      | false => rfl
      | true => rw [h] at hq; cases hq
    have ha : alw c tk i j := ⟨hc0, htk⟩
    have ew : wM c i j = (100000 - c i j).toNat := by unfold wM; rw [if_pos hc0]
    have b0 := c1 j
    rw [ew]
    cases hf : F i with
    | none =>
      have := c5 i j hp hi hf hj ha
      show _ ≤ 0 + _
      omega
    | some j0 =>
      have q1 := c3 i j0 j hf hj ha
      have q2 := c4 i j0 hf
      show _ ≤ (100000 - c i j0 - β j0).toNat + _
      omega
  have eq := price_eq (w := wM c) (n := R) (c := C) (P := fun i => decide (f0 ≤ i)) (Q := fun j => !tk j) (y := fun i => (match F i with | none => 0 | some j => (100000 - c i j - β j).toNat : Nat)) (β := fun j => (β j).toNat) F mt (fun i j hi hf => by
    obtain ⟨h1, h2, h3, h4, h5⟩ := hF.1 i j hf
    have q2 := c4 i j hf
    have b0 := c1 j
    have ew : wM c i j = (100000 - c i j).toNat := by unfold wM; rw [if_pos h4]
    rw [ew, hf]
    show _ = (100000 - c i j - β j).toNat + (β j).toNat
    omega) (fun i hi hf => by rw [hf]) (fun j hj hn => by
    by_cases q : ∀ i, F i ≠ some j
    · rw [c2 j hj q]; rfl
    · exfalso
      apply q
      intro i hi
      exact hn i (hF.1 i j hi).2.1 hi)
  -- the worth in numbers
  have num : ∀ k, k ≤ R → sm (fun i => wtO (wM c) i (F i)) k + sm (pcs c F) k = 100000 * cnt (fun i => (F i).isSome) k := by
    intro k
    induction k with
    | zero => intro _; rfl
    | succ k ih =>
      intro hk
      have i1 := ih (by omega)
      have e1 : sm (fun i => wtO (wM c) i (F i)) (k + 1) = sm (fun i => wtO (wM c) i (F i)) k + wtO (wM c) k (F k) := rfl
      have e2 : sm (pcs c F) (k + 1) = sm (pcs c F) k + pcs c F k := rfl
      have e3 : cnt (fun i => (F i).isSome) (k + 1) = cnt (fun i => (F i).isSome) k + (if (F k).isSome then 1 else 0) := rfl
      rw [e1, e2, e3]
      cases hf : F k with
      | none =>
        have p0 : pcs c F k = 0 := by unfold pcs; rw [hf]
        have w0 : wtO (wM c) k none = 0 := rfl
        rw [p0, w0]
        simp
        omega
      | some j =>
        obtain ⟨h1, h2, h3, h4, h5⟩ := hF.1 k j hf
        have hcl := hc k j
        have p0 : pcs c F k = (c k j).toNat := by unfold pcs; rw [hf]
        have w0 : wtO (wM c) k (some j) = (100000 - c k j).toNat := by
          show wM c k j = _
          unfold wM
          rw [if_pos h4]
        rw [p0, w0]
        simp
        omega
  have hn := num R (Nat.le_refl _)
  have e4 : wtM (wM c) F R + sF c F R = 100000 * nM F R := hn
  refine ⟨⟨⟨F, mt, by omega⟩, fun M hM => ?_⟩, by omega⟩
  have := price_ub ub M hM
  omega
end
