/-! ===== calls as numbers; who has a call; stations by their numbers ===== -/
theorem cvN_snoc (b : Nat → Int32) : ∀ r k v, cvN b (r + 1) k v = cvN b r k v * 256 + (b (k + r)).toInt.toNat := by
  intro r
  induction r with
  | zero => intro k v; rfl
  | succ r ih =>
    intro k v
    have e1 : cvN b (r + 1 + 1) k v = cvN b (r + 1) (k + 1) (v * 256 + (b k).toInt.toNat) := rfl
    have e2 : cvN b (r + 1) k v = cvN b r (k + 1) (v * 256 + (b k).toInt.toNat) := rfl
    rw [e1, e2, ih, show k + 1 + r = k + (r + 1) by omega]
theorem allB_snoc {p : Int32 → Bool} {b : Nat → Int32} {r k : Nat} (h : allB p b (r + 1) k = true) : allB p b r k = true ∧ p (b (k + r)) = true := by
  rw [allB_all] at h
  exact ⟨(allB_all r k).mpr (fun j hj => h j (by omega)), h r (by omega)⟩
def cEq (l : Nat) (b : Nat → Int32) (l' : Nat) (b' : Nat → Int32) : Prop := l = l' ∧ ∀ k, k < l → b k = b' k
theorem cvN_inj {b b' : Nat → Int32} : ∀ l l', allB clB b l 0 = true → allB clB b' l' 0 = true → cvN b l 0 0 = cvN b' l' 0 0 → cEq l b l' b' := by
  intro l
  induction l with
  | zero =>
    intro l' _ h2 h3
    cases l' with
    | zero => exact ⟨rfl, fun k hk => absurd hk (by omega)⟩
    | succ r =>
      rw [cvN_snoc] at h3
      have := clB_bd (allB_snoc h2).2
      have e : cvN b 0 0 0 = 0 := rfl
      omega
  | succ l ih =>
    intro l' h1 h2 h3
    have c1 := clB_bd (allB_snoc h1).2
    cases l' with
    | zero =>
      rw [cvN_snoc] at h3
      have e : cvN b' 0 0 0 = 0 := rfl
      omega
    | succ r =>
      have c2 := clB_bd (allB_snoc h2).2
      rw [cvN_snoc, cvN_snoc] at h3
      simp only [Nat.zero_add] at h3 c1 c2
      have d1 : (b l).toInt.toNat < 256 := by omega
      have d2 : (b' r).toInt.toNat < 256 := by omega
      have q : cvN b l 0 0 = cvN b' r 0 0 := by omega
      have q2 : (b l).toInt.toNat = (b' r).toInt.toNat := by omega
      obtain ⟨e1, e2⟩ := ih r (allB_snoc h1).1 (allB_snoc h2).1 q
      subst e1
      refine ⟨rfl, fun k hk => ?_⟩
      by_cases hk2 : k = l
      · subst hk2
        exact iEq.mpr (by omega)
      · exact e2 k (by omega)
theorem calV_N {b : Nat → Int32} {l : Nat} (hl : l ≤ 6) (h : allB clB b l 0 = true) : calV b l 0 0 = Int64.ofNat (cvN b l 0 0) ∧ cvN b l 0 0 < 281474976710656 := by
  have e := calV_eq b l 0 0 0 0 rfl (by decide) (by omega) h
  have e2 : 256 ^ (l + 0) ≤ 256 ^ 6 := Nat.pow_le_pow_right (by decide) (by omega)
  have e3 : 256 ^ 6 = 281474976710656 := by decide
  exact ⟨e.1, by omega⟩
theorem calV_sh {b b' : Nat → Int32} : ∀ r k k' v, (∀ j, j < r → b (k + j) = b' (k' + j)) → calV b r k v = calV b' r k' v := by
  intro r
  induction r with
  | zero => intro k k' v _; rfl
  | succ r ih =>
    intro k k' v hb
    unfold calV
    have e := hb 0 (by omega)
    rw [Nat.add_zero, Nat.add_zero] at e
    rw [e, ih (k + 1) (k' + 1) _ (fun j hj => by have := hb (j + 1) (by omega); rw [show k + 1 + j = k + (j + 1) by omega, show k' + 1 + j = k' + (j + 1) by omega]; exact this)]
theorem allB_sh {p : Int32 → Bool} {b b' : Nat → Int32} {r k k' : Nat} (h : ∀ j, j < r → b (k + j) = b' (k' + j)) (h2 : allB p b r k = true) : allB p b' r k' = true := by
  rw [allB_all] at h2 ⊢
  intro j hj
  rw [← h j hj]
  exact h2 j hj
theorem calV_inj {b b' : Nat → Int32} {l l' : Nat} (hl : l ≤ 6) (hl' : l' ≤ 6) (h1 : allB clB b l 0 = true) (h2 : allB clB b' l' 0 = true) : calV b l 0 0 = calV b' l' 0 0 ↔ cEq l b l' b' := by
  constructor
  · intro q
    have e1 := calV_N hl h1
    have e2 := calV_N hl' h2
    rw [e1.1, e2.1] at q
    have q := congrArg Int64.toInt q
    rw [Int64.toInt_ofNat_of_lt (by omega), Int64.toInt_ofNat_of_lt (by omega)] at q
    exact cvN_inj l l' h1 h2 (by omega)
  · intro ⟨e, q⟩
    subst e
    exact calV_sh l 0 0 0 (fun j hj => by rw [Nat.zero_add]; exact q j hj)
/-! the least number that has something -/
def lst (p : Nat → Bool) : Nat → Nat → Option Nat
  | 0, _ => none
  | r + 1, k => if p k then some k else lst p r (k + 1)
def oI (o : Option Nat) : Int32 := match o with
  | none => -1
  | some s => nI s
theorem lst_congr {p q : Nat → Bool} : ∀ r k, (∀ j, k ≤ j → j < k + r → p j = q j) → lst p r k = lst q r k := by
  intro r
  induction r with
  | zero => intro k _; rfl
  | succ r ih =>
    intro k h
    unfold lst
    rw [h k (by omega) (by omega), ih (k + 1) (fun j h1 h2 => h j (by omega) (by omega))]
theorem lst_some {p : Nat → Bool} : ∀ r k s, lst p r k = some s → k ≤ s ∧ s < k + r ∧ p s = true := by
  intro r
  induction r with
  | zero => intro k s h; cases h
  | succ r ih =>
    intro k s h
    unfold lst at h
    by_cases c : p k = true
    · rw [if_pos c] at h
      cases h
      exact ⟨by omega, by omega, c⟩
    · rw [if_neg c] at h
      have := ih (k + 1) s h
      exact ⟨by omega, by omega, this.2.2⟩
theorem lst_none {p : Nat → Bool} : ∀ r k, lst p r k = none → ∀ j, k ≤ j → j < k + r → p j = false := by
  intro r
  induction r with
  | zero => intro k _ j h1 h2; omega
  | succ r ih =>
    intro k h j h1 h2
    unfold lst at h
    by_cases c : p k = true
    · rw [if_pos c] at h
      cases h
    · rw [if_neg c] at h
      by_cases e : j = k
      · subst e
        exact Bool.eq_false_iff.mpr c
      · exact ih (k + 1) h j (by omega) (by omega)
theorem oI_bd {o : Option Nat} (h : ∀ s, o = some s → s < 1000) : -1 ≤ (oI o).toInt ∧ (oI o).toInt < 1000 := by
  cases o with
  | none => exact ⟨by decide, by decide⟩
  | some s =>
    have := h s rfl
    show -1 ≤ (nI s).toInt ∧ (nI s).toInt < 1000
    rw [nIt (by omega)]
    omega
theorem oI_some {s : Nat} (hs : s < 1000000) : ¬ oI (some s) < 0 := nI_pos (by omega)
theorem oI_none : oI none < 0 := by decide
theorem oI_m1 {o : Option Nat} (h : ∀ s, o = some s → s < 1000000) : oI o = -1 ↔ o = none := by
  cases o with
  | none => exact ⟨fun _ => rfl, fun _ => rfl⟩
  | some s =>
    have := h s rfl
    refine ⟨fun z => ?_, fun z => by cases z⟩
    have z : nI s = -1 := z
    have z := congrArg Int32.toInt z
    rw [nIt (by omega)] at z
    have : (-1 : Int32).toInt = -1 := rfl
    omega
theorem oI_inj {o : Option Nat} {t : Nat} (h : ∀ s, o = some s → s < 1000000) (ht : t < 1000000) : oI o = nI t ↔ o = some t := by
  cases o with
  | none =>
    refine ⟨fun z => ?_, fun z => by cases z⟩
    have z : (-1 : Int32) = nI t := z
    have z := congrArg Int32.toInt z
    rw [nIt (by omega)] at z
    have : (-1 : Int32).toInt = -1 := rfl
    omega
  | some s =>
    have := h s rfl
    constructor
    · intro z
      have z : nI s = nI t := z
      rw [(nI_eq (by omega) (by omega)).mp z]
    · intro z
      cases z
      rfl
/-! stations -/
theorem stC {D : Dt} (w : dn D ≤ 12) (a : Int32) : (∃ s, s < dn D ∧ a = nI s) ∨ ¬ (0 ≤ a ∧ a < nI (dn D)) := by
  by_cases q : 0 ≤ a ∧ a < nI (dn D)
  · have e := clampI q.1
    have h2 := iLt.mp q.2
    have h3 := Int32.toNatClampNeg_lt a
    rw [e, nIt (n := a.toNatClampNeg) (by omega), nIt (n := dn D) (by omega)] at h2
    exact Or.inl ⟨a.toNatClampNeg, by omega, e⟩
  · exact Or.inr q
theorem stIn {D : Dt} (w : dn D ≤ 12) {s : Nat} (hs : s < dn D) : 0 ≤ nI s ∧ nI s < nI (dn D) := ⟨nI_pos' (by omega), nI_lt hs (by omega)⟩
theorem atX {h : IH} {A : Nat → Nat} {n : Nat} (S : ShX h A n) {D : Dt} (g : XgS h A D) (hn : n = dn D) {s : Nat} (hs : s < dn D) : s_X7_at h (A 3) (nI s) = some (some (A (100 + s))) := by
  subst hn
  have h0 := S.1
  unfold s_X7_at
  simp only [if_neg (nI_pos (n := s) (by omega)), gX7_1 S, g.1, Option.bind_some, if_neg (nI_ge hs (by omega)), gX7_0 S, rX4 S hs]
theorem atX0 {h : IH} {A : Nat → Nat} {n : Nat} (S : ShX h A n) {D : Dt} (g : XgS h A D) {a : Int32} (q : ¬ (0 ≤ a ∧ a < nI (dn D))) : s_X7_at h (A 3) a = some none := by
  unfold s_X7_at
  by_cases q1 : 0 ≤ a
  · have q2 : nI (dn D) ≤ a := Decidable.byContradiction (fun z => q ⟨q1, (ltge a _).mpr z⟩)
    simp only [if_neg (fun z => (lt0 a).mp z q1), gX7_1 S, g.1, Option.bind_some, if_pos q2]
  · rw [if_pos ((lt0 a).mpr q1), Option.bind_some]
theorem isStationM {h : IH} {m : Nat} {ar : Nat → Nat} (S : ShM h m ar) {D : Dt} (g : MgS h m ar D) (w : dn D ≤ 12) (a : Int32) : s_X12_isStation h m a = some (if 0 ≤ a ∧ a < nI (dn D) then 1 else 0) := by
  unfold s_X12_isStation
  rw [mgI 1 S.1, Option.bind_some, g.1, isInP h a (by omega), Option.bind_some, z01]
/-- the station that has the call, if one has -/
def withC (D : Dt) (l : Nat) (b : Nat → Int32) : Option Nat := lst (fun s => decide (calV (dcb D s) (dcl D s) 0 0 = calV b l 0 0)) (dn D) 0
theorem numberOfX {h : IH} {A : Nat → Nat} {n : Nat} (S : ShX h A n) {D : Dt} {N : Nat} (hN : 2000 ≤ N) (g : XgS h A D) (hn : n = dn D) (l : Nat) (b : Nat → Int32) : s_X7_numberOf N h (A 3) (calV b l 0 0) = some (oI (withC D l b)) := by
  subst hn
  have h0 := S.1
  have H : ∀ r k z, k + r = dn D → r < z → s_X7_numberOf_L2 N z (A 3) (calV b l 0 0) (nI k) h = some (match lst (fun s => decide (calV (dcb D s) (dcl D s) 0 0 = calV b l 0 0)) r k with | none => .inr () | some s => .inl (nI s)) := by
    intro r
    induction r with
    | zero =>
      intro k z hk hz
      obtain ⟨z, rfl⟩ : ∃ y, z = y + 1 := ⟨z - 1, by omega⟩
      rw [s_X7_numberOf_L2.eq_2, gX7_1 S, Option.bind_some, g.1, if_pos (nI_le (by omega) (by omega))]
      rfl
    | succ r ih =>
      intro k z hk hz
      obtain ⟨z, rfl⟩ : ∃ y, z = y + 1 := ⟨z - 1, by omega⟩
      have hs := g.2 k (by omega)
      rw [s_X7_numberOf_L2.eq_2, gX7_1 S, Option.bind_some, g.1, if_neg (nI_ge (by omega) (by omega)), gX7_0 S, Option.bind_some, rX4 S (by omega), Option.bind_some, gX9_4 S (by omega), Option.bind_some, hs.2.2.2.2.1, nI_1]
      unfold lst
      rw [ih (k + 1) z (by omega) (by omega)]
      by_cases c : calV (dcb D k) (dcl D k) 0 0 = calV b l 0 0
      · rw [if_pos ((lc_eq _ _).mpr c), if_pos (decide_eq_true c)]
      · rw [if_neg (fun z => c ((lc_eq _ _).mp z)), if_neg (fun z => c (of_decide_eq_true z))]
  unfold s_X7_numberOf withC
  have e := H (dn D) 0 N (by omega) (by omega)
  rw [nI_0] at e
  rw [e, Option.bind_some]
  cases lst (fun s => decide (calV (dcb D s) (dcl D s) 0 0 = calV b l 0 0)) (dn D) 0 <;> rfl
theorem hasCallM {h : IH} {m : Nat} {ar : Nat → Nat} (S : ShM h m ar) {D : Dt} {N : Nat} (hN : 2000 ≤ N) (g : MgS h m ar D) (w : WgS D) {s r f l : Nat} (hs : s < dn D) (hk : mKd r = 20) (hl : l ≤ 6) (hf : f + l ≤ mSz r) {b : Nat → Int32} (hb : ∀ k, k < l → rI h (ar r) (f + k) = b k) (h1 : allB clB b l 0 = true) : s_X12_hasCall N h m (nI s) (some (ar r)) (nI f) (nI l) = some (if calV (dcb D s) (dcl D s) 0 0 = calV b l 0 0 then 1 else 0) := by
  have hn := w.1
  have ws := w.2.1 s hs
  have gs := g.2.1 s hs
  have hz := mSz_all r
  have hi := calV_inj ws.2.2.2.2.2.1 hl ws.2.2.2.2.2.2 h1
  have H0 : ∀ k z, 0 < z → s_X12_hasCall_L21 N z m (nI s) (some (ar r)) (nI f) (nI l) 0 (nI k) h = some 0 := by
    intro k z hz
    obtain ⟨z, rfl⟩ : ∃ y, z = y + 1 := ⟨z - 1, by omega⟩
    rw [s_X12_hasCall_L21.eq_2, if_pos (show (0 : Int32) = 0 from rfl)]
    split <;> rfl
  have H : ∀ r1 k z, dcl D s = l → k + r1 = l → r1 < z → s_X12_hasCall_L21 N z m (nI s) (some (ar r)) (nI f) (nI l) 1 (nI k) h = some (if ∀ j, j < l → k ≤ j → dcb D s j = b j then 1 else 0) := by
    intro r1
    induction r1 with
    | zero =>
      intro k z _ hk hz
      obtain ⟨z, rfl⟩ : ∃ y, z = y + 1 := ⟨z - 1, by omega⟩
      rw [s_X12_hasCall_L21.eq_2, if_pos (nI_le (by omega) (by omega)), if_pos (fun j h1 h2 => by omega)]
    | succ r1 ih =>
      intro k z hq hk2 hz
      obtain ⟨z, rfl⟩ : ∃ y, z = y + 1 := ⟨z - 1, by omega⟩
      rw [s_X12_hasCall_L21.eq_2, if_neg (nI_ge (by omega) (by omega)), if_neg (by decide), mgR 7 S (by decide), Option.bind_some, show (6 : Int32) = nI 6 from rfl, nI_mul, nI_add, maI 7 _ S (by decide) (show 6 * s + k < 72 by omega), Option.bind_some, nI_add, maI r _ S hk (by omega), Option.bind_some, gs.2.2.2.2.2 k (by omega), hb k (by omega), nI_1]
      by_cases c : dcb D s k = b k
      · rw [if_pos c, Option.bind_some, ih (k + 1) z hq (by omega) (by omega)]
        congr 1
        by_cases d : ∀ j, j < l → k + 1 ≤ j → dcb D s j = b j
        · rw [if_pos d, if_pos (fun j h1 h2 => by
            by_cases e : j = k
            · rw [e]; exact c
            · exact d j h1 (by omega))]
        · rw [if_neg d, if_neg (fun z => d (fun j h1 h2 => z j h1 (by omega)))]
      · rw [if_neg c, Option.bind_some, H0 (k + 1) z (by omega), if_neg (fun z => c (z k (by omega) (Nat.le_refl k)))]
  unfold s_X12_hasCall
  rw [mgR 6 S (by decide), Option.bind_some, maI 6 _ S (by decide) (show s < 12 by omega), Option.bind_some, gs.2.2.2.2.1]
  by_cases c : dcl D s = l
  · rw [if_pos (by rw [c]), Option.bind_some]
    have e := H l 0 N c (by omega) (by omega)
    rw [nI_0] at e
    rw [e, Option.bind_some, z01]
    congr 1
    by_cases d : ∀ j, j < l → 0 ≤ j → dcb D s j = b j
    · rw [if_pos d, if_pos (hi.mpr ⟨c, fun k hk => d k (by omega) (by omega)⟩)]
    · rw [if_neg d, if_neg (fun z => d (fun j h2 _ => (hi.mp z).2 j (by omega)))]
  · rw [if_neg (fun z => c ((nI_eq (by omega) (by omega)).mp z)), Option.bind_some]
    have e := H0 0 N (by omega)
    rw [nI_0] at e
    rw [e, Option.bind_some, if_pos (Or.inl rfl), if_neg (fun z => c (hi.mp z).1)]
theorem withCallM {h : IH} {m : Nat} {ar : Nat → Nat} (S : ShM h m ar) {D : Dt} {N : Nat} (hN : 2000 ≤ N) (g : MgS h m ar D) (w : WgS D) {r f l : Nat} (hk : mKd r = 20) (hl : l ≤ 6) (hf : f + l ≤ mSz r) {b : Nat → Int32} (hb : ∀ k, k < l → rI h (ar r) (f + k) = b k) (h1 : allB clB b l 0 = true) : s_X12_withCall N h m (some (ar r)) (nI f) (nI l) = some (oI (withC D l b)) := by
  have hn := w.1
  have H : ∀ r1 k z, k + r1 = dn D → r1 < z → ∀ x4 : Int32, (∀ s, s < k → calV (dcb D s) (dcl D s) 0 0 ≠ calV b l 0 0) ∧ x4 = -1 ∨ (∃ s, s < k ∧ calV (dcb D s) (dcl D s) 0 0 = calV b l 0 0 ∧ x4 = nI s) → ∃ v, s_X12_withCall_L6 N z m (some (ar r)) (nI f) (nI l) x4 (nI k) h = some v ∧ ((∀ s, s < dn D → calV (dcb D s) (dcl D s) 0 0 ≠ calV b l 0 0) ∧ v = -1 ∨ (∃ s, s < dn D ∧ calV (dcb D s) (dcl D s) 0 0 = calV b l 0 0 ∧ v = nI s)) := by
    intro r1
    induction r1 with
    | zero =>
      intro k z hk1 hz x4 hx
      obtain ⟨z, rfl⟩ : ∃ y, z = y + 1 := ⟨z - 1, by omega⟩
      rw [s_X12_withCall_L6.eq_2, mgI 1 S.1, Option.bind_some, g.1, if_pos (nI_le (by omega) (by omega))]
      have : k = dn D := by omega
      subst this
      exact ⟨x4, rfl, hx⟩
    | succ r1 ih =>
      intro k z hk1 hz x4 hx
      obtain ⟨z, rfl⟩ : ∃ y, z = y + 1 := ⟨z - 1, by omega⟩
      rw [s_X12_withCall_L6.eq_2, mgI 1 S.1, Option.bind_some, g.1, if_neg (nI_ge (by omega) (by omega)), mV12 S, hasCallM S hN g w (by omega) hk hl hf hb h1, Option.bind_some, ite01, nI_1]
      by_cases c : calV (dcb D k) (dcl D k) 0 0 = calV b l 0 0
      · rw [if_pos c, Option.bind_some]
        exact ih (k + 1) z (by omega) (by omega) _ (Or.inr ⟨k, by omega, c, rfl⟩)
      · rw [if_neg c, Option.bind_some]
        refine ih (k + 1) z (by omega) (by omega) _ ?_
        rcases hx with ⟨h1, h2⟩ | ⟨s, h1, h2, h3⟩
        · refine Or.inl ⟨fun s hs => ?_, h2⟩
          by_cases e : s = k
          · rw [e]; exact c
          · exact h1 s (by omega)
        · exact Or.inr ⟨s, by omega, h2, h3⟩
  unfold s_X12_withCall withC
  obtain ⟨v, e, q⟩ := H (dn D) 0 N (by omega) (by omega) (-1) (Or.inl ⟨fun s hs => absurd hs (by omega), rfl⟩)
  rw [nI_0] at e
  rw [e, Option.bind_some]
  congr 1
  cases hl : lst (fun s => decide (calV (dcb D s) (dcl D s) 0 0 = calV b l 0 0)) (dn D) 0 with
  | none =>
    have := lst_none _ _ hl
    rcases q with ⟨_, h2⟩ | ⟨s, h1, h2, _⟩
    · exact h2
    · exact absurd h2 (of_decide_eq_false (this s (by omega) (by omega)))
  | some t =>
    have ht := lst_some _ _ _ hl
    have ht2 := of_decide_eq_true ht.2.2
    rcases q with ⟨h1, _⟩ | ⟨s, h1, h2, h3⟩
    · exact absurd ht2 (h1 t (by omega))
    · have := w.2.2.1 s t h1 (by omega) (h2.trans ht2.symm)
      rw [h3, this]
      rfl
