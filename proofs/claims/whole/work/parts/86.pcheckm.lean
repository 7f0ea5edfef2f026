/-! ===== the reference checks ===== -/
section
variable {m : Nat} {ar : Nat → Nat} {N : Nat} {D : Dt} {s t b R C : Nat} {ρ κ : Nat → Nat}
theorem pw_0 (wP : WgP D) (hb : b < 3) {l j : Nat} (hl : l < 16) (hj : j < 16) (h : rwB D s t b l = false) : pw D s t b l j = 0 := by
  cases c : pw D s t b l j with
  | zero => rfl
  | succ k =>
    have ps := (pw_pos wP.1.2 (show 0 < pw D s t b l j by omega)).1
    rw [dsB_iff, (show eX t b j / 48 = t by unfold eX; omega)] at ps
    exact absurd ps.2.1 (of_decide_eq_false h)
theorem rowsM {h0 : IH} (S : ShM h0 m ar) (hN : 1000000 ≤ N) (wP : WgP D) (hb : b < 3) (hs : s < 12) (ht : t < 12) (hst : s ≠ t) : ∀ (r i z : Nat) (H : IH) (x4 : Int32) (x5 : Int64) (l : Nat), i + r = R → r < z → l ≤ 16 → PaI H h0 m ar D s t b R C ρ κ l x4 x5 → (∀ i', i' < R → (ρ i' < l ↔ i' < i)) → ∃ h', s_X12_pairAll_L27 N z m x4 x5 (nI i) H = some h' ∧ FrPA m ar h0 h' ∧ PrI h' h0 ar D s t b (mtF D s t b) := by
  intro r
  induction r with
  | zero =>
    intro i z H x4 x5 l hi hz hl q hr
    obtain ⟨z, rfl⟩ : ∃ y, z = y + 1 := ⟨z - 1, by omega⟩
    have SH := q.1.shM S
    obtain ⟨f, q1, q2, _, pr, _⟩ := q
    have hR := q1.1.1
    have e57 : fI H (1200 + 57) m = nI R := q1.2.1
    rw [s_X12_pairAll_L27.eq_2, mgI 57 SH.1, Option.bind_some, e57, if_pos (nI_le (by omega) (by omega))]
    refine ⟨H, rfl, f, ?_⟩
    unfold mtF
    have := gS_const (w := pw D s t b) (a := l) (16 - l) (fun l' h1 h2 j hj => pw_0 wP hb (by omega) hj (by
      cases c : rwB D s t b l' with
      | false => rfl
      | true =>
        obtain ⟨i', a1, a2⟩ := q1.1.2.2.2 l' (by omega) c
        have := (hr i' a1).mpr (by omega)
        omega))
    rw [show l + (16 - l) = 16 by omega] at this
    rw [this]
    exact pr
  | succ r ih =>
    intro i z H x4 x5 l hi hz hl q hr
    obtain ⟨z, rfl⟩ : ∃ y, z = y + 1 := ⟨z - 1, by omega⟩
    have SH := q.1.shM S
    have q1 := q.2.1
    have hR := q1.1.1
    have hri := (q1.1.2.1 i (by omega)).1
    have e57 : fI H (1200 + 57) m = nI R := q1.2.1
    have li : l ≤ ρ i := by
      have := hr i (by omega)
      omega
    have eg := gS_const (w := pw D s t b) (a := l) (ρ i - l) (fun l' h1 h2 j hj => pw_0 wP hb (by omega) hj (by
      cases c : rwB D s t b l' with
      | false => rfl
      | true =>
        obtain ⟨i', a1, a2⟩ := q1.1.2.2.2 l' (by omega) c
        have e1 := hr i' a1
        have e2 := q1.1.mono a1 (show i < R by omega)
        omega))
    rw [show l + (ρ i - l) = ρ i by omega] at eg
    have q' : PaI H h0 m ar D s t b R C ρ κ (ρ i) x4 x5 := by
      unfold PaI at q ⊢
      rw [eg]
      exact q
    obtain ⟨y4, y5, H', e', q''⟩ := colM S hN wP hb hs ht hst (show i < R by omega) C 0 N H x4 x5 (by omega) (by have := q.2.2.1.1.1; omega) q' (fun j' hj' => absurd hj' (by omega))
    rw [nI_0] at e'
    rw [s_X12_pairAll_L27.eq_2, mgI 57 SH.1, Option.bind_some, e57, if_neg (nI_ge (by omega) (by omega)), e', Option.bind_some, nI_1]
    refine ih (i + 1) z H' y4 y5 (ρ i + 1) (by omega) (by omega) (by omega) q'' (fun i' hi' => ?_)
    have := q1.1.mono hi' (show i < R by omega)
    have := q1.1.mono (show i < R by omega) hi'
    omega
/-- those of two stations and a band -/
def grp (D : Dt) (s t b e : Nat) : Prop := (e / 16 = 3 * s + b ∧ tgO D e = some t) ∨ (e / 16 = 3 * t + b ∧ tgO D e = some s)
theorem parF_row {e : Nat} (hb : b < 3) (hst : s < t) (h1 : e / 16 = 3 * s + b) (h2 : tgO D e = some t) : parF D e = (mtF D s t b (e % 16)).map (eX t b) := by
  unfold parF
  rw [h2]
  have e1 : e / 48 = s := by omega
  have e2 : e / 16 % 3 = b := by omega
  show (if e / 48 < t then _ else _) = _
  rw [e1, e2, if_pos hst]
theorem parF_col {e : Nat} (hb : b < 3) (hst : s < t) (h1 : e / 16 = 3 * t + b) (h2 : tgO D e = some s) : parF D e = (invC (mtF D s t b) (e % 16)).map (eX s b) := by
  unfold parF
  rw [h2]
  have e1 : e / 48 = t := by omega
  have e2 : e / 16 % 3 = b := by omega
  show (if e / 48 < s then _ else if s < e / 48 then _ else _) = _
  rw [e1, e2, if_neg (by omega), if_pos hst]
theorem pairAllM {h : IH} (S : ShM h m ar) (hN : 1000000 ≤ N) (gL : MgL h m ar D) (gP : MgP h m ar D) (tg : TgM h ar D) (of : OfM h ar D) (w : WgL D) (wn : dn D ≤ 12) (wP : WgP D) (hs : s < dn D) (ht : t < dn D) (hb : b < 3) (hst : s < t) (hp : ∀ e, e < 576 → grp D s t b e → rI h (ar 19) e = -1) : ∃ h', s_X12_pairAll N h m (nI s) (nI t) (nI b) = some h' ∧ FrPA m ar h h' ∧ (∀ e, e < 576 → grp D s t b e → rI h' (ar 19) e = oI (parF D e)) ∧ ∀ e, e < 576 → ¬ grp D s t b e → rI h' (ar 19) e = rI h (ar 19) e := by
  obtain ⟨h1, R, C, ρ, κ, e1, f1, q1, q2, g⟩ := layM (N := N) S (by omega) gL gP tg of w wn wP hs ht hb
  have S1 := f1.shM S
  obtain ⟨h2, M, V, e2, f2, i2, l2, M16, V57, VM, ho⟩ := solveV (N := N) (f0 := 0) (l := 0) (Q := fun _ => true) S1 hN wP g q1.1 q2.1 hb (Nat.zero_le _) (fun i hi => by omega) (fun j hj => rfl)
  have S2 := f2.shM S1
  have i2 : fI h2 (1200 + 67) m = nI M := i2
  have l2 : (fL h2 (1200 + 68) m).toInt = ((V : Nat) : Int) := l2
  have inv0 : ∀ k, invC (fun _ => none) k = none := fun k => fsM_none.mpr (fun l _ => decide_eq_false (fun z => by cases z))
  have pa : PaI h2 h m ar D s t b R C ρ κ 0 (nI M) (fL h2 (1200 + 68) m) := by
    refine ⟨(FrY.toPA f1).trans (FrS.toPA f2), EnR.fr S1 f2 soR_row (by decide) (fun z => by cases z) (fun z => by rcases z with z | z | z <;> cases z) q1, EnR.fr S1 f2 soR_row (by decide) (fun z => by cases z) (fun z => by rcases z with z | z | z <;> cases z) q2, ⟨_, GrM.fr S1 f2 soR_row r65 g (fun z => by cases z) (fun z => by cases z) (fun z => by rcases z with z | z | z <;> cases z) (e1n (by decide)), fun j hj => rfl⟩, fun e he => ?_, M, V, rfl, l2, M16, V57, VM, ho⟩
    rw [mrI S1 f2 soR_row (by decide) (fun z => by rcases z with z | z | z <;> cases z), mrI S f1 laR_row (by decide) (fun z => by rcases z with z | z | z <;> cases z)]
    show _ = if _ then oI none else if _ then oI ((invC (fun _ => none) (e % 16)).map (eX s b)) else _
    rw [inv0]
    by_cases c1 : e / 16 = 3 * s + b ∧ tgO D e = some t
    · rw [if_pos c1, hp e he (Or.inl c1)]; rfl
    · rw [if_neg c1]
      by_cases c2 : e / 16 = 3 * t + b ∧ tgO D e = some s
      · rw [if_pos c2, hp e he (Or.inr c2)]; rfl
      · rw [if_neg c2]
  have hR := q1.1.1
  obtain ⟨h3, e3, f3, p3⟩ := rowsM S hN wP hb (by omega) (by omega) (by omega) R 0 N h2 _ _ 0 (by omega) (by omega) (by omega) pa (fun i' hi' => by omega)
  unfold s_X12_pairAll
  rw [nI_0] at e2 e3
  rw [mV12 S, e1, Option.bind_some, mV12 S1, e2, Option.bind_some, mgI 67 S2.1, Option.bind_some, mgL 68 S2.1, Option.bind_some, i2, e3, Option.bind_some]
  refine ⟨h3, rfl, f3, fun e he ge => ?_, fun e he ge => ?_⟩
  · rw [p3 e he]
    rcases ge with c | c
    · rw [if_pos c, parF_row hb hst c.1 c.2]
    · rw [if_neg (fun z => by have := z.1; have := c.1; omega), if_pos c, parF_col hb hst c.1 c.2]
  · rw [p3 e he, if_neg (fun z => ge (Or.inl z)), if_neg (fun z => ge (Or.inr z))]
/-- where one stands in the order of the pairing -/
def kyE (D : Dt) (e : Nat) : Nat := match tgO D e with
  | none => 0
  | some u => if e / 48 < u then 36 * (e / 48) + 3 * u + e / 16 % 3 else 36 * u + 3 * (e / 48) + e / 16 % 3
theorem kyE_grp (wn : dn D ≤ 12) {e : Nat} (he : e < 576) (hb : b < 3) (hst : s < t) (ht : t < 12) : grp D s t b e ↔ (tgO D e ≠ none ∧ kyE D e = 36 * s + 3 * t + b) := by
  unfold grp kyE
  cases c : tgO D e with
  | none => exact ⟨fun z => (by rcases z with z | z <;> cases z.2), fun z => absurd rfl z.1⟩
  | some u =>
    have hu := (tg_lt c).1
    show _ ↔ (_ ∧ (if e / 48 < u then 36 * (e / 48) + 3 * u + e / 16 % 3 else 36 * u + 3 * (e / 48) + e / 16 % 3) = 36 * s + 3 * t + b)
    constructor
    · rintro (⟨h1, h2⟩ | ⟨h1, h2⟩)
      · cases h2
        refine ⟨(fun z => by cases z), ?_⟩
        rw [if_pos (by omega)]
        omega
      · cases h2
        refine ⟨(fun z => by cases z), ?_⟩
        rw [if_neg (by omega)]
        omega
    · rintro ⟨_, h2⟩
      by_cases d : e / 48 < u
      · rw [if_pos d] at h2
        have : e / 48 = s := by omega
        have : u = t := by omega
        exact Or.inl ⟨by omega, by rw [this]⟩
      · rw [if_neg d] at h2
        have : u = s := by omega
        exact Or.inr ⟨by omega, by rw [this]⟩
theorem parF_no {e : Nat} (h : tgO D e = none ∨ tgO D e = some (e / 48)) : parF D e = none := by
  unfold parF
  rcases h with h | h
  · rw [h]
  · rw [h]
    show (if e / 48 < e / 48 then _ else if e / 48 < e / 48 then _ else none) = none
    rw [if_neg (by omega), if_neg (by omega)]
/-- partners of all that come before -/
def PrK (h : IH) (ar : Nat → Nat) (D : Dt) (c : Nat) : Prop := ∀ e, e < 576 → rI h (ar 19) e = if kyE D e < c then oI (parF D e) else -1
theorem PrK.up {h : IH} {c c' : Nat} (x : PrK h ar D c) (hc : c ≤ c') (hn : ∀ e, e < 576 → c ≤ kyE D e → kyE D e < c' → parF D e = none) : PrK h ar D c' := fun e he => by
  rw [x e he]
  by_cases c1 : kyE D e < c
  · rw [if_pos c1, if_pos (by omega)]
  · rw [if_neg c1]
    by_cases c2 : kyE D e < c'
    · rw [if_pos c2, hn e he (by omega) c2]; rfl
    · rw [if_neg c2]
theorem kyE_gap (wn : dn D ≤ 12) {e c c' : Nat} (he : e < 576) (ce : ctB D e = true → e / 48 < dn D) (h1 : c ≤ kyE D e) (h2 : kyE D e < c') (hg : ∀ lo hi b, lo < hi → hi < dn D → b < 3 → c ≤ 36 * lo + 3 * hi + b → 36 * lo + 3 * hi + b < c' → False) : parF D e = none := by
  cases ct : tgO D e with
  | none => exact parF_no (Or.inl ct)
  | some u =>
    have hu := tg_lt ct
    have h48 := ce hu.2
    by_cases d : u = e / 48
    · exact parF_no (Or.inr (by rw [ct, d]))
    · exfalso
      unfold kyE at h1 h2
      rw [ct] at h1 h2
      have h1 : c ≤ (if e / 48 < u then 36 * (e / 48) + 3 * u + e / 16 % 3 else 36 * u + 3 * (e / 48) + e / 16 % 3) := h1
      have h2 : (if e / 48 < u then 36 * (e / 48) + 3 * u + e / 16 % 3 else 36 * u + 3 * (e / 48) + e / 16 % 3) < c' := h2
      by_cases d2 : e / 48 < u
      · rw [if_pos d2] at h1 h2
        exact hg _ _ _ d2 hu.1 (by omega) h1 h2
      · rw [if_neg d2] at h1 h2
        exact hg u (e / 48) _ (by omega) h48 (by omega) h1 h2
theorem TgM.fr {h h' : IH} {F G Rw Q : Nat → Prop} (S : ShM h m ar) (x : FM m ar F G Rw Q h h') (hR : mRow Rw) (g : TgM h ar D) (r1 : ¬ Rw 18) : TgM h' ar D := fun e he => by rw [mrI S x hR (by decide) r1]; exact g e he
theorem OfM.fr {h h' : IH} {F G Rw Q : Nat → Prop} (S : ShM h m ar) (x : FM m ar F G Rw Q h h') (hQ : mRow Q) (g : OfM h ar D) (q1 : ¬ Q 20) : OfM h' ar D := fun e he => by rw [mrL S x hQ (by decide) q1]; exact g e he
theorem pairsM {h : IH} (S : ShM h m ar) (hN : 1000000 ≤ N) (gS' : MgS h m ar D) (gL : MgL h m ar D) (gP : MgP h m ar D) (tg : TgM h ar D) (of : OfM h ar D) (w : WgL D) (wn : dn D ≤ 12) (wP : WgP D) (h0 : ∀ e, e < 576 → rI h (ar 19) e = -1) : ∃ h', s_X12_check_L58 N N m 0 h = some h' ∧ FrPA m ar h h' ∧ ∀ e, e < 576 → rI h' (ar 19) e = oI (parF D e) := by
  have ce : ∀ e, e < 576 → ctB D e = true → e / 48 < dn D := fun e he c => by have := ct_lt w wn he c; omega
  have no20 : ¬ paQ 20 := fun z => by rcases z with z | z <;> cases z
  have no18 : ¬ paR 18 := fun z => by unfold paR at z; omega
  have L80 : ∀ s t, s < t → t < dn D → ∀ (r b z : Nat) (H : IH), b + r = 3 → r < z → FrPA m ar h H → PrK H ar D (36 * s + 3 * t + b) → ∃ h', s_X12_check_L80 N z m (nI s) (nI t) (nI b) H = some h' ∧ FrPA m ar h h' ∧ PrK h' ar D (36 * s + 3 * t + 3) := by
    intro s t hst ht r
    induction r with
    | zero =>
      intro b z H hb hz f q
      obtain ⟨z, rfl⟩ : ∃ y, z = y + 1 := ⟨z - 1, by omega⟩
      have : b = 3 := by omega
      subst this
      rw [s_X12_check_L80.eq_2, if_pos (by decide)]
      exact ⟨H, rfl, f, q⟩
    | succ r ih =>
      intro b z H hb hz f q
      obtain ⟨z, rfl⟩ : ∃ y, z = y + 1 := ⟨z - 1, by omega⟩
      have SH := f.shM S
      have glH : MgL H m ar D := MgL.fr S f paR_row paQ_row gL (fun k z => by unfold paR at z; omega) (fun k z => by unfold paQ at z; omega)
      have gpH : MgP H m ar D := MgP.fr f gP (fun z => by unfold paF at z; omega) (fun z => by unfold paF at z; omega)
      obtain ⟨h', e', f', p1, p2⟩ := pairAllM (N := N) (b := b) SH hN glH gpH (TgM.fr S f paR_row tg no18) (OfM.fr S f paQ_row of no20) w wn wP (show s < dn D by omega) ht (by omega) hst (fun e he ge => by
        have := (kyE_grp wn he (show b < 3 by omega) hst (by omega)).mp ge
        rw [q e he, if_neg (by omega)])
      rw [s_X12_check_L80.eq_2, if_neg (show ¬ (3 : Int32) ≤ nI b from nI_ge (b := 3) (by omega) (by omega)), mV12 SH, e', Option.bind_some, nI_1]
      refine ih (b + 1) z h' (by omega) (by omega) (f.trans f') (fun e he => ?_)
      by_cases c : grp D s t b e
      · have := (kyE_grp wn he (show b < 3 by omega) hst (by omega)).mp c
        rw [p1 e he c, if_pos (by omega)]
      · rw [p2 e he c, q e he]
        by_cases c1 : kyE D e < 36 * s + 3 * t + b
        · rw [if_pos c1, if_pos (by omega)]
        · rw [if_neg c1]
          by_cases c2 : kyE D e < 36 * s + 3 * t + (b + 1)
          · rw [if_pos c2]
            have hn : tgO D e = none := by
              cases ct : tgO D e with
              | none => rfl
              | some u => exact absurd ((kyE_grp wn he (show b < 3 by omega) hst (by omega)).mpr ⟨(by rw [ct]; exact fun z => (by cases z)), by omega⟩) c
            rw [parF_no (Or.inl hn)]; rfl
          · rw [if_neg c2]
  have L70 : ∀ s, s < dn D → ∀ (r t z : Nat) (H : IH), t + r = dn D → s < t → r < z → FrPA m ar h H → PrK H ar D (36 * s + 3 * t) → ∃ h', s_X12_check_L70 N z m (nI s) (nI t) H = some h' ∧ FrPA m ar h h' ∧ PrK h' ar D (36 * s + 3 * dn D) := by
    intro s hs r
    induction r with
    | zero =>
      intro t z H ht hst hz f q
      obtain ⟨z, rfl⟩ : ∃ y, z = y + 1 := ⟨z - 1, by omega⟩
      have SH := f.shM S
      have e : fI H (1200 + 1) m = nI (dn D) := by rw [mfI f (fun z => by unfold paF at z; omega)]; exact gS'.1
      rw [s_X12_check_L70.eq_2, mgI 1 SH.1, Option.bind_some, e, if_pos (nI_le (by omega) (by omega))]
      have : t = dn D := by omega
      subst this
      exact ⟨H, rfl, f, q⟩
    | succ r ih =>
      intro t z H ht hst hz f q
      obtain ⟨z, rfl⟩ : ∃ y, z = y + 1 := ⟨z - 1, by omega⟩
      have SH := f.shM S
      have e : fI H (1200 + 1) m = nI (dn D) := by rw [mfI f (fun z => by unfold paF at z; omega)]; exact gS'.1
      obtain ⟨h', e', f', p'⟩ := L80 s t hst (by omega) 3 0 N H (by omega) (by omega) f q
      rw [nI_0] at e'
      rw [s_X12_check_L70.eq_2, mgI 1 SH.1, Option.bind_some, e, if_neg (nI_ge (by omega) (by omega)), e', Option.bind_some, nI_1]
      exact ih (t + 1) z h' (by omega) (by omega) (by omega) f' p'
  have L58 : ∀ (r s z : Nat) (H : IH), s + r = dn D → r < z → FrPA m ar h H → PrK H ar D (36 * s + 3 * s) → ∃ h', s_X12_check_L58 N z m (nI s) H = some h' ∧ FrPA m ar h h' ∧ PrK h' ar D (39 * dn D) := by
    intro r
    induction r with
    | zero =>
      intro s z H hs hz f q
      obtain ⟨z, rfl⟩ : ∃ y, z = y + 1 := ⟨z - 1, by omega⟩
      have SH := f.shM S
      have e : fI H (1200 + 1) m = nI (dn D) := by rw [mfI f (fun z => by unfold paF at z; omega)]; exact gS'.1
      rw [s_X12_check_L58.eq_2, mgI 1 SH.1, Option.bind_some, e, if_pos (nI_le (by omega) (by omega))]
      have : s = dn D := by omega
      subst this
      refine ⟨H, rfl, f, ?_⟩
      rw [show 39 * dn D = 36 * dn D + 3 * dn D by omega]
      exact q
    | succ r ih =>
      intro s z H hs hz f q
      obtain ⟨z, rfl⟩ : ∃ y, z = y + 1 := ⟨z - 1, by omega⟩
      have SH := f.shM S
      have e : fI H (1200 + 1) m = nI (dn D) := by rw [mfI f (fun z => by unfold paF at z; omega)]; exact gS'.1
      have q0 : PrK H ar D (36 * s + 3 * (s + 1)) := q.up (by omega) (fun e he h1 h2 => kyE_gap wn he (ce e he) h1 h2 (fun lo hi b a1 a2 a3 a4 a5 => by omega))
      obtain ⟨h', e', f', p'⟩ := L70 s (by omega) (dn D - (s + 1)) (s + 1) N H (by omega) (by omega) (by omega) f q0
      rw [s_X12_check_L58.eq_2, mgI 1 SH.1, Option.bind_some, e, if_neg (nI_ge (by omega) (by omega)), nI_1, e', Option.bind_some]
      refine ih (s + 1) z h' (by omega) (by omega) f' (p'.up (by omega) (fun e he h1 h2 => kyE_gap wn he (ce e he) h1 h2 (fun lo hi b a1 a2 a3 a4 a5 => by omega)))
  obtain ⟨h', e', f', p'⟩ := L58 (dn D) 0 N h (by omega) (by omega) (Fr.refl _) (fun e he => by rw [if_neg (by omega)]; exact h0 e he)
  rw [nI_0] at e'
  refine ⟨h', e', f', fun e he => ?_⟩
  rw [p' e he]
  by_cases c : kyE D e < 39 * dn D
  · rw [if_pos c]
  · rw [if_neg c, kyE_gap wn (c := 39 * dn D) (c' := kyE D e + 1) he (ce e he) (by omega) (by omega) (fun lo hi b a1 a2 a3 a4 a5 => by omega)]
    rfl
/-! the whole check -/
def chF (f : Nat) : Prop := paF f ∨ f = 1217
def chR (i : Nat) : Prop := paR i ∨ i = 18
def chQ (i : Nat) : Prop := paQ i ∨ i = 20
abbrev FrCK (m : Nat) (ar : Nat → Nat) : IH → IH → Prop := FM m ar chF (e1 1268) chR chQ
theorem chR_row : mRow chR := fun i q => by
  rcases q with q | q
  · exact paR_row i q
  · subst q; decide
theorem chQ_row : mRow chQ := fun i q => by
  rcases q with q | q
  · exact paQ_row i q
  · subst q; decide
def PaM (h : IH) (ar : Nat → Nat) (D : Dt) : Prop := ∀ e, e < 576 → rI h (ar 19) e = oI (parF D e)
def CkM (h : IH) (ar : Nat → Nat) (D : Dt) : Prop := TgM h ar D ∧ OfM h ar D ∧ PaM h ar D
def ChM (h : IH) (m : Nat) (ar : Nat → Nat) (D : Dt) : Prop := fI h 1217 m ≠ 0 → CkM h ar D
theorem CkM.fr {h h' : IH} {F G Rw Q : Nat → Prop} (S : ShM h m ar) (x : FM m ar F G Rw Q h h') (hR : mRow Rw) (hQ : mRow Q) (g : CkM h ar D) (r1 : ¬ Rw 18) (r2 : ¬ Rw 19) (q1 : ¬ Q 20) : CkM h' ar D := ⟨TgM.fr S x hR g.1 r1, OfM.fr S x hQ g.2.1 q1, fun e he => by rw [mrI S x hR (by decide) r2]; exact g.2.2 e he⟩
theorem checkM {h : IH} (S : ShM h m ar) (hN : 1000000 ≤ N) (gs : MgS h m ar D) (gL : MgL h m ar D) (gP : MgP h m ar D) (wS : WgS D) (w : WgL D) (wP : WgP D) (ch : ChM h m ar D) : ∃ h', s_X12_check N h m = some h' ∧ FrCK m ar h h' ∧ CkM h' ar D := by
  have wn := wS.1
  unfold s_X12_check
  rw [mgI 17 S.1, Option.bind_some]
  by_cases c : fI h (1200 + 17) m = 0
  · rw [if_pos c, mpZ 17 S.1 (Or.inr rfl), Option.bind_some]
    have f1 : FrCK m ar h (wfI h (1200 + 17) m 1) := Fr.wI _ _ _ _ ⟨Or.inr rfl, rfl⟩
    generalize wfI h (1200 + 17) m 1 = H1 at *
    have S1 := f1.shM S
    have frS : ∀ {H : IH}, FrCK m ar h H → MgS H m ar D := fun f => MgS.fr S f chR_row gs (fun z => by unfold chF paF at z; omega) (fun k z => by unfold chR paR at z; omega)
    have frL : ∀ {H : IH}, FrCK m ar h H → MgL H m ar D := fun f => MgL.fr S f chR_row chQ_row gL (fun k z => by unfold chR paR at z; omega) (fun k z => by unfold chQ paQ at z; omega)
    have frP : ∀ {H : IH}, FrCK m ar h H → MgP H m ar D := fun f => MgP.fr f gP (fun z => by unfold chF paF at z; omega) (fun z => by unfold chF paF at z; omega)
    obtain ⟨H2, e2, f2, t2, p2⟩ := setCalledM (N := N) S1 (by omega) (frS f1) (frL f1) wS w
    rw [mV12 S1, e2, Option.bind_some]
    have fh2 : FrCK m ar h H2 := f1.trans (Fr.mono f2 (fun _ _ q => q.1.elim) (fun _ _ q => q.1.elim) (fun a ⟨i, q, y⟩ => ⟨i, by unfold chR paR; omega, y⟩) (fun a ⟨i, q, y⟩ => q.elim))
    have S2 := fh2.shM S
    have r20 : mRow (e1 20) := fun i z => by cases z; decide
    have no : mRow no1 := fun i z => z.elim
    have L : ∀ (r s z : Nat) (H : IH), s + r = dn D → r < z → FM m ar no1 no1 no1 (e1 20) H2 H → (∀ u, u < s → (rL H (ar 20) u).toInt = offX D u ∧ -11000000000 ≤ offX D u ∧ offX D u ≤ 11000000000) → ∃ h', s_X12_check_L19 N z m (nI s) H = some h' ∧ FM m ar no1 no1 no1 (e1 20) H2 h' ∧ OfM h' ar D := by
      intro r
      induction r with
      | zero =>
        intro s z H hs hz f q
        obtain ⟨z, rfl⟩ : ∃ y, z = y + 1 := ⟨z - 1, by omega⟩
        have SH := f.shM S2
        have e : fI H (1200 + 1) m = nI (dn D) := by rw [mfI f (fun z => z)]; exact (frS fh2).1
        rw [s_X12_check_L19.eq_2, mgI 1 SH.1, Option.bind_some, e, if_pos (nI_le (by omega) (by omega))]
        exact ⟨H, rfl, f, fun u hu => q u (by omega)⟩
      | succ r ih =>
        intro s z H hs hz f q
        obtain ⟨z, rfl⟩ : ∃ y, z = y + 1 := ⟨z - 1, by omega⟩
        have SH := f.shM S2
        have e : fI H (1200 + 1) m = nI (dn D) := by rw [mfI f (fun z => z)]; exact (frS fh2).1
        have fh : FrCK m ar h H := fh2.trans (Fr.mono f (fun _ _ q => q.1.elim) (fun _ _ q => q.1.elim) (fun a ⟨i, q, y⟩ => q.elim) (fun a ⟨i, q, y⟩ => ⟨i, Or.inr q, y⟩))
        have val : ∃ v, ((if bI (hlB D s) = 0 then some 0 else (cV H 12 (some m) fun a11 => s_X12_offsetOf N H a11 (nI s)).bind fun v10 => some v10) : Option Int64) = some v ∧ v.toInt = offX D s ∧ -11000000000 ≤ offX D s ∧ offX D s ≤ 11000000000 := by
          cases hl : hlB D s with
          | false =>
            rw [if_pos (show bI false = 0 from rfl), offX_nolog w wn (show s < dn D by omega) hl]
            exact ⟨0, rfl, rfl, by decide, by decide⟩
          | true =>
            obtain ⟨v, e1, e2, e3, e4⟩ := offsetM (N := N) SH (by omega) (frS fh) (frL fh) (frP fh) (TgM.fr S2 f no t2 (fun z => z)) wS w wP (show s < dn D by omega)
            rw [if_neg (show ¬ bI true = 0 by decide), mV12 SH, e1, Option.bind_some, off_eq w wn wP s]
            exact ⟨v, rfl, e2, by omega, by omega⟩
        obtain ⟨v, ev, e1, e2⟩ := val
        rw [s_X12_check_L19.eq_2, mgI 1 SH.1, Option.bind_some, e, if_neg (nI_ge (by omega) (by omega)), mgR 20 SH (by decide), Option.bind_some, mV12 SH, hasLogM SH (frS fh) (frL fh) wS w (show s < dn D by omega), Option.bind_some, ev, Option.bind_some, msJ 20 s _ SH (by decide) (show s < 12 by omega), Option.bind_some, nI_1]
        refine ih (s + 1) z _ (by omega) (by omega) (f.trans (Fr.sJ _ _ _ ⟨20, rfl, rfl⟩)) (fun u hu => ?_)
        rw [rL_setJ]
        unfold vp_updL
        by_cases d : u = s
        · rw [if_pos d, d]; exact ⟨e1, e2⟩
        · rw [if_neg d]; exact q u (by omega)
    obtain ⟨H3, e3, f3, o3⟩ := L (dn D) 0 N H2 (by omega) (by omega) (Fr.refl _) (fun u hu => absurd hu (by omega))
    rw [nI_0] at e3
    rw [e3, Option.bind_some]
    have fh3 : FrCK m ar h H3 := fh2.trans (Fr.mono f3 (fun _ _ q => q.1.elim) (fun _ _ q => q.1.elim) (fun a ⟨i, q, y⟩ => q.elim) (fun a ⟨i, q, y⟩ => ⟨i, Or.inr q, y⟩))
    have S3 := fh3.shM S
    have t3 := TgM.fr S2 f3 no t2 (fun z => z)
    obtain ⟨H4, e4, f4, p4⟩ := pairsM S3 hN (frS fh3) (frL fh3) (frP fh3) t3 o3 w wn wP (fun e he => by rw [mrI S2 f3 no (by decide) (fun z => z)]; exact p2 e he)
    rw [e4, Option.bind_some]
    refine ⟨H4, rfl, fh3.trans (Fr.mono f4 (fun f a q => ⟨Or.inl q.1, q.2⟩) (fun f a q => q) (fun a ⟨i, q, y⟩ => ⟨i, Or.inl q, y⟩) (fun a ⟨i, q, y⟩ => ⟨i, Or.inl q, y⟩)), TgM.fr S3 f4 paR_row t3 (fun z => by unfold paR at z; omega), OfM.fr S3 f4 paQ_row o3 (fun z => by unfold paQ at z; omega), p4⟩
  · rw [if_neg c]
    exact ⟨h, rfl, Fr.refl _, ch c⟩
end
