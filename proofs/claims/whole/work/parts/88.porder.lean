/-! ===== the class puts contacts in order ===== -/
theorem cmpJ (h : IH) (a b : Int32) : ∃ v, s_J6_compare_7cf53 h a b = some v ∧ (v = 0 ↔ a.toInt = b.toInt) ∧ (0 ≤ v ↔ b.toInt ≤ a.toInt) := by
  unfold s_J6_compare_7cf53
  by_cases c : b ≤ a
  · have c' := iLe.mp c
    by_cases d : a = b
    · rw [if_pos c, if_pos d, Option.bind_some]
      exact ⟨0, rfl, ⟨fun _ => by rw [d], fun _ => rfl⟩, ⟨fun _ => c', fun _ => by decide⟩⟩
    · rw [if_pos c, if_neg d, Option.bind_some]
      exact ⟨1, rfl, ⟨fun z => absurd z (by decide), fun z => absurd (Int32.toInt_inj.mp z) d⟩, ⟨fun _ => c', fun _ => by decide⟩⟩
  · have c' : ¬ b.toInt ≤ a.toInt := fun z => c (iLe.mpr z)
    rw [if_neg c, Option.bind_some]
    exact ⟨-1, rfl, ⟨fun z => absurd z (by decide), fun z => absurd (by omega) c'⟩, ⟨fun z => absurd z (by decide), fun z => absurd z c'⟩⟩
theorem aheadX {h : IH} {A : Nat → Nat} {n : Nat} (S : ShX h A n) {D : Dt} (g : XgL h A D) (hn : n = dn D) {c d : Nat} (hc : c / 16 < 3 * dn D) (hd : d / 16 < 3 * dn D) (cc : ctB D c = true) (cd : ctB D d = true) (tn : Bool) : ∃ v, s_X6_isAhead h (some (A (1000 + c))) (some (A (1000 + d))) (bI tn) = some v ∧ (v = 0 ↔ ¬ ltK (keyE D tn c) (keyE D tn d)) := by
  subst hn
  have kc := kEn S hc
  have kd' := kEn S hd
  have gc := (enX g hc cc)
  have gd := (enX g hd cd)
  have c4 : fI h (100 * 2 + 4) (A (1000 + c)) = dsn D c := (gc.2.2.2 (ct_in cc).2).2.1
  have c5 : fI h (100 * 2 + 5) (A (1000 + c)) = dgt D c := (gc.2.2.2 (ct_in cc).2).2.2
  have d4 : fI h (100 * 2 + 4) (A (1000 + d)) = dsn D d := (gd.2.2.2 (ct_in cd).2).2.1
  have d5 : fI h (100 * 2 + 5) (A (1000 + d)) = dgt D d := (gd.2.2.2 (ct_in cd).2).2.2
  have c1 : fL h (100 * 2 + 1) (A (1000 + c)) = dmo D c := gc.2.1 (by rw [(ct_in cc).2]; decide)
  have d1 : fL h (100 * 2 + 1) (A (1000 + d)) = dmo D d := gd.2.1 (by rw [(ct_in cd).2]; decide)
  obtain ⟨v4, e4, p4, q4⟩ := cmpJ h (dsn D c) (dsn D d)
  obtain ⟨v5, e5, p5, q5⟩ := cmpJ h (dgt D c) (dgt D d)
  have mo : (0 ≤ lg_cmp (dmo D c) (dmo D d)) ↔ ¬ (dmo D c).toInt < (dmo D d).toInt := by
    have e : (0 ≤ lg_cmp (dmo D c) (dmo D d)) ↔ ¬ (lg_cmp (dmo D c) (dmo D d) < 0) := by rw [iLe, iLt]; omega
    rw [e, lc_lt, lLt]
  -- first and second number
  have fin : ∀ (x y : Int32) (a1 a2 b1 b2 : Int), (x = 0 ↔ a1 = b1) → (0 ≤ x ↔ b1 ≤ a1) → (y = 0 ↔ a2 = b2) → (0 ≤ y ↔ b2 ≤ a2) → ∃ v, (((if x = 0 then if y = 0 then (some (dmo D c) : Option Int64).bind fun v14 => (some (dmo D d) : Option Int64).bind fun v15 => if 0 ≤ (lg_cmp v14 v15) then some 0 else some 1 else if 0 ≤ y then some 0 else some 1 else if 0 ≤ x then some 0 else some 1) : Option (Int32)).bind fun q19 => if q19 = 0 ∨ q19 = 1 then some q19 else none) = some v ∧ (v = 0 ↔ ¬ ltK (a1, a2, (dmo D c).toInt) (b1, b2, (dmo D d).toInt)) := by
    intro x y a1 a2 b1 b2 h1 h2 h3 h4
    unfold ltK
    dsimp only
    by_cases x0 : x = 0
    · have := h1.mp x0
      rw [if_pos x0]
      by_cases y0 : y = 0
      · have := h3.mp y0
        rw [if_pos y0, Option.bind_some, Option.bind_some]
        by_cases m0 : 0 ≤ lg_cmp (dmo D c) (dmo D d)
        · have := mo.mp m0
          rw [if_pos m0, Option.bind_some, if_pos (Or.inl rfl)]
          exact ⟨0, rfl, ⟨fun _ => by omega, fun _ => rfl⟩⟩
        · have this : ¬ ¬ (dmo D c).toInt < (dmo D d).toInt := fun z => m0 (mo.mpr z)
          rw [if_neg m0, Option.bind_some, if_pos (Or.inr rfl)]
          exact ⟨1, rfl, ⟨fun z => absurd z (by decide), fun z => absurd (by omega) this⟩⟩
      · have y1 : ¬ a2 = b2 := fun z => y0 (h3.mpr z)
        rw [if_neg y0]
        by_cases m0 : 0 ≤ y
        · have := h4.mp m0
          rw [if_pos m0, Option.bind_some, if_pos (Or.inl rfl)]
          exact ⟨0, rfl, ⟨fun _ => by omega, fun _ => rfl⟩⟩
        · have this : ¬ b2 ≤ a2 := fun z => m0 (h4.mpr z)
          rw [if_neg m0, Option.bind_some, if_pos (Or.inr rfl)]
          exact ⟨1, rfl, ⟨fun z => absurd z (by decide), fun z => absurd (by omega) this⟩⟩
    · have x1 : ¬ a1 = b1 := fun z => x0 (h1.mpr z)
      rw [if_neg x0]
      by_cases m0 : 0 ≤ x
      · have := h2.mp m0
        rw [if_pos m0, Option.bind_some, if_pos (Or.inl rfl)]
        exact ⟨0, rfl, ⟨fun _ => by omega, fun _ => rfl⟩⟩
      · have this : ¬ b1 ≤ a1 := fun z => m0 (h2.mpr z)
        rw [if_neg m0, Option.bind_some, if_pos (Or.inr rfl)]
        exact ⟨1, rfl, ⟨fun z => absurd z (by decide), fun z => absurd (by omega) this⟩⟩
  unfold s_X6_isAhead keyE
  rw [if_neg (show ¬ some (A (1000 + d)) = none from fun z => by cases z), gI_ok (c := 2) 4 kc, Option.bind_some, gI_ok (c := 2) 4 kd', Option.bind_some, c4, d4, e4, Option.bind_some, gI_ok (c := 2) 5 kc, Option.bind_some, gI_ok (c := 2) 5 kd', Option.bind_some, c5, d5, e5, Option.bind_some, gL_ok (c := 2) 1 kc, gL_ok (c := 2) 1 kd', c1, d1]
  cases tn with
  | false =>
    rw [if_pos (show bI false = 0 from rfl), if_pos (show bI false = 0 from rfl), Option.bind_some, Option.bind_some, if_neg (show ¬ (false = true) by decide), if_neg (show ¬ (false = true) by decide)]
    exact fin v4 v5 _ _ _ _ p4 q4 p5 q5
  | true =>
    rw [if_neg (show ¬ bI true = 0 by decide), if_neg (show ¬ bI true = 0 by decide), Option.bind_some, Option.bind_some, if_pos (show true = true from rfl), if_pos (show true = true from rfl)]
    exact fin v5 v4 _ _ _ _ p5 q5 p4 q4
/-! an order grows -/
def insF (f : Nat → Nat) (p k : Nat) : Nat → Nat := fun i => if i < p then f i else if i = p then k else f (i - 1)
theorem OrdL.skip {D : Dt} {tn : Bool} {s t b k n : Nat} {f : Nat → Nat} (x : OrdL D tn s t b k n f) (h : orB D s t b k = false) : OrdL D tn s t b (k + 1) n f := by
  refine ⟨by have := x.1; omega, fun i hi => ⟨by have := (x.2.1 i hi).1; omega, (x.2.1 i hi).2⟩, x.2.2.1, fun l hl hp => ?_, x.2.2.2.2⟩
  by_cases c : l = k
  · rw [c, h] at hp; cases hp
  · exact x.2.2.2.1 l (by omega) hp
theorem OrdL.skips {D : Dt} {tn : Bool} {s t b n : Nat} {f : Nat → Nat} : ∀ r k, OrdL D tn s t b k n f → (∀ l, k ≤ l → l < k + r → orB D s t b l = false) → OrdL D tn s t b (k + r) n f := by
  intro r
  induction r with
  | zero => intro k x _; exact x
  | succ r ih =>
    intro k x h
    rw [show k + (r + 1) = (k + 1) + r by omega]
    exact ih (k + 1) (x.skip (h k (by omega) (by omega))) (fun l h1 h2 => h l (by omega) (by omega))
theorem OrdL.ins {D : Dt} {tn : Bool} {s t b k n p : Nat} {f : Nat → Nat} (x : OrdL D tn s t b k n f) (h : orB D s t b k = true) (hp : p ≤ n) (h1 : ∀ i, i < p → leK (keyE D tn (eX s b (f i))) (keyE D tn (eX s b k))) (h2 : ∀ i, p ≤ i → i < n → ltK (keyE D tn (eX s b k)) (keyE D tn (eX s b (f i)))) : OrdL D tn s t b (k + 1) (n + 1) (insF f p k) := by
  have e1 : ∀ i, i < p → insF f p k i = f i := fun i hi => if_pos hi
  have e2 : insF f p k p = k := by unfold insF; rw [if_neg (by omega), if_pos rfl]
  have e3 : ∀ i, p < i → insF f p k i = f (i - 1) := fun i hi => by unfold insF; rw [if_neg (by omega), if_neg (by omega)]
  have lt_le : ∀ a b : Int × Int × Int, ltK a b → leK a b := fun a b h => by unfold ltK at h; unfold leK; omega
  refine ⟨by have := x.1; omega, fun i hi => ?_, fun i j hi hj he => ?_, fun l hl hq => ?_, fun i j hij hj => ?_⟩
  · rcases (show i < p ∨ i = p ∨ p < i by omega) with c | c | c
    · rw [e1 i c]; exact ⟨by have := (x.2.1 i (by omega)).1; omega, (x.2.1 i (by omega)).2⟩
    · rw [c, e2]; exact ⟨by omega, h⟩
    · rw [e3 i c]; exact ⟨by have := (x.2.1 (i - 1) (by omega)).1; omega, (x.2.1 (i - 1) (by omega)).2⟩
  · rcases (show i < p ∨ i = p ∨ p < i by omega) with c | c | c <;> rcases (show j < p ∨ j = p ∨ p < j by omega) with d | d | d
    · rw [e1 i c, e1 j d] at he; exact x.2.2.1 i j (by omega) (by omega) he
    · rw [e1 i c, d, e2] at he; have := (x.2.1 i (by omega)).1; omega
    · rw [e1 i c, e3 j d] at he; have := x.2.2.1 i (j - 1) (by omega) (by omega) he; omega
    · rw [c, e2, e1 j d] at he; have := (x.2.1 j (by omega)).1; omega
    · omega
    · rw [c, e2, e3 j d] at he; have := (x.2.1 (j - 1) (by omega)).1; omega
    · rw [e3 i c, e1 j d] at he; have := x.2.2.1 (i - 1) j (by omega) (by omega) he; omega
    · rw [e3 i c, d, e2] at he; have := (x.2.1 (i - 1) (by omega)).1; omega
    · rw [e3 i c, e3 j d] at he; have := x.2.2.1 (i - 1) (j - 1) (by omega) (by omega) he; omega
  · by_cases c : l = k
    · exact ⟨p, by omega, by rw [e2, c]⟩
    · obtain ⟨i, a1, a2⟩ := x.2.2.2.1 l (by omega) hq
      by_cases d : i < p
      · exact ⟨i, by omega, by rw [e1 i d, a2]⟩
      · exact ⟨i + 1, by omega, by rw [e3 (i + 1) (by omega), Nat.add_sub_cancel, a2]⟩
  · rcases (show i < p ∨ i = p ∨ p < i by omega) with c | c | c <;> rcases (show j < p ∨ j = p ∨ p < j by omega) with d | d | d
    · rw [e1 i c, e1 j d]; exact x.2.2.2.2 i j hij (by omega)
    · rw [e1 i c, d, e2]; exact h1 i c
    · rw [e1 i c, e3 j d]; exact x.2.2.2.2 i (j - 1) (by omega) (by omega)
    · omega
    · omega
    · rw [c, e2, e3 j d]; exact lt_le _ _ (h2 (j - 1) (by omega) (by omega))
    · omega
    · omega
    · rw [e3 i c, e3 j d]; exact x.2.2.2.2 (i - 1) (j - 1) (by omega) (by omega)
theorem lX16 {h : IH} {A : Nat → Nat} {n : Nat} (S : ShX h A n) {i : Nat} (hi : i = 20 ∨ i = 21) : lnO h (some (A i)) = some 16 := by
  have h3 : kd h (A i) = 20 ∧ ln h (A i) = 16 := by
    rcases hi with q | q <;> subst q
    · obtain ⟨a, b, _⟩ := lA1 S (i := 20) (k := 20) (z := 16) (by decide) (by decide) (by decide) (by decide) (by decide)
      exact ⟨a, b⟩
    · obtain ⟨a, b, _⟩ := lA1 S (i := 21) (k := 20) (z := 16) (by decide) (by decide) (by decide) (by decide) (by decide)
      exact ⟨a, b⟩
  show (if 20 ≤ kd h (A i) ∧ kd h (A i) < 27 then some (nI (ln h (A i))) else none) = some 16
  rw [if_pos (by omega), h3.2]
  rfl
section
variable {A : Nat → Nat} {n N s t b ord : Nat} {D : Dt} {tn : Bool}
/-- one is brought to its place -/
theorem insX {h : IH} (S : ShX h A n) (hn : n = dn D) (gL : XgL h A D) (w : WgL D) (ho : ord = 20 ∨ ord = 21) (hs : s < dn D) (hb : b < 3) {k m : Nat} {f : Nat → Nat} (x : OrdL D tn s t b k m f) (hk : k < 16) (ck : ctB D (eX s b k) = true) (y1 y4 y5 : Int32) : ∀ (r a z : Nat) (H : IH), a = r → a ≤ m → r < z → FX A no1 no1 (e1 ord) no1 h H → (∀ i, i < a → rI H (A ord) i = nI (f i)) → (∀ i, a ≤ i → i < m → rI H (A ord) (i + 1) = nI (f i) ∧ ltK (keyE D tn (eX s b k)) (keyE D tn (eX s b (f i)))) → ∃ p h', s_X6_putInOrder_L59 N z (some (A (200 + (3 * s + b)))) y1 (some (A ord)) (bI tn) y4 y5 (some (A (1000 + eX s b k))) (nI a) H = some (nI p, h') ∧ p ≤ m ∧ FX A no1 no1 (e1 ord) no1 h h' ∧ (∀ i, i < p → rI h' (A ord) i = nI (f i) ∧ leK (keyE D tn (eX s b (f i))) (keyE D tn (eX s b k))) ∧ (∀ i, p ≤ i → i < m → rI h' (A ord) (i + 1) = nI (f i) ∧ ltK (keyE D tn (eX s b k)) (keyE D tn (eX s b (f i)))) := by
  subst hn
  have h12 := S.1
  have kx : ord < 90 ∧ KX ord = 20 ∧ LX ord < 4000 ∧ LX ord = 16 := by rcases ho with q | q <;> subst q <;> decide
  have lq : lvQ (dn D) (3 * s + b) := Or.inl (by omega)
  have nle : ∀ a b : Int × Int × Int, ¬ ltK a b → leK b a := fun a b h => by unfold ltK at h; unfold leK; omega
  have tr : ∀ a b c : Int × Int × Int, leK a b → leK b c → leK a c := fun a b c h1 h2 => by unfold leK at h1 h2 ⊢; omega
  have m16 := x.1
  intro r
  induction r with
  | zero =>
    intro a z H ha hm hz fr q1 q2
    obtain ⟨z, rfl⟩ : ∃ y, z = y + 1 := ⟨z - 1, by omega⟩
    subst ha
    rw [s_X6_putInOrder_L59.eq_2, if_pos (by decide)]
    exact ⟨0, H, rfl, by omega, fr, fun i hi => absurd hi (by omega), fun i h1 h2 => q2 i h1 h2⟩
  | succ r ih =>
    intro a z H ha hm hz fr q1 q2
    obtain ⟨z, rfl⟩ : ∃ y, z = y + 1 := ⟨z - 1, by omega⟩
    subst ha
    have SH := fr.shX S
    have gH : XgL H A D := gL.fr fr (fun f z => z.elim) (fun f z => z.elim)
    have fr1 := x.2.1 r (by omega)
    have hl : f r < 16 := by omega
    have cd : ctB D (eX s b (f r)) = true := by
      have := fr1.2
      unfold orB at this
      rw [Bool.and_eq_true, decide_eq_true_iff] at this
      exact (tg_lt this.1).2
    have e16 : eX s b (f r) / 16 < 3 * dn D := by unfold eX; omega
    have k16 : eX s b k / 16 < 3 * dn D := by unfold eX; omega
    obtain ⟨v, ev, hv⟩ := aheadX SH gH rfl k16 e16 ck cd tn
    have n0 : ¬ nI (r + 1) ≤ 0 := by
      rw [← nI_0]
      exact nI_ge (by omega) (by omega)
    have em : nI (r + 1) - 1 = nI r := by rw [show (1 : Int32) = nI 1 from rfl, nI_sub (by omega)]; rfl
    have ca := contactX SH gH w rfl (show 3 * s + b < 3 * dn D by omega) hl
    rw [if_pos (show ctB D (16 * (3 * s + b) + f r) = true from cd)] at ca
    rw [s_X6_putInOrder_L59.eq_2, if_neg n0, em, aXI SH ord kx.1 kx.2.1 kx.2.2.1 (show r < LX ord by omega), Option.bind_some, q1 r (by omega), vX4 SH lq, ca, Option.bind_some]
    show ∃ p h', ((s_X6_isAhead H (some (A (1000 + eX s b k))) (some (A (1000 + eX s b (f r)))) (bI tn)).bind _) = _ ∧ _
    rw [ev, Option.bind_some]
    by_cases c : v = 0
    · rw [if_pos c]
      refine ⟨r + 1, H, rfl, hm, fr, fun i hi => ⟨q1 i hi, ?_⟩, fun i h1 h2 => q2 i h1 h2⟩
      have l1 := nle _ _ (hv.mp c)
      by_cases d : i = r
      · rw [d]; exact l1
      · exact tr _ _ _ (x.2.2.2.2 i r (by omega) (by omega)) l1
    · rw [if_neg c, Option.bind_some, sXI SH ord _ kx.1 kx.2.1 kx.2.2.1 (show r + 1 < LX ord by omega), Option.bind_some, nI_m1]
      have lt : ltK (keyE D tn (eX s b k)) (keyE D tn (eX s b (f r))) := Classical.not_not.mp (fun z => c (hv.mpr z))
      refine ih r z _ rfl (by omega) (by omega) (fr.trans (Fr.sI _ _ _ ⟨ord, rfl, rfl⟩)) (fun i hi => ?_) (fun i h1 h2 => ?_)
      · rw [rI_setI]
        unfold upd
        rw [if_neg (by omega)]
        exact q1 i (by omega)
      · rw [rI_setI]
        unfold upd
        by_cases d : i = r
        · rw [if_pos (by omega), d]
          exact ⟨rfl, lt⟩
        · rw [if_neg (by omega)]
          exact q2 i (by omega) h2
theorem orderX {h : IH} (S : ShX h A n) (hN : 2000 ≤ N) (hn : n = dn D) (gL : XgL h A D) (w : WgL D) (tg : TgX h A D) (ho : ord = 20 ∨ ord = 21) (hs : s < dn D) (ht : t < dn D) (hb : b < 3) : ∃ h' c f, s_X6_putInOrder N h (some (A (200 + (3 * s + b)))) (nI t) (some (A ord)) (bI tn) = some (nI c, h') ∧ FX A no1 no1 (e1 ord) no1 h h' ∧ OrdL D tn s t b 16 c f ∧ ∀ i, i < c → rI h' (A ord) i = nI (f i) := by
  subst hn
  have h12 := S.1
  have kx : ord < 90 ∧ KX ord = 20 ∧ LX ord < 4000 ∧ LX ord = 16 := by rcases ho with q | q <;> subst q <;> decide
  have lq : lvQ (dn D) (3 * s + b) := Or.inl (by omega)
  have w16 := (w.1 (3 * s + b) (by omega)).1
  have L : ∀ (r k z c : Nat) (f : Nat → Nat) (H : IH), k + r = dsz D (3 * s + b) → r < z → FX A no1 no1 (e1 ord) no1 h H → OrdL D tn s t b k c f → (∀ i, i < c → rI H (A ord) i = nI (f i)) → ∃ h' c' f', s_X6_putInOrder_L6 N z (some (A (200 + (3 * s + b)))) (nI t) (some (A ord)) (bI tn) (nI c) (nI k) H = some (nI c', h') ∧ FX A no1 no1 (e1 ord) no1 h h' ∧ OrdL D tn s t b 16 c' f' ∧ ∀ i, i < c' → rI h' (A ord) i = nI (f' i) := by
    intro r
    induction r with
    | zero =>
      intro k z c f H hk hz fr x q
      obtain ⟨z, rfl⟩ : ∃ y, z = y + 1 := ⟨z - 1, by omega⟩
      have SH := fr.shX S
      have gH : XgL H A D := gL.fr fr (fun f z => z.elim) (fun f z => z.elim)
      rw [s_X6_putInOrder_L6.eq_2, gX4_1 SH lq, Option.bind_some, (gH _ (by omega)).2.1, if_pos (nI_le (by omega) (by omega))]
      refine ⟨H, c, f, rfl, fr, ?_, q⟩
      have := OrdL.skips (16 - k) k x (fun l h1 h2 => by
        unfold orB
        rw [decide_eq_false (fun z => by
          have := ct_in (tg_lt z).2
          have e1 : eX s b l % 16 = l := by unfold eX; omega
          have e2 : eX s b l / 16 = 3 * s + b := by unfold eX; omega
          rw [e1, e2] at this
          omega)]
        rfl)
      rw [show k + (16 - k) = 16 by omega] at this
      exact this
    | succ r ih =>
      intro k z c f H hk hz fr x q
      obtain ⟨z, rfl⟩ : ∃ y, z = y + 1 := ⟨z - 1, by omega⟩
      have SH := fr.shX S
      have gH : XgL H A D := gL.fr fr (fun f z => z.elim) (fun f z => z.elim)
      have tH : TgX H A D := tg.fr fr (fun z => z)
      have c16 := x.1
      have k16 : (16 * (3 * s + b) + k) / 16 < 3 * dn D := by omega
      rw [s_X6_putInOrder_L6.eq_2, gX4_1 SH lq, Option.bind_some, (gH _ (by omega)).2.1, if_neg (nI_ge (by omega) (by omega)), lX16 SH ho, Option.bind_some, if_neg (show ¬ (16 : Int32) ≤ nI k from nI_ge (b := 16) (by omega) (by omega)), vX4 SH lq, contactX SH gH w rfl (by omega) (show k < 16 by omega), Option.bind_some, nI_1 k]
      have skip : orB D s t b k = false → ∃ h' c' f', s_X6_putInOrder_L6 N z (some (A (200 + (3 * s + b)))) (nI t) (some (A ord)) (bI tn) (nI c) (nI (k + 1)) H = some (nI c', h') ∧ FX A no1 no1 (e1 ord) no1 h h' ∧ OrdL D tn s t b 16 c' f' ∧ ∀ i, i < c' → rI h' (A ord) i = nI (f' i) := fun hx => ih (k + 1) z c f H (by omega) (by omega) fr (x.skip hx) q
      by_cases c1 : ctB D (16 * (3 * s + b) + k) = true
      · have kD := kEn SH k16
        have e6 : fI H (100 * 2 + 6) (A (1000 + (16 * (3 * s + b) + k))) = oI (tgO D (16 * (3 * s + b) + k)) := tH _ k16 c1
        have inj := oI_inj (o := tgO D (16 * (3 * s + b) + k)) (t := t) (fun u hu => by have := (tg_lt hu).1; omega) (by omega)
        rw [if_pos c1, if_neg (show ¬ some (A (1000 + (16 * (3 * s + b) + k))) = none from fun z => by cases z), gI_ok (c := 2) 6 kD, Option.bind_some, e6]
        by_cases c2 : tgO D (16 * (3 * s + b) + k) = some t
        · rw [if_pos (inj.mpr c2), cV_ok (c := 2) _ kD, complX SH gH w rfl k16 c1, Option.bind_some]
          cases c3 : whB D (16 * (3 * s + b) + k) with
          | false =>
            rw [if_pos (show bI false = 0 from rfl), Option.bind_some]
            exact skip (by unfold orB; rw [show whB D (eX s b k) = false from c3, Bool.and_false])
          | true =>
            have hor : orB D s t b k = true := by unfold orB; rw [show whB D (eX s b k) = true from c3, decide_eq_true (show tgO D (eX s b k) = some t from c2)]; rfl
            obtain ⟨p, h1, e1', hp, f1, p1, p2⟩ := insX (N := N) SH rfl gH w ho hs hb x (by omega) (show ctB D (eX s b k) = true from c1) (nI t) (nI c) (nI k) c c N H rfl (Nat.le_refl _) (by omega) (Fr.refl _) q (fun i h1 h2 => absurd h2 (by omega))
            have e1' : s_X6_putInOrder_L59 N N (some (A (200 + (3 * s + b)))) (nI t) (some (A ord)) (bI tn) (nI c) (nI k) (some (A (1000 + (16 * (3 * s + b) + k)))) (nI c) H = some (nI p, h1) := e1'
            have S1 := f1.shX SH
            rw [if_neg (show ¬ bI true = 0 by decide), e1', Option.bind_some, sXI S1 ord _ kx.1 kx.2.1 kx.2.2.1 (show p < LX ord by omega), Option.bind_some, Option.bind_some, nI_1 c]
            refine ih (k + 1) z (c + 1) (insF f p k) _ (by omega) (by omega) ((fr.trans f1).trans (Fr.sI _ _ _ ⟨ord, rfl, rfl⟩)) (x.ins hor hp (fun i hi => (p1 i hi).2) (fun i h1 h2 => (p2 i h1 h2).2)) (fun i hi => ?_)
            rw [rI_setI]
            unfold upd insF
            rcases (show i < p ∨ i = p ∨ p < i by omega) with d | d | d
            · rw [if_neg (by omega), if_pos d]
              exact (p1 i d).1
            · rw [if_pos d, if_neg (by omega), if_pos d]
            · rw [if_neg (by omega), if_neg (by omega), if_neg (by omega)]
              have := (p2 (i - 1) (by omega) (by omega)).1
              rw [show i - 1 + 1 = i by omega] at this
              exact this
        · rw [if_neg (fun z => c2 (inj.mp z)), Option.bind_some]
          exact skip (by unfold orB; rw [decide_eq_false (show ¬ tgO D (eX s b k) = some t from c2)]; rfl)
      · rw [if_neg c1, if_pos rfl, Option.bind_some]
        exact skip (by unfold orB; rw [decide_eq_false (show ¬ tgO D (eX s b k) = some t from fun z => c1 (tg_lt z).2)]; rfl)
  obtain ⟨h', c', f', e, q⟩ := L (dsz D (3 * s + b)) 0 N 0 (fun _ => 0) h (by omega) (by omega) (Fr.refl _) ⟨Nat.le_refl _, fun i hi => absurd hi (by omega), fun i j hi => absurd hi (by omega), fun l hl => absurd hl (by omega), fun i j _ hj => absurd hj (by omega)⟩ (fun i hi => absurd hi (by omega))
  rw [nI_0] at e
  unfold s_X6_putInOrder
  rw [e, Option.bind_some]
  exact ⟨h', c', f', rfl, q⟩
end
