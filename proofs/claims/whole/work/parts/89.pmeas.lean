/-! ===== the class measures two logs against one another ===== -/
def WoX (h : IH) (A : Nat → Nat) (w : Nat → Nat → Nat) : Prop := ∀ l m, l < 16 → m < 16 → rI h (A (30 + l)) m = nI (w l m)
def SeX (h : IH) (A : Nat → Nat) (P Q : Nat → Bool) : Prop := (∀ l, l < 16 → rI h (A 22) l = bI (!P l)) ∧ ∀ m, m < 16 → rI h (A 23) m = bI (!Q m)
def meR (i : Nat) : Prop := 30 ≤ i ∧ i < 46
def cmR (i : Nat) : Prop := i = 22 ∨ i = 23 ∨ (30 ≤ i ∧ i < 46)
theorem lv30 {n j : Nat} (h : j < 16) : lvX n (30 + j) := lv_lit (by omega) (by rw [(wRow j h).1]; decide)
theorem lv50 {n j : Nat} (h : j < 17) : lvX n (50 + j) := lv_lit (by omega) (by rw [(bRow j h).1]; decide)
theorem meR_lv {n : Nat} : lvR n meR := fun i z => by
  obtain ⟨j, rfl⟩ : ∃ j, i = 30 + j := ⟨i - 30, by unfold meR at z; omega⟩
  exact lv30 (by unfold meR at z; omega)
theorem cmR_lv {n : Nat} : lvR n cmR := fun i z => by
  rcases z with z | z | z
  · subst z; exact lv_lit (by decide) (by decide)
  · subst z; exact lv_lit (by decide) (by decide)
  · exact meR_lv i z
section
variable {A : Nat → Nat} {n N : Nat} {D : Dt}
theorem clearMX {h : IH} (S : ShX h A n) (hN : 2000 ≤ N) : ∃ h', s_X6_clearMeasures N h (A 17) = some h' ∧ FX A no1 no1 cmR no1 h h' ∧ WoX h' A (fun _ _ => 0) ∧ SeX h' A (fun _ => true) (fun _ => true) := by
  have n22 : ∀ l, l < 16 → A 22 ≠ A (30 + l) := fun l hl => nA S (lv_lit (by decide) (by decide)) (lv30 hl) (by omega)
  have n23 : ∀ l, l < 16 → A 23 ≠ A (30 + l) := fun l hl => nA S (lv_lit (by decide) (by decide)) (lv30 hl) (by omega)
  have n2 : A 22 ≠ A 23 := nA S (lv_lit (by decide) (by decide)) (lv_lit (by decide) (by decide)) (by decide)
  have L1 : ∀ i, i < 16 → ∀ (r j z : Nat) (H : IH), j + r = 16 → r < z → FX A no1 no1 cmR no1 h H → (∀ m, m < j → rI H (A (30 + i)) m = 0) → ∃ h', s_X6_clearMeasures_L24 N z (A 17) (nI i) (nI j) H = some h' ∧ FX A no1 no1 (e1 (30 + i)) no1 H h' ∧ ∀ m, m < 16 → rI h' (A (30 + i)) m = 0 := by
    intro i hi r
    have wr := wRow i hi
    induction r with
    | zero =>
      intro j z H hj hz f q
      obtain ⟨z, rfl⟩ : ∃ y, z = y + 1 := ⟨z - 1, by omega⟩
      have : j = 16 := by omega
      subst this
      rw [s_X6_clearMeasures_L24.eq_2, if_pos (by decide)]
      exact ⟨H, rfl, Fr.refl _, q⟩
    | succ r ih =>
      intro j z H hj hz f q
      obtain ⟨z, rfl⟩ : ∃ y, z = y + 1 := ⟨z - 1, by omega⟩
      have SH := f.shX S
      rw [s_X6_clearMeasures_L24.eq_2, if_neg (show ¬ (16 : Int32) ≤ nI j from nI_ge (b := 16) (by omega) (by omega)), gX6_0 SH, Option.bind_some, rX18 SH hi, Option.bind_some, sXI SH (30 + i) _ (by omega) wr.1 (by rw [wr.2]; decide) (show j < LX (30 + i) by rw [wr.2]; omega), Option.bind_some, nI_1]
      have f1 : FX A no1 no1 (e1 (30 + i)) no1 H (setI H (A (30 + i)) (upd (rI H (A (30 + i))) j 0)) := Fr.sI _ _ _ ⟨30 + i, rfl, rfl⟩
      obtain ⟨h', e', f', q'⟩ := ih (j + 1) z _ (by omega) (by omega) (f.trans (Fr.mono f1 (fun _ _ q => q) (fun _ _ q => q) (fun a ⟨k, q, y⟩ => ⟨k, by cases q; unfold cmR; omega, y⟩) (fun a q => q))) (fun m hm => by
        rw [rI_setI]
        unfold upd
        by_cases c : m = j
        · rw [if_pos c]
        · rw [if_neg c]; exact q m (by omega))
      exact ⟨h', e', f1.trans f', q'⟩
  have L2 : ∀ (r i z : Nat) (H : IH), i + r = 16 → r < z → FX A no1 no1 cmR no1 h H → (∀ l, l < i → rI H (A 22) l = 0 ∧ rI H (A 23) l = 0 ∧ ∀ m, m < 16 → rI H (A (30 + l)) m = 0) → ∃ h', s_X6_clearMeasures_L2 N z (A 17) (nI i) H = some h' ∧ FX A no1 no1 cmR no1 h h' ∧ ∀ l, l < 16 → rI h' (A 22) l = 0 ∧ rI h' (A 23) l = 0 ∧ ∀ m, m < 16 → rI h' (A (30 + l)) m = 0 := by
    intro r
    induction r with
    | zero =>
      intro i z H hi hz f q
      obtain ⟨z, rfl⟩ : ∃ y, z = y + 1 := ⟨z - 1, by omega⟩
      have : i = 16 := by omega
      subst this
      rw [s_X6_clearMeasures_L2.eq_2, if_pos (by decide)]
      exact ⟨H, rfl, f, q⟩
    | succ r ih =>
      intro i z H hi hz f q
      obtain ⟨z, rfl⟩ : ∃ y, z = y + 1 := ⟨z - 1, by omega⟩
      have SH := f.shX S
      have S1 : ∀ g, ShX (setI H (A 22) g) A n := fun g => SH
      rw [s_X6_clearMeasures_L2.eq_2, if_neg (show ¬ (16 : Int32) ≤ nI i from nI_ge (b := 16) (by omega) (by omega)), gX6_6 SH, Option.bind_some, sXZ SH 22 (by decide) (by decide) (by decide) (show i < LX 22 from (show i < 16 by omega)) (Or.inl rfl), Option.bind_some, gX6_7 (S1 _), Option.bind_some, sXZ (S1 _) 23 (by decide) (by decide) (by decide) (show i < LX 23 from (show i < 16 by omega)) (Or.inl rfl), Option.bind_some, nI_1]
      have f1 : FX A no1 no1 cmR no1 H (setI (setI H (A 22) (upd (rI H (A 22)) i 0)) (A 23) (upd (rI (setI H (A 22) (upd (rI H (A 22)) i 0)) (A 23)) i 0)) := (Fr.sI _ _ _ ⟨22, Or.inl rfl, rfl⟩).trans (Fr.sI _ _ _ ⟨23, Or.inr (Or.inl rfl), rfl⟩)
      have v22 : rI (setI (setI H (A 22) (upd (rI H (A 22)) i 0)) (A 23) (upd (rI (setI H (A 22) (upd (rI H (A 22)) i 0)) (A 23)) i 0)) (A 22) = upd (rI H (A 22)) i 0 := by
        rw [rI_setI_ne _ _ n2, rI_setI]
      have v23 : rI (setI (setI H (A 22) (upd (rI H (A 22)) i 0)) (A 23) (upd (rI (setI H (A 22) (upd (rI H (A 22)) i 0)) (A 23)) i 0)) (A 23) = upd (rI H (A 23)) i 0 := by
        rw [rI_setI, rI_setI_ne _ _ (fun z => n2 z.symm)]
      have v30 : ∀ l, l < 16 → rI (setI (setI H (A 22) (upd (rI H (A 22)) i 0)) (A 23) (upd (rI (setI H (A 22) (upd (rI H (A 22)) i 0)) (A 23)) i 0)) (A (30 + l)) = rI H (A (30 + l)) := fun l hl => by
        rw [rI_setI_ne _ _ (fun z => n23 l hl z.symm), rI_setI_ne _ _ (fun z => n22 l hl z.symm)]
      generalize setI (setI H (A 22) (upd (rI H (A 22)) i 0)) (A 23) (upd (rI (setI H (A 22) (upd (rI H (A 22)) i 0)) (A 23)) i 0) = H1 at *
      obtain ⟨H2, e2, f2, q2⟩ := L1 i (by omega) 16 0 N H1 (by omega) (by omega) (f.trans f1) (fun m hm => absurd hm (by omega))
      rw [nI_0] at e2
      rw [e2, Option.bind_some]
      have SH1 := f1.shX SH
      have r1 : lvR n (e1 (30 + i)) := fun k z => by cases z; exact lv30 (by omega)
      refine ih (i + 1) z H2 (by omega) (by omega) ((f.trans f1).trans (Fr.mono f2 (fun _ _ q => q) (fun _ _ q => q) (fun a ⟨k, q, y⟩ => ⟨k, by cases q; unfold cmR; omega, y⟩) (fun a q => q))) (fun l hl => ?_)
      have a22 : rI H2 (A 22) = rI H1 (A 22) := f2.rI (RA_no SH1 r1 (lv_lit (by decide) (by decide)) (e1n (by omega)))
      have a23 : rI H2 (A 23) = rI H1 (A 23) := f2.rI (RA_no SH1 r1 (lv_lit (by decide) (by decide)) (e1n (by omega)))
      rw [a22, a23, v22, v23]
      unfold upd
      by_cases c : l = i
      · rw [if_pos c, if_pos c, c]
        exact ⟨rfl, rfl, q2⟩
      · have a30 : rI H2 (A (30 + l)) = rI H1 (A (30 + l)) := f2.rI (RA_no SH1 r1 (lv30 (by omega)) (e1n (by omega)))
        rw [if_neg c, if_neg c, a30, v30 l (by omega)]
        exact q l (by omega)
  obtain ⟨h', e', f', q'⟩ := L2 16 0 N h (by omega) (by omega) (Fr.refl _) (fun l hl => absurd hl (by omega))
  rw [nI_0] at e'
  unfold s_X6_clearMeasures
  rw [e', Option.bind_some]
  exact ⟨h', rfl, f', fun l m hl hm => (q' l hl).2.2 m hm, fun l hl => (q' l hl).1, fun m hm => (q' m hm).2.1⟩
def OfX (h : IH) (A : Nat → Nat) (D : Dt) : Prop := ∀ s, s < dn D → (fL h 908 (A (100 + s))).toInt = offX D s ∧ -11000000000 ≤ offX D s ∧ offX D s ≤ 11000000000
theorem rightX {h : IH} (S : ShX h A n) (hn : n = dn D) (gL : XgL h A D) (w : WgL D) (of : OfX h A D) {s e : Nat} (hs : s < dn D) (he : e / 16 < 3 * dn D) (ce : ctB D e = true) : ∃ v, s_X9_putRight h (A (100 + s)) (some (A (1000 + e))) = some v ∧ v.toInt = (dmo D e).toInt + offX D s ∧ 0 ≤ (dmo D e).toInt ∧ (dmo D e).toInt ≤ 9999999999 := by
  subst hn
  have h12 := S.1
  have m1 : fL h (100 * 2 + 1) (A (1000 + e)) = dmo D e := (enX gL he ce).2.1 (by rw [(ct_in ce).2]; decide)
  obtain ⟨o1, o2, o3⟩ := of s hs
  obtain ⟨w1, w2⟩ := (ct_W w (by omega) ce).2.1
  unfold s_X9_putRight
  rw [gL_ok (c := 2) 1 (kEn S he), Option.bind_some, gX9_8 S hs, Option.bind_some, m1]
  refine ⟨_, rfl, ?_, w1, w2⟩
  rw [la (by rw [o1]; omega) (by rw [o1]; omega), o1]
/-- a cell: right already, or not yet looked at -/
def MeI (H : IH) (A : Nat → Nat) (D : Dt) (s t b n c : Nat) (f g : Nat → Nat) (k m : Nat) : Prop := ∀ l j, l < 16 → j < 16 → rI H (A (30 + l)) j = nI (pw D s t b l j) ∨ (rI H (A (30 + l)) j = 0 ∧ ∀ k' m', k' < n → m' < c → (k' < k ∨ k' = k ∧ m' < m) → ¬ (f k' = l ∧ g m' = j))
theorem measureX {h : IH} (S : ShX h A n) (hN : 2000 ≤ N) (hn : n = dn D) (gL : XgL h A D) (w : WgL D) (wP : WgP D) (of : OfX h A D) {s t b p c : Nat} {f g : Nat → Nat} (hs : s < dn D) (ht : t < dn D) (hst : s ≠ t) (hb : b < 3) (x : OrdL D false s t b 16 p f) (y : OrdL D true t s b 16 c g) (r20 : ∀ i, i < p → rI h (A 20) i = nI (f i)) (r21 : ∀ i, i < c → rI h (A 21) i = nI (g i)) (n4 : fI h 604 (A 17) = nI p) (n5 : fI h 605 (A 17) = nI c) (w0 : WoX h A (fun _ _ => 0)) : ∃ h', s_X6_measure N h (A 17) (some (A (100 + s))) (some (A (100 + t))) (nI b) (dwin D) = some h' ∧ FX A no1 no1 meR no1 h h' ∧ WoX h' A (pw D s t b) := by
  subst hn
  have h12 := S.1
  obtain ⟨wp1, wp2⟩ := wP.1
  have p16 := x.1
  have c16 := y.1
  have lqs : lvQ (dn D) (3 * s + b) := Or.inl (by omega)
  have lqt : lvQ (dn D) (3 * t + b) := Or.inl (by omega)
  have row : ∀ {H : IH}, FX A no1 no1 meR no1 h H → (∀ i, i < p → rI H (A 20) i = nI (f i)) ∧ (∀ i, i < c → rI H (A 21) i = nI (g i)) := fun fr => by
    refine ⟨fun i hi => ?_, fun i hi => ?_⟩
    · rw [fr.rI (RA_no S meR_lv (lv_lit (by decide) (by decide)) (fun z => by unfold meR at z; omega))]
      exact r20 i hi
    · rw [fr.rI (RA_no S meR_lv (lv_lit (by decide) (by decide)) (fun z => by unfold meR at z; omega))]
      exact r21 i hi
  have ctx : ∀ i, i < p → ctB D (16 * (3 * s + b) + f i) = true ∧ tgO D (eX s b (f i)) = some t ∧ whB D (eX s b (f i)) = true := fun i hi => by
    have := (x.2.1 i hi).2
    unfold orB at this
    rw [Bool.and_eq_true, decide_eq_true_iff] at this
    exact ⟨(tg_lt this.1).2, this⟩
  have cty : ∀ i, i < c → ctB D (16 * (3 * t + b) + g i) = true ∧ tgO D (eX t b (g i)) = some s ∧ whB D (eX t b (g i)) = true := fun i hi => by
    have := (y.2.1 i hi).2
    unfold orB at this
    rw [Bool.and_eq_true, decide_eq_true_iff] at this
    exact ⟨(tg_lt this.1).2, this⟩
  have L1 : ∀ k, k < p → ∀ (r m z : Nat) (H : IH), m + r = c → r < z → FX A no1 no1 meR no1 h H → MeI H A D s t b p c f g k m → ∃ h', s_X6_measure_L53 N z (A 17) (some (A (100 + s))) (some (A (100 + t))) (dwin D) (some (A (200 + (3 * s + b)))) (some (A (200 + (3 * t + b)))) (nI k) (some (A (1000 + eX s b (f k)))) (nI m) H = some h' ∧ FX A no1 no1 meR no1 h h' ∧ MeI h' A D s t b p c f g (k + 1) 0 := by
    intro k hk r
    have fk := x.2.1 k hk
    have ck := ctx k hk
    have ek : eX s b (f k) / 16 < 3 * dn D := by unfold eX; omega
    have ek' : eX s b (f k) / 48 = s := by unfold eX; omega
    induction r with
    | zero =>
      intro m z H hm hz fr q
      obtain ⟨z, rfl⟩ : ∃ y, z = y + 1 := ⟨z - 1, by omega⟩
      have SH := fr.shX S
      have e5 : fI H 605 (A 17) = nI c := by rw [fr.fI (fun z => z)]; exact n5
      rw [s_X6_measure_L53.eq_2, gX6_5 SH, Option.bind_some, e5, if_pos (nI_le (by omega) (by omega))]
      refine ⟨H, rfl, fr, fun l j hl hj => ?_⟩
      rcases q l j hl hj with a | ⟨a, a2⟩
      · exact Or.inl a
      · exact Or.inr ⟨a, fun k' m' h1 h2 h3 => a2 k' m' h1 h2 (by omega)⟩
    | succ r ih =>
      intro m z H hm hz fr q
      obtain ⟨z, rfl⟩ : ∃ y, z = y + 1 := ⟨z - 1, by omega⟩
      have SH := fr.shX S
      have gH : XgL H A D := gL.fr fr (fun f z => z.elim) (fun f z => z.elim)
      have oH : OfX H A D := fun u hu => by rw [fr.fL (fun z => z)]; exact of u hu
      have gm := y.2.1 m (by omega)
      have cm := cty m (by omega)
      have em : eX t b (g m) / 16 < 3 * dn D := by unfold eX; omega
      have em' : eX t b (g m) / 48 = t := by unfold eX; omega
      have e5 : fI H 605 (A 17) = nI c := by rw [fr.fI (fun z => z)]; exact n5
      have ca := contactX SH gH w rfl (show 3 * t + b < 3 * dn D by omega) (show g m < 16 from gm.1)
      rw [if_pos cm.1] at ca
      have edB : dsB D (eX s b (f k)) (eX t b (g m)) = fitB D (eX s b (f k)) (eX t b (g m)) := by
        unfold dsB
        rw [ek', em', decide_eq_true hst, decide_eq_true ck.2.1, decide_eq_true cm.2.1]
        rfl
      have nx : ∀ {H' : IH}, rI H' (A (30 + f k)) (g m) = nI (pw D s t b (f k) (g m)) → (∀ l j, l < 16 → j < 16 → ¬ (l = f k ∧ j = g m) → rI H' (A (30 + l)) j = rI H (A (30 + l)) j) → MeI H' A D s t b p c f g k (m + 1) := fun {H'} a1 a2 l j hl hj => by
        by_cases d : l = f k ∧ j = g m
        · rw [d.1, d.2]; exact Or.inl a1
        · rw [a2 l j hl hj d]
          rcases q l j hl hj with a | ⟨a, a3⟩
          · exact Or.inl a
          · refine Or.inr ⟨a, fun k' m' h1 h2 h3 => ?_⟩
            by_cases e : k' = k ∧ m' = m
            · rw [e.1, e.2]
              exact fun z => d ⟨z.1.symm, z.2.symm⟩
            · exact a3 k' m' h1 h2 (by omega)
      have skip : pw D s t b (f k) (g m) = 0 → ∃ h', s_X6_measure_L53 N z (A 17) (some (A (100 + s))) (some (A (100 + t))) (dwin D) (some (A (200 + (3 * s + b)))) (some (A (200 + (3 * t + b)))) (nI k) (some (A (1000 + eX s b (f k)))) (nI (m + 1)) H = some h' ∧ FX A no1 no1 meR no1 h h' ∧ MeI h' A D s t b p c f g (k + 1) 0 := fun h0 => by
        refine ih (m + 1) z H (by omega) (by omega) fr (nx ?_ (fun l j _ _ _ => rfl))
        rcases q (f k) (g m) fk.1 gm.1 with a | ⟨a, _⟩
        · exact a
        · rw [a, h0]; rfl
      rw [s_X6_measure_L53.eq_2, gX6_5 SH, Option.bind_some, e5, if_neg (nI_ge (by omega) (by omega)), if_neg (show ¬ some (A (1000 + eX s b (f k))) = none from fun z => by cases z), gX6_3 SH, Option.bind_some, aXI SH 21 (by decide) (by decide) (by decide) (show m < LX 21 from (show m < 16 by omega)), Option.bind_some, (row fr).2 m (by omega), vX4 SH lqt, ca, Option.bind_some, if_neg (show ¬ some (A (1000 + (16 * (3 * t + b) + g m))) = none from fun z => by cases z), cV_ok (c := 2) _ (kEn SH ek), nI_1]
      show ∃ h', (((s_X2_answersTo H (A (1000 + eX s b (f k))) (some (A (1000 + eX t b (g m))))).bind fun v17 => _).bind _) = _ ∧ _
      rw [ansX SH gH w rfl ek em ck.1 cm.1, Option.bind_some]
      cases c3 : fitB D (eX s b (f k)) (eX t b (g m)) with
      | false =>
        rw [if_pos (show bI false = 0 from rfl), Option.bind_some]
        refine skip ?_
        unfold pw
        rw [edB, c3, if_neg (fun z => by cases z.1)]
      | true =>
        obtain ⟨v1, ev1, hv1, b1, b2⟩ := rightX SH rfl gH w oH hs ek ck.1
        obtain ⟨v2, ev2, hv2, b3, b4⟩ := rightX SH rfl gH w oH ht em cm.1
        have ev2 : s_X9_putRight H (A (100 + t)) (some (A (1000 + (16 * (3 * t + b) + g m)))) = some v2 := ev2
        obtain ⟨_, o1, o2⟩ := of s hs
        obtain ⟨_, o3, o4⟩ := of t ht
        have sb : (v1 - v2).toInt = v1.toInt - v2.toInt := ls (by rw [hv1, hv2]; omega) (by rw [hv1, hv2]; omega)
        obtain ⟨d, ed, hd⟩ := absJ H (x := v1 - v2) (by rw [sb, hv1, hv2]; omega)
        have hdI : d.toInt = (dsI D (eX s b (f k)) (eX t b (g m)) : Int) := by
          rw [hd, sb, hv1, hv2]
          unfold dsI
          rw [ek', em']
        rw [if_neg (show ¬ bI true = 0 by decide), vX9 SH hs, ev1, Option.bind_some, vX9 SH ht, ev2, Option.bind_some, ed, Option.bind_some]
        have cmp : 0 < lg_cmp d (dwin D).toInt64 ↔ (dwin D).toInt < (dsI D (eX s b (f k)) (eX t b (g m)) : Int) := by rw [lc_gt, lLt, il, hdI]
        by_cases c4 : (dwin D).toInt < (dsI D (eX s b (f k)) (eX t b (g m)) : Int)
        · rw [if_pos (cmp.mpr c4), Option.bind_some]
          refine skip ?_
          unfold pw
          rw [if_neg (fun z => by have := z.2; omega)]
        · have wr := wRow (f k) fk.1
          have val : (100000 : Int32) - d.toInt32 = nI (pw D s t b (f k) (g m)) := by
            have e1 : d.toInt32 = nI (dsI D (eX s b (f k)) (eX t b (g m))) := Int32.toInt_inj.mp (by rw [li (by omega) (by omega), hdI, nIt (by omega)])
            have e2 : pw D s t b (f k) (g m) = 100000 - dsI D (eX s b (f k)) (eX t b (g m)) := by
              unfold pw
              rw [edB, c3, if_pos ⟨rfl, by omega⟩]
            rw [e1, e2, show (100000 : Int32) = nI 100000 from rfl, nI_sub (by omega)]
          rw [if_neg (fun z => c4 (cmp.mp z)), gX6_0 SH, Option.bind_some, gX6_2 SH, Option.bind_some, aXI SH 20 (by decide) (by decide) (by decide) (show k < LX 20 from (show k < 16 by omega)), Option.bind_some, (row fr).1 k hk, rX18 SH fk.1, Option.bind_some, Option.bind_some, aXI SH 21 (by decide) (by decide) (by decide) (show m < LX 21 from (show m < 16 by omega)), Option.bind_some, (row fr).2 m (by omega), val, sXI SH (30 + f k) _ (by omega) wr.1 (by rw [wr.2]; decide) (show g m < LX (30 + f k) by rw [wr.2]; exact gm.1), Option.bind_some, Option.bind_some]
          refine ih (m + 1) z _ (by omega) (by omega) (fr.trans (Fr.sI _ _ _ ⟨30 + f k, ⟨by omega, by omega⟩, rfl⟩)) (nx ?_ (fun l j hl hj hd => ?_))
          · rw [rI_setI]
            unfold upd
            rw [if_pos rfl]
          · by_cases e : l = f k
            · rw [e, rI_setI]
              unfold upd
              rw [if_neg (fun z => hd ⟨e, z⟩)]
            · rw [rI_setI_ne _ _ (nA S (lv30 hl) (lv30 fk.1) (by omega))]
  have L2 : ∀ (r k z : Nat) (H : IH), k + r = p → r < z → FX A no1 no1 meR no1 h H → MeI H A D s t b p c f g k 0 → ∃ h', s_X6_measure_L17 N z (A 17) (some (A (100 + s))) (some (A (100 + t))) (dwin D) (some (A (200 + (3 * s + b)))) (some (A (200 + (3 * t + b)))) (nI k) H = some h' ∧ FX A no1 no1 meR no1 h h' ∧ WoX h' A (pw D s t b) := by
    intro r
    induction r with
    | zero =>
      intro k z H hk hz fr q
      obtain ⟨z, rfl⟩ : ∃ y, z = y + 1 := ⟨z - 1, by omega⟩
      have SH := fr.shX S
      have e4 : fI H 604 (A 17) = nI p := by rw [fr.fI (fun z => z)]; exact n4
      rw [s_X6_measure_L17.eq_2, gX6_4 SH, Option.bind_some, e4, if_pos (nI_le (by omega) (by omega))]
      refine ⟨H, rfl, fr, fun l j hl hj => ?_⟩
      rcases q l j hl hj with a | ⟨a, a2⟩
      · exact a
      · rw [a]
        have : pw D s t b l j = 0 := by
          cases cp : pw D s t b l j with
          | zero => rfl
          | succ v =>
            have ps := (pw_pos wP.1.2 (show 0 < pw D s t b l j by omega)).1
            rw [dsB_iff, fitB_iff, (show eX s b l / 48 = s by unfold eX; omega), (show eX t b j / 48 = t by unfold eX; omega)] at ps
            obtain ⟨k', a3, a4⟩ := x.2.2.2.1 l hl (by unfold orB; rw [decide_eq_true ps.2.1, ps.2.2.2.1]; rfl)
            obtain ⟨m', a5, a6⟩ := y.2.2.2.1 j hj (by unfold orB; rw [decide_eq_true ps.2.2.1, ps.2.2.2.2.1]; rfl)
            exact absurd ⟨a4, a6⟩ (a2 k' m' a3 a5 (by omega))
        rw [this]
        rfl
    | succ r ih =>
      intro k z H hk hz fr q
      obtain ⟨z, rfl⟩ : ∃ y, z = y + 1 := ⟨z - 1, by omega⟩
      have SH := fr.shX S
      have gH : XgL H A D := gL.fr fr (fun f z => z.elim) (fun f z => z.elim)
      have e4 : fI H 604 (A 17) = nI p := by rw [fr.fI (fun z => z)]; exact n4
      have fk := x.2.1 k (by omega)
      have ca := contactX SH gH w rfl (show 3 * s + b < 3 * dn D by omega) (show f k < 16 from fk.1)
      rw [if_pos (ctx k (by omega)).1] at ca
      obtain ⟨h', e', f', q'⟩ := L1 k (by omega) c 0 N H (by omega) (by omega) fr q
      rw [nI_0] at e'
      have e' : s_X6_measure_L53 N N (A 17) (some (A (100 + s))) (some (A (100 + t))) (dwin D) (some (A (200 + (3 * s + b)))) (some (A (200 + (3 * t + b)))) (nI k) (some (A (1000 + (16 * (3 * s + b) + f k)))) 0 H = some h' := e'
      rw [s_X6_measure_L17.eq_2, gX6_4 SH, Option.bind_some, e4, if_neg (nI_ge (by omega) (by omega)), if_neg (show ¬ some (A (200 + (3 * s + b))) = none from fun z => by cases z), if_neg (show ¬ some (A (200 + (3 * t + b))) = none from fun z => by cases z), gX6_2 SH, Option.bind_some, aXI SH 20 (by decide) (by decide) (by decide) (show k < LX 20 from (show k < 16 by omega)), Option.bind_some, (row fr).1 k (by omega), vX4 SH lqs, ca, Option.bind_some, e', Option.bind_some, nI_1]
      exact ih (k + 1) z h' (by omega) (by omega) f' q'
  obtain ⟨h', e', q'⟩ := L2 p 0 N h (by omega) (by omega) (Fr.refl _) (fun l j hl hj => Or.inr ⟨w0 l j hl hj, fun k' m' _ _ h3 => absurd h3 (by omega)⟩)
  rw [nI_0] at e'
  unfold s_X6_measure
  rw [vX9 S hs, logOfX S hs hb, Option.bind_some, vX9 S ht, logOfX S ht hb, Option.bind_some, e', Option.bind_some]
  exact ⟨h', rfl, q'⟩
end
