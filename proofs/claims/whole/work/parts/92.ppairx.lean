/-! ===== the class pairs all ===== -/
theorem puR_lv {n : Nat} : lvR n puR := fun i z => by
  rcases z with z | z | z
  · have : i = 20 ∨ i = 21 ∨ i = 22 ∨ i = 23 := by omega
    rcases this with q | q | q | q <;> subst q <;> exact lv_lit (by decide) (by decide)
  · exact meR_lv i z
  · exact beR_lv i z
theorem nI_nm1 {k : Nat} (hk : k < 2147483648) : ¬ nI k = -1 := fun z => by
  have : nI k < 0 := by rw [z]; decide
  exact nI_pos (by omega) this
section
variable {A : Nat → Nat} {n N : Nat} {D : Dt} {s t b p c : Nat} {f g : Nat → Nat}
theorem MaE.fr {h h' : IH} {F G R Q : Nat → Prop} (x : FX A F G R Q h h') {e : Nat} {o : Option Nat} (m : MaE h A e o) (f1 : ¬ F 207) (f2 : ¬ F 208) : MaE h' A e o := by
  unfold MaE
  rw [x.fI f1, x.fI f2]
  exact m
theorem linesX {h : IH} (S : ShX h A n) (hN : 2000 ≤ N) (hn : n = dn D) (gL : XgL h A D) (w : WgL D) (wP : WgP D) (hs : s < dn D) (ht : t < dn D) (hb : b < 3) (hst : s ≠ t) (x : OrdL D false s t b 16 p f) (y : OrdL D true t s b 16 c g) : ∀ (r l z : Nat) (H : IH) (v : Nat), l + r = dsz D (3 * s + b) → r < z → FrPU A h H → QuX H A p c f g (pw D s t b) (fun k => decide (l ≤ k)) (gS (pw D s t b) l).1 → v = (gS (pw D s t b) l).2.1 → v ≤ 1600000 → PrX H h A D s t b (gS (pw D s t b) l).2.2 → ∃ h', s_X6_pairUp_L124 N z (A 17) (nI s) (nI t) (some (A (200 + (3 * s + b)))) (some (A (200 + (3 * t + b)))) (nI v) (nI l) H = some h' ∧ FrPU A h h' ∧ PrX h' h A D s t b (mtF D s t b) := by
  subst hn
  have h12 := S.1
  have w16 := (w.1 (3 * s + b) (by omega)).1
  have lqs : lvQ (dn D) (3 * s + b) := Or.inl (by omega)
  have lqt : lvQ (dn D) (3 * t + b) := Or.inl (by omega)
  intro r
  induction r with
  | zero =>
    intro l z H v hl hz fr q hv hvb pr
    obtain ⟨z, rfl⟩ : ∃ y, z = y + 1 := ⟨z - 1, by omega⟩
    have SH := fr.shX S
    have gH : XgL H A D := gL.fr fr (fun f z => by unfold puF at z; omega) (fun f z => z.elim)
    rw [s_X6_pairUp_L124.eq_2, gX4_1 SH lqs, Option.bind_some, (gH _ (by omega)).2.1, if_pos (nI_le (by omega) (by omega))]
    refine ⟨H, rfl, fr, ?_⟩
    have := gS_const (w := pw D s t b) (a := l) (16 - l) (fun l' h1 h2 j hj => pw_0 wP hb (by omega) hj (by
      unfold rwB
      exact decide_eq_false (fun z => by
        have := ct_in (tg_lt z).2
        have e1 : eX s b l' % 16 = l' := by unfold eX; omega
        have e2 : eX s b l' / 16 = 3 * s + b := by unfold eX; omega
        rw [e1, e2] at this
        omega)))
    rw [show l + (16 - l) = 16 by omega] at this
    unfold mtF
    rw [this]
    exact pr
  | succ r ih =>
    intro l z H v hl hz fr q hv hvb pr
    obtain ⟨z, rfl⟩ : ∃ y, z = y + 1 := ⟨z - 1, by omega⟩
    have SH := fr.shX S
    have gH : XgL H A D := gL.fr fr (fun f z => by unfold puF at z; omega) (fun f z => z.elim)
    rw [s_X6_pairUp_L124.eq_2, gX4_1 SH lqs, Option.bind_some, (gH _ (by omega)).2.1, if_neg (nI_ge (by omega) (by omega))]
    by_cases v0 : v = 0
    · rw [if_pos (by rw [v0]; decide)]
      refine ⟨H, rfl, fr, ?_⟩
      have := gS_done (w := pw D s t b) (l := l) (by rw [← hv]; exact v0) (16 - l)
      rw [show l + (16 - l) = 16 by omega] at this
      unfold mtF
      rw [this]
      exact pr
    · have n0 : ¬ nI v ≤ 0 := by
        rw [← nI_0]
        exact nI_ge (by omega) (by omega)
      obtain ⟨H2, e2, f2, q2⟩ := mateX (N := N) SH hN wP hb x y (l := l) (v := v) (by omega) hvb q
      have gs := gS_s (pw D s t b) l
      rw [← hv] at gs
      rw [if_neg n0, vX6 SH, e2, Option.bind_some, nI_1]
      have fr2 : FrPU A h H2 := fr.trans (Fr.mono f2 (fun _ _ q => q.elim) (fun _ _ q => q) (fun a ⟨i, q, y⟩ => ⟨i, by unfold maR at q; unfold puR; omega, y⟩) (fun a q => q))
      have S2 := fr2.shX S
      have g2 : XgL H2 A D := gL.fr fr2 (fun f z => by unfold puF at z; omega) (fun f z => z.elim)
      have pr2 : PrX H2 h A D s t b (gS (pw D s t b) l).2.2 := fun e he ce => by
        obtain ⟨a1, a2, a3⟩ := pr e he ce
        refine ⟨fun z1 z2 => MaE.fr f2 (a1 z1 z2) (fun z => z) (fun z => z), fun z1 z2 => MaE.fr f2 (a2 z1 z2) (fun z => z) (fun z => z), fun z1 => ?_⟩
        rw [f2.fI (fun z => z), f2.fI (fun z => z)]
        exact a3 z1
      cases ho : fsM (gdB (pw D s t b) l (gS (pw D s t b) l).1 v) 16 with
      | none =>
        rw [ho] at gs q2
        have gs : gS (pw D s t b) (l + 1) = gS (pw D s t b) l := gs
        rw [if_pos (show oI none = -1 from rfl), Option.bind_some]
        exact ih (l + 1) z H2 v (by omega) (by omega) fr2 (by rw [gs]; exact q2) (by rw [gs]; exact hv) hvb (by rw [gs]; exact pr2)
      | some j =>
        rw [ho] at gs q2
        have gs : gS (pw D s t b) (l + 1) = (woQ (gS (pw D s t b) l).1 j, (gS (pw D s t b) l).2.1 - pw D s t b l j, upO (gS (pw D s t b) l).2.2 l (some j)) := gs
        have hj := fsM_some.mp ho
        have hg := gdB_iff.mp hj.2.1
        have ps := (pw_pos wP.1.2 hg.2.1).1
        have es1 : eX s b l / 48 = s ∧ eX s b l / 16 = 3 * s + b ∧ eX s b l % 16 = l := by unfold eX; omega
        have et1 : eX t b j / 48 = t ∧ eX t b j / 16 = 3 * t + b ∧ eX t b j % 16 = j := by have := hj.1; unfold eX; omega
        rw [dsB_iff, es1.1, et1.1] at ps
        have cc := (tg_lt ps.2.1).2
        have cd := (tg_lt ps.2.2.1).2
        have ec : eX s b l / 16 < 3 * dn D := by omega
        have ed : eX t b j / 16 < 3 * dn D := by omega
        have wr := wRow l (by omega)
        have v29 : rI H2 (A (30 + l)) j = nI (pw D s t b l j) := q2.2.2.2.2.1 l j (by omega) hj.1
        have ca := contactX S2 g2 w rfl (show 3 * s + b < 3 * dn D by omega) (show l < 16 by omega)
        rw [if_pos (show ctB D (16 * (3 * s + b) + l) = true from cc)] at ca
        have a12 : A (1000 + eX t b j) ≠ A (1000 + eX s b l) := neEn S ed ec (fun z => by rw [z, es1.2.1] at et1; omega)
        have f3 : FX A (fun f => f = 207 ∨ f = 208) no1 no1 no1 H2 (wfI (wfI H2 207 (A (1000 + eX s b l)) (nI t)) 208 (A (1000 + eX s b l)) (nI j)) := (Fr.wI _ _ _ _ (Or.inl rfl)).trans (Fr.wI _ _ _ _ (Or.inr rfl))
        have sm := setMateX S2 ec t j
        rw [if_neg (show ¬ oI (some j) = -1 from nI_nm1 (by have := hj.1; omega)), gX6_0 S2, Option.bind_some, rX18 S2 (by omega), Option.bind_some, show oI (some j) = nI j from rfl, aXI S2 (30 + l) (by omega) wr.1 (by rw [wr.2]; decide) (show j < LX (30 + l) by rw [wr.2]; exact hj.1), Option.bind_some, v29, vX4 S2 lqs, ca, Option.bind_some]
        show ∃ h', (((s_X6_setMate H2 (some (A (1000 + eX s b l))) (nI t) (nI j)).bind fun v31 => _).bind _) = _ ∧ _
        rw [sm, Option.bind_some]
        have m1 := fun fld (a' : Nat) (hn : a' ≠ A (1000 + eX s b l)) => mate_ne (h := H2) (a := A (1000 + eX s b l)) (u := t) (v := j) hn fld
        have m2 := mate_get (h := H2) (a := A (1000 + eX s b l)) (u := t) (v := j)
        generalize wfI (wfI H2 207 (A (1000 + eX s b l)) (nI t)) 208 (A (1000 + eX s b l)) (nI j) = H3 at *
        have S3 := f3.shX S2
        have g3 : XgL H3 A D := g2.fr f3 (fun f z => by omega) (fun f z => z.elim)
        have cb := contactX S3 g3 w rfl (show 3 * t + b < 3 * dn D by omega) (show j < 16 from hj.1)
        rw [if_pos (show ctB D (16 * (3 * t + b) + j) = true from cd)] at cb
        have sm2 := setMateX S3 ed s l
        have f4 : FX A (fun f => f = 207 ∨ f = 208) no1 no1 no1 H3 (wfI (wfI H3 207 (A (1000 + eX t b j)) (nI s)) 208 (A (1000 + eX t b j)) (nI l)) := (Fr.wI _ _ _ _ (Or.inl rfl)).trans (Fr.wI _ _ _ _ (Or.inr rfl))
        rw [vX4 S3 lqt, cb, Option.bind_some]
        show ∃ h', (((s_X6_setMate H3 (some (A (1000 + eX t b j))) (nI s) (nI l)).bind fun v33 => _).bind _) = _ ∧ _
        rw [sm2, Option.bind_some, Option.bind_some, nI_sub (show pw D s t b l j ≤ v by omega)]
        have m3 := fun fld (a' : Nat) (hn : a' ≠ A (1000 + eX t b j)) => mate_ne (h := H3) (a := A (1000 + eX t b j)) (u := s) (v := l) hn fld
        have m4 := mate_get (h := H3) (a := A (1000 + eX t b j)) (u := s) (v := l)
        generalize wfI (wfI H3 207 (A (1000 + eX t b j)) (nI s)) 208 (A (1000 + eX t b j)) (nI l) = H4 at *
        have f34 : FX A (fun f => f = 207 ∨ f = 208) no1 no1 no1 H2 H4 := f3.trans f4
        have hM0 : (gS (pw D s t b) l).2.2 l = none := by
          cases e : (gS (pw D s t b) l).2.2 l with
          | none => rfl
          | some k => have := ((gS_inv (pw D s t b) l).1 _ _ e).1; omega
        have noJ : ∀ k, (gS (pw D s t b) l).2.2 k ≠ some j := fun k z => by
          have := ((gS_inv (pw D s t b) l).1 _ _ z).2.2.2
          rw [hg.1] at this
          cases this
        refine ih (l + 1) z H4 (v - pw D s t b l j) (by omega) (by omega) (fr2.trans (Fr.mono f34 (fun f _ q => by unfold puF; omega) (fun _ _ q => q) (fun a ⟨i, q, y⟩ => q.elim) (fun a q => q))) ?_ (by rw [gs, hv]) (by omega) ?_
        · rw [gs]
          exact QuX.fr S2 f34 (fun i z => z.elim) q2 (fun z => by omega) (fun z => by omega) (fun i z => z.elim)
        · rw [gs]
          intro e he ce
          show (_ → _ → MaE H4 A e ((upO (gS (pw D s t b) l).2.2 l (some j) (e % 16)).map (eX t b))) ∧ (_ → _ → MaE H4 A e ((invC (upO (gS (pw D s t b) l).2.2 l (some j)) (e % 16)).map (eX s b))) ∧ _
          rw [invC_up (by omega) hM0 noJ]
          have same : e ≠ eX s b l → e ≠ eX t b j → ∀ fld, fI H4 fld (A (1000 + e)) = fI H2 fld (A (1000 + e)) := fun d1 d2 fld => by
            rw [m3 fld _ (neEn S he ed d2), m1 fld _ (neEn S he ec d1)]
          obtain ⟨a1, a2, a3⟩ := pr2 e he ce
          refine ⟨fun z1 z2 => ?_, fun z1 z2 => ?_, fun z1 => ?_⟩
          · have dn2 : e ≠ eX t b j := fun z => by rw [z, et1.2.1] at z1; omega
            by_cases d : e % 16 = l
            · have ee : e = eX s b l := by unfold eX; omega
              rw [d, upO_s, ee]
              refine ⟨?_, fun d hd => ?_⟩
              · rw [m3 207 _ (fun z => a12 z.symm), m2.1]
                show nI t = nI (eX t b j / 48)
                rw [et1.1]
              · cases hd
                rw [m3 208 _ (fun z => a12 z.symm), m2.2, et1.2.2]
            · rw [upO_ne _ _ d]
              have := a1 z1 z2
              have sm := same (fun z => d (by rw [z]; exact es1.2.2)) dn2
              unfold MaE at this ⊢
              rw [sm, sm]
              exact this
          · have dn2 : e ≠ eX s b l := fun z => by rw [z, es1.2.1] at z1; omega
            by_cases d : e % 16 = j
            · have ee : e = eX t b j := by unfold eX; omega
              rw [if_pos d, ee]
              refine ⟨?_, fun d hd => ?_⟩
              · rw [m4.1]
                show nI s = nI (eX s b l / 48)
                rw [es1.1]
              · cases hd
                rw [m4.2, es1.2.2]
            · rw [if_neg d]
              have := a2 z1 z2
              have sm := same dn2 (fun z => d (by rw [z]; exact et1.2.2))
              unfold MaE at this ⊢
              rw [sm, sm]
              exact this
          · have := a3 z1
            have sm := same (fun z => z1 (Or.inl ⟨by rw [z]; exact es1.2.1, by rw [z]; exact ps.2.1⟩)) (fun z => z1 (Or.inr ⟨by rw [z]; exact et1.2.1, by rw [z]; exact ps.2.2.1⟩))
            rw [sm, sm]
            exact this
theorem pairUpX {h : IH} (S : ShX h A n) (hN : 2000 ≤ N) (hn : n = dn D) (gs : XgS h A D) (gL : XgL h A D) (w : WgL D) (wP : WgP D) (tg : TgX h A D) (of : OfX h A D) (hs : s < dn D) (ht : t < dn D) (hb : b < 3) (hst : s ≠ t) (h0 : ∀ e, e / 16 < 3 * dn D → ctB D e = true → grp D s t b e → MaE h A e none) : ∃ h', s_X6_pairUp N h (A 17) (some (A 3)) (nI s) (nI t) (nI b) (dwin D) = some h' ∧ FrPU A h h' ∧ PrX h' h A D s t b (mtF D s t b) := by
  subst hn
  have h12 := S.1
  have inv0 : ∀ k, invC (fun _ => none) k = none := fun k => fsM_none.mpr (fun l _ => decide_eq_false (fun z => by cases z))
  obtain ⟨h1, p, f, e1', f1, x, r20⟩ := orderX (N := N) (tn := false) (ord := 20) S hN rfl gL w tg (Or.inl rfl) hs ht hb
  have S1 := f1.shX S
  have p16 := x.1
  have f2 : FX A (e1 604) no1 no1 no1 h1 (wfI h1 604 (A 17) (nI p)) := Fr.wI _ _ _ _ rfl
  have n4 : fI (wfI h1 604 (A 17) (nI p)) 604 (A 17) = nI p := fI_wfI _ _ _ _
  unfold s_X6_pairUp
  rw [vX7 S, atX S gs rfl hs, Option.bind_some, vX7 S, atX S gs rfl ht, Option.bind_some, if_neg (fun z => by cases z), if_neg (fun z => by cases z), vX9 S hs, logOfX S hs hb, Option.bind_some, vX9 S ht, logOfX S ht hb, Option.bind_some, if_neg (fun z => by cases z), if_neg (fun z => by cases z), gX6_2 S, Option.bind_some, show (0 : Int32) = bI false from rfl, e1', Option.bind_some, pX6_4 S1, Option.bind_some]
  have r20 : ∀ i, i < p → rI (wfI h1 604 (A 17) (nI p)) (A 20) i = nI (f i) := r20
  generalize wfI h1 604 (A 17) (nI p) = h2 at *
  have S2 := f2.shX S1
  have fh2 : FrPU A h h2 := (Fr.mono f1 (fun _ _ q => q.elim) (fun _ _ q => q) (fun a ⟨i, q, y⟩ => ⟨i, by cases q; unfold puR; omega, y⟩) (fun a q => q)).trans (Fr.mono f2 (fun f _ q => by cases q; unfold puF; omega) (fun _ _ q => q) (fun a ⟨i, q, y⟩ => q.elim) (fun a q => q))
  have g2 : XgL h2 A D := gL.fr fh2 (fun f z => by unfold puF at z; omega) (fun f z => z.elim)
  have t2 : TgX h2 A D := tg.fr fh2 (fun z => by unfold puF at z; omega)
  obtain ⟨h3, c, g, e3, f3, y, r21⟩ := orderX (N := N) (tn := true) (ord := 21) S2 hN rfl g2 w t2 (Or.inr rfl) ht hs hb
  have S3 := f3.shX S2
  have c16 := y.1
  have f4 : FX A (e1 605) no1 no1 no1 h3 (wfI h3 605 (A 17) (nI c)) := Fr.wI _ _ _ _ rfl
  have n5 : fI (wfI h3 605 (A 17) (nI c)) 605 (A 17) = nI c := fI_wfI _ _ _ _
  rw [gX6_3 S2, Option.bind_some, show (1 : Int32) = bI true from rfl, e3, Option.bind_some, pX6_5 S3, Option.bind_some]
  have r21 : ∀ i, i < c → rI (wfI h3 605 (A 17) (nI c)) (A 21) i = nI (g i) := r21
  generalize wfI h3 605 (A 17) (nI c) = h4 at *
  have S4 := f4.shX S3
  have r21lv : lvR (dn D) (e1 21) := fun i z => by cases z; exact lv_lit (by decide) (by decide)
  have r20 : ∀ i, i < p → rI h4 (A 20) i = nI (f i) := fun i hi => by
    rw [f4.rI (fun ⟨k, q, _⟩ => q.elim), f3.rI (RA_no S2 r21lv (lv_lit (by decide) (by decide)) (e1n (by decide)))]
    exact r20 i hi
  have n4 : fI h4 604 (A 17) = nI p := by
    rw [f4.fI (e1n (by decide)), f3.fI (fun z => z)]
    exact n4
  have fh4 : FrPU A h h4 := (fh2.trans (Fr.mono f3 (fun _ _ q => q.elim) (fun _ _ q => q) (fun a ⟨i, q, y⟩ => ⟨i, by cases q; unfold puR; omega, y⟩) (fun a q => q))).trans (Fr.mono f4 (fun f _ q => by cases q; unfold puF; omega) (fun _ _ q => q) (fun a ⟨i, q, y⟩ => q.elim) (fun a q => q))
  have keep : ∀ {H : IH} {F : Nat → Prop} {R : Nat → Prop}, FX A F no1 R no1 h H → ¬ F 207 → ¬ F 208 → PrX H h A D s t b (fun _ => none) := fun {H} {F} {R} fr n7 n8 e he ce => by
    refine ⟨fun z1 z2 => ?_, fun z1 z2 => ?_, fun _ => ?_⟩
    · exact MaE.fr fr (h0 e he ce (Or.inl ⟨z1, z2⟩)) n7 n8
    · rw [inv0]
      exact MaE.fr fr (h0 e he ce (Or.inr ⟨z1, z2⟩)) n7 n8
    · rw [fr.fI n7, fr.fI n8]
      exact ⟨rfl, rfl⟩
  have fn4 : FX A (fun f => f = 604 ∨ f = 605) no1 puR no1 h h4 := (((Fr.mono f1 (fun _ _ q => q.elim) (fun _ _ q => q) (fun a ⟨i, q, y⟩ => ⟨i, by cases q; unfold puR; omega, y⟩) (fun a q => q)).trans (Fr.mono f2 (fun f _ q => Or.inl q) (fun _ _ q => q) (fun a ⟨i, q, y⟩ => q.elim) (fun a q => q))).trans (Fr.mono f3 (fun _ _ q => q.elim) (fun _ _ q => q) (fun a ⟨i, q, y⟩ => ⟨i, by cases q; unfold puR; omega, y⟩) (fun a q => q))).trans (Fr.mono f4 (fun f _ q => Or.inr q) (fun _ _ q => q) (fun a ⟨i, q, y⟩ => q.elim) (fun a q => q))
  have nothing : (∀ l j, l < 16 → j < 16 → pw D s t b l j = 0) → mtF D s t b = fun _ => none := fun hz => by
    have := gS_const (w := pw D s t b) (a := 0) 16 (fun l h1 h2 j hj => hz l j (by omega) hj)
    unfold mtF
    rw [show (16 : Nat) = 0 + 16 by omega, this]
    rfl
  have inO : ∀ l j, l < 16 → j < 16 → 0 < pw D s t b l j → (∃ i, i < p ∧ f i = l) ∧ ∃ i, i < c ∧ g i = j := fun l j hl hj hw => by
    have ps := (pw_pos wP.1.2 hw).1
    rw [dsB_iff, fitB_iff, (show eX s b l / 48 = s by unfold eX; omega), (show eX t b j / 48 = t by unfold eX; omega)] at ps
    exact ⟨x.2.2.2.1 l hl (by unfold orB; rw [decide_eq_true ps.2.1, ps.2.2.2.1]; rfl), y.2.2.2.1 j hj (by unfold orB; rw [decide_eq_true ps.2.2.1, ps.2.2.2.2.1]; rfl)⟩
  rw [gX6_4 S4, Option.bind_some, n4]
  by_cases p0 : p = 0
  · rw [if_pos (by rw [p0]; rfl)]
    refine ⟨h4, rfl, fh4, ?_⟩
    rw [nothing (fun l j hl hj => by
      cases e : pw D s t b l j with
      | zero => rfl
      | succ k =>
        obtain ⟨⟨i, hi, _⟩, _⟩ := inO l j hl hj (by omega)
        omega)]
    exact keep fn4 (by omega) (by omega)
  rw [if_neg (show ¬ nI p = bI false from fun z => p0 ((nI_eq (by omega) (by omega)).mp (show nI p = nI 0 from z))), gX6_5 S4, Option.bind_some, n5]
  by_cases c0 : c = 0
  · rw [if_pos (by rw [c0]; rfl)]
    refine ⟨h4, rfl, fh4, ?_⟩
    rw [nothing (fun l j hl hj => by
      cases e : pw D s t b l j with
      | zero => rfl
      | succ k =>
        obtain ⟨_, ⟨i, hi, _⟩⟩ := inO l j hl hj (by omega)
        omega)]
    exact keep fn4 (by omega) (by omega)
  rw [if_neg (show ¬ nI c = bI false from fun z => c0 ((nI_eq (by omega) (by omega)).mp (show nI c = nI 0 from z)))]
  obtain ⟨h5, e5, f5, w5, s5⟩ := clearMX (N := N) S4 hN
  have S5 := f5.shX S4
  rw [vX6 S4, e5, Option.bind_some]
  have rr5 : ∀ i, lvX (dn D) i → ¬ cmR i → rI h5 (A i) = rI h4 (A i) := fun i hi hn => f5.rI (RA_no S4 cmR_lv hi hn)
  have r20 : ∀ i, i < p → rI h5 (A 20) i = nI (f i) := fun i hi => by rw [rr5 20 (lv_lit (by decide) (by decide)) (fun z => by unfold cmR at z; omega)]; exact r20 i hi
  have r21 : ∀ i, i < c → rI h5 (A 21) i = nI (g i) := fun i hi => by rw [rr5 21 (lv_lit (by decide) (by decide)) (fun z => by unfold cmR at z; omega)]; exact r21 i hi
  have n4 : fI h5 604 (A 17) = nI p := by rw [f5.fI (fun z => z)]; exact n4
  have n5 : fI h5 605 (A 17) = nI c := by rw [f5.fI (fun z => z)]; exact n5
  have fh5 : FX A (fun f => f = 604 ∨ f = 605) no1 puR no1 h h5 := fn4.trans (Fr.mono f5 (fun _ _ q => q.elim) (fun _ _ q => q) (fun a ⟨i, q, y⟩ => ⟨i, by unfold cmR at q; unfold puR; omega, y⟩) (fun a q => q))
  have g5 : XgL h5 A D := gL.fr fh5 (fun f z => by omega) (fun f z => z.elim)
  have o5 : OfX h5 A D := fun u hu => by rw [fh5.fL (fun z => z)]; exact of u hu
  obtain ⟨h6, e6, f6, w6⟩ := measureX (N := N) S5 hN rfl g5 w wP o5 hs ht hst hb x y r20 r21 n4 n5 w5
  have S6 := f6.shX S5
  rw [vX6 S5, e6, Option.bind_some]
  have rr6 : ∀ i, lvX (dn D) i → ¬ meR i → rI h6 (A i) = rI h5 (A i) := fun i hi hn => f6.rI (RA_no S5 meR_lv hi hn)
  have q6 : QuX h6 A p c f g (pw D s t b) (fun k => decide (0 ≤ k)) (fun _ => true) := by
    refine ⟨by rw [f6.fI (fun z => z)]; exact n4, by rw [f6.fI (fun z => z)]; exact n5, fun i hi => ?_, fun i hi => ?_, w6, fun l hl => ?_, fun m hm => ?_⟩
    · rw [rr6 20 (lv_lit (by decide) (by decide)) (fun z => by unfold meR at z; omega)]; exact r20 i hi
    · rw [rr6 21 (lv_lit (by decide) (by decide)) (fun z => by unfold meR at z; omega)]; exact r21 i hi
    · rw [rr6 22 (lv_lit (by decide) (by decide)) (fun z => by unfold meR at z; omega), s5.1 l hl]
      show bI (!true) = bI (!decide (0 ≤ l))
      rw [decide_eq_true (Nat.zero_le l)]
    · rw [rr6 23 (lv_lit (by decide) (by decide)) (fun z => by unfold meR at z; omega), s5.2 m hm]
  obtain ⟨h7, e7, f7⟩ := bestX (N := N) S6 hN q6 p16 c16 (fun i hi => (x.2.1 i hi).1) (fun i hi => (y.2.1 i hi).1) (fun l m => pw_le D s t b l m)
  have eo := OrdL.opt wP hb x y 0 (fun _ => true)
  rw [← eo] at e7
  have ob : opt (pw D s t b) 0 (fun _ => true) ≤ 1600000 := by
    rw [eo]
    have := bsK_bd (v := mkW (fun k m => pw D s t b (f k) (g m)) (fun k => decide (0 ≤ f k)) (fun m => true)) (n := p) (c := c) (fun k m => by
      unfold mkW
      split
      · exact pw_le _ _ _ _ _ _
      · omega) p 0 0 (by omega) (by omega)
    omega
  have S7 := f7.shX S6
  have q7 := QuX.fr S6 f7 beR_lv q6 (fun z => z) (fun z => z) (fun i z => by unfold beR at z; omega)
  have fh7 : FX A (fun f => f = 604 ∨ f = 605) no1 puR no1 h h7 := (fh5.trans (Fr.mono f6 (fun _ _ q => q.elim) (fun _ _ q => q) (fun a ⟨i, q, y⟩ => ⟨i, by unfold meR at q; unfold puR; omega, y⟩) (fun a q => q))).trans (Fr.mono f7 (fun _ _ q => q.elim) (fun _ _ q => q) (fun a ⟨i, q, y⟩ => ⟨i, by unfold beR at q; unfold puR; omega, y⟩) (fun a q => q))
  have w16 := (w.1 (3 * s + b) (by omega)).1
  obtain ⟨h8, e8, f8, p8⟩ := linesX (N := N) S hN rfl gL w wP hs ht hb hst x y (dsz D (3 * s + b)) 0 N h7 (opt (pw D s t b) 0 (fun _ => true)) (by omega) (by omega) (Fr.mono fh7 (fun f _ q => by unfold puF; omega) (fun _ _ q => q) (fun a q => q) (fun a q => q)) q7 rfl ob (keep fh7 (by omega) (by omega))
  rw [nI_0] at e8
  rw [vX6 S6, e7, Option.bind_some]
  show ∃ h', ((s_X6_pairUp_L124 N N (A 17) (nI s) (nI t) (some (A (200 + (3 * s + b)))) (some (A (200 + (3 * t + b)))) (nI (opt (pw D s t b) 0 (fun _ => true))) 0 h7).bind _) = _ ∧ _
  rw [e8, Option.bind_some]
  exact ⟨h8, rfl, f8, p8⟩
end
