/-! ===== the reference pairs ===== -/
def paF (f : Nat) : Prop := f = 1257 ∨ f = 1258 ∨ f = 1267
def paR (i : Nat) : Prop := i = 19 ∨ i = 59 ∨ i = 60 ∨ i = 62 ∨ i = 63 ∨ i = 64 ∨ i = 66
def paQ (i : Nat) : Prop := i = 61 ∨ i = 65
abbrev FrPA (m : Nat) (ar : Nat → Nat) : IH → IH → Prop := FM m ar paF (e1 1268) paR paQ
theorem paR_row : mRow paR := fun i q => by rcases q with q | q | q | q | q | q | q <;> subst q <;> decide
theorem paQ_row : mRow paQ := fun i q => by rcases q with q | q <;> subst q <;> decide
section
variable {m : Nat} {ar : Nat → Nat} {N : Nat} {D : Dt} {s t b R C : Nat} {ρ κ : Nat → Nat}
theorem FrY.toPA {h h' : IH} (x : FrY m ar h h') : FrPA m ar h h' := Fr.mono x (fun f a q => ⟨by rcases q.1 with z | z; exact Or.inl z; exact Or.inr (Or.inl z), q.2⟩) (fun f a q => q.1.elim) (fun a ⟨i, q, y⟩ => ⟨i, by unfold laR at q; unfold paR; omega, y⟩) (fun a ⟨i, q, y⟩ => ⟨i, Or.inl q, y⟩)
theorem FrS.toPA {h h' : IH} (x : FrS m ar h h') : FrPA m ar h h' := Fr.mono x (fun f a q => ⟨Or.inr (Or.inr q.1), q.2⟩) (fun f a q => q) (fun a ⟨i, q, y⟩ => ⟨i, by unfold soR at q; unfold paR; omega, y⟩) (fun a ⟨i, q, y⟩ => ⟨i, Or.inr q, y⟩)
/-- what solve answers, in lines -/
theorem solveV {h : IH} (S : ShM h m ar) (hN : 1000000 ≤ N) (wP : WgP D) {tk : Nat → Bool} (g : GrM h m ar R C (cI D s t b ρ κ) tk) (er : Enm (rwB D s t b) 16 R ρ) (ec : Enm (rwB D t s b) 16 C κ) (hb : b < 3) {f0 l : Nat} {Q : Nat → Bool} (hf0 : f0 ≤ R) (hl : ∀ i, i < R → (f0 ≤ i ↔ l ≤ ρ i)) (hQ : ∀ j, j < C → tk j = !Q (κ j)) : ∃ h' M V, s_X12_solve N h m (nI f0) = some h' ∧ FrS m ar h h' ∧ fI h' 1267 m = nI M ∧ (fL h' 1268 m).toInt = ((V : Nat) : Int) ∧ M ≤ 16 ∧ V ≤ 57600 ∧ V ≤ 100000 * M ∧ opt (pw D s t b) l Q = 100000 * M - V := by
  obtain ⟨h', F, G, e, f, so, β, ce⟩ := solveM S hN g hf0
  have hc : ∀ i j, cI D s t b ρ κ i j ≤ 3600 := fun i j => (cI_bd wP s t b ρ κ i j).2
  obtain ⟨mx, le⟩ := cert_mx hc so.1 ce
  have R16 := er.1
  refine ⟨h', nM F R, sF (cI D s t b ρ κ) F R, e, f, so.2.2.2.1, so.2.2.2.2, by have := cnt_le_R (R := R) F; omega, sF_bd hc R16, le, ?_⟩
  refine opt_eq (IsMx.map (ρ := ρ) (κ := κ) mx (fun i hi => (er.2.1 i hi).1) er.inj (fun j hj => (ec.2.1 j hj).1) ec.inj (fun i j _ _ => cI_w wP s t b ρ κ i j) (fun i hi => decide_eq_decide.mpr (hl i hi)) (fun j hj => by rw [hQ j hj, Bool.not_not]) (fun i j hi hj _ _ hw => ?_))
  have ps := (pw_pos wP.1.2 hw).1
  rw [dsB_iff] at ps
  have es : ∀ u k, k < 16 → eX u b k / 48 = u := fun u k hk => by unfold eX; omega
  rw [es s i hi, es t j hj] at ps
  exact ⟨er.2.2.2 i hi (decide_eq_true ps.2.1), ec.2.2.2 j hj (decide_eq_true ps.2.2.1)⟩
/-- partners so far -/
def PrI (h h0 : IH) (ar : Nat → Nat) (D : Dt) (s t b : Nat) (M : Nat → Option Nat) : Prop := ∀ e, e < 576 → rI h (ar 19) e = if e / 16 = 3 * s + b ∧ tgO D e = some t then oI ((M (e % 16)).map (eX t b)) else if e / 16 = 3 * t + b ∧ tgO D e = some s then oI ((invC M (e % 16)).map (eX s b)) else rI h0 (ar 19) e
/-- the state at a line -/
def PaI (h h0 : IH) (m : Nat) (ar : Nat → Nat) (D : Dt) (s t b R C : Nat) (ρ κ : Nat → Nat) (l : Nat) (x4 : Int32) (x5 : Int64) : Prop := FrPA m ar h0 h ∧ EnR h m ar D s t b 1257 59 16 R ρ ∧ EnR h m ar D t s b 1258 60 16 C κ ∧ (∃ tk, GrM h m ar R C (cI D s t b ρ κ) tk ∧ ∀ j, j < C → tk j = !(gS (pw D s t b) l).1 (κ j)) ∧ PrI h h0 ar D s t b (gS (pw D s t b) l).2.2 ∧ ∃ many sum : Nat, x4 = nI many ∧ x5.toInt = (sum : Int) ∧ many ≤ 16 ∧ sum ≤ 57600 ∧ sum ≤ 100000 * many ∧ (gS (pw D s t b) l).2.1 = 100000 * many - sum
theorem nI_m1 (k : Nat) : nI (k + 1) + (-1) = nI k := by
  rw [← nI_1, Int32.add_assoc, show (1 : Int32) + -1 = 0 by decide, Int32.add_zero]
theorem EnR.fr {H H' : IH} {F G Rw Q : Nat → Prop} {u v fn rn k R : Nat} {ρ : Nat → Nat} (SH : ShM H m ar) (f : FM m ar F G Rw Q H H') (hRw : mRow Rw) (hk : mKd rn ≠ 0) (nF : ¬ F fn) (nR : ¬ Rw rn) (q : EnR H m ar D u v b fn rn k R ρ) : EnR H' m ar D u v b fn rn k R ρ := by
  refine ⟨q.1, by rw [mfI f nF]; exact q.2.1, fun i hi => ?_⟩
  rw [mrI SH f hRw hk nR]
  exact q.2.2 i hi
/-- a row that has its partner: nothing more -/
theorem doneM {H : IH} (S : ShM H m ar) (hb : b < 3) (hs : s < 12) (q1 : EnR H m ar D s t b 1257 59 16 R ρ) (q2 : EnR H m ar D t s b 1258 60 16 C κ) {i u : Nat} (hi : i < R) (hu : u < 576) (hp : rI H (ar 19) (eX s b (ρ i)) = nI u) (x4 : Int32) (x5 : Int64) : ∀ (r j z : Nat), j + r = C → r < z → s_X12_pairAll_L39 N z m x4 x5 (nI i) (nI j) H = some (x4, x5, H) := by
  have hR := q1.1.1
  have hC := q2.1.1
  have e58 : fI H (1200 + 58) m = nI C := q2.2.1
  intro r
  induction r with
  | zero =>
    intro j z hj hz
    obtain ⟨z, rfl⟩ : ∃ y, z = y + 1 := ⟨z - 1, by omega⟩
    rw [s_X12_pairAll_L39.eq_2, mgI 58 S.1, Option.bind_some, e58, if_pos (nI_le (by omega) (by omega))]
  | succ r ih =>
    intro j z hj hz
    obtain ⟨z, rfl⟩ : ∃ y, z = y + 1 := ⟨z - 1, by omega⟩
    have hl : eX s b (ρ i) < 576 := by have := (q1.1.2.1 i hi).1; unfold eX; omega
    rw [s_X12_pairAll_L39.eq_2, mgI 58 S.1, Option.bind_some, e58, if_neg (nI_ge (by omega) (by omega)), mgR 61 S (by decide), Option.bind_some, show (16 : Int32) = nI 16 from rfl, nI_mul, nI_add, maJ 61 _ S (by decide) (show 16 * i + j < 256 by omega), Option.bind_some, nI_1 j]
    by_cases c0 : lg_cmp (rL H (ar 61) (16 * i + j)) 0 < 0
    · rw [if_pos c0, Option.bind_some]
      exact ih (j + 1) z (by omega) (by omega)
    · rw [if_neg c0, mgR 62 S (by decide), Option.bind_some, maZ 62 j S (by decide) (show j < 16 by omega), Option.bind_some]
      by_cases c1 : rI H (ar 62) j = 0
      · rw [if_pos c1, mgR 19 S (by decide), Option.bind_some, mgR 59 S (by decide), Option.bind_some, maI 59 i S (by decide) (show i < 16 by omega), Option.bind_some, q1.2.2 i hi, maI 19 _ S (by decide) (show eX s b (ρ i) < 576 from hl), Option.bind_some, hp, if_neg (nI_pos (by omega)), Option.bind_some]
        exact ih (j + 1) z (by omega) (by omega)
      · rw [if_neg c1, Option.bind_some]
        exact ih (j + 1) z (by omega) (by omega)
/-- the columns of a row -/
theorem colM {h0 : IH} (S : ShM h0 m ar) (hN : 1000000 ≤ N) (wP : WgP D) (hb : b < 3) (hs : s < 12) (ht : t < 12) (hst : s ≠ t) {i : Nat} (hi : i < R) : ∀ (r j z : Nat) (H : IH) (x4 : Int32) (x5 : Int64), j + r = C → r < z → PaI H h0 m ar D s t b R C ρ κ (ρ i) x4 x5 → (∀ j', j' < j → gdB (pw D s t b) (ρ i) (gS (pw D s t b) (ρ i)).1 (gS (pw D s t b) (ρ i)).2.1 (κ j') = false) → ∃ y4 y5 h', s_X12_pairAll_L39 N z m x4 x5 (nI i) (nI j) H = some (y4, y5, h') ∧ PaI h' h0 m ar D s t b R C ρ κ (ρ i + 1) y4 y5 := by
  intro r
  induction r with
  | zero =>
    intro j z H x4 x5 hj hz q hn
    obtain ⟨z, rfl⟩ : ∃ y, z = y + 1 := ⟨z - 1, by omega⟩
    have SH := q.1.shM S
    have q' := q
    obtain ⟨f, q1, q2, _⟩ := q'
    have hC := q2.1.1
    have e58 : fI H (1200 + 58) m = nI C := q2.2.1
    rw [s_X12_pairAll_L39.eq_2, mgI 58 SH.1, Option.bind_some, e58, if_pos (nI_le (by omega) (by omega))]
    refine ⟨x4, x5, H, rfl, ?_⟩
    have : fsM (gdB (pw D s t b) (ρ i) (gS (pw D s t b) (ρ i)).1 (gS (pw D s t b) (ρ i)).2.1) 16 = none := by
      rw [fsM_none]
      intro k hk
      cases c : gdB (pw D s t b) (ρ i) (gS (pw D s t b) (ρ i)).1 (gS (pw D s t b) (ρ i)).2.1 k with
      | false => rfl
      | true =>
        have ps := (pw_pos wP.1.2 (gdB_iff.mp c).2.1).1
        rw [dsB_iff, (show eX s b (ρ i) / 48 = s by have := (q1.1.2.1 i hi).1; unfold eX; omega), (show eX t b k / 48 = t by unfold eX; omega)] at ps
        obtain ⟨j', h1, h2⟩ := q2.1.2.2.2 k hk (decide_eq_true ps.2.2.1)
        have := hn j' (by omega)
        rw [h2, c] at this
        cases this
    unfold PaI
    rw [gS_s, this]
    exact q
  | succ r ih =>
    intro j z H x4 x5 hj hz q hn
    obtain ⟨z, rfl⟩ : ∃ y, z = y + 1 := ⟨z - 1, by omega⟩
    have SH := q.1.shM S
    have q' := q
    obtain ⟨f, q1, q2, ⟨tk, g, htk⟩, pr, many, sum, x4e, x5e, hm, hsu, hms, hv⟩ := q'
    have hR := q1.1.1
    have hC := q2.1.1
    have e58 : fI H (1200 + 58) m = nI C := q2.2.1
    have hri := q1.1.2.1 i hi
    have hkj := q2.1.2.1 j (by omega)
    have hl : eX s b (ρ i) < 576 := by unfold eX; omega
    have hl2 : eX t b (κ j) < 576 := by unfold eX; omega
    have far : (rL H (ar 61) (16 * i + j)).toInt = cI D s t b ρ κ i j := g.2.2.2.2.1 i j hi (by omega)
    have z0 : (0 : Int64).toInt = 0 := rfl
    have c0e : lg_cmp (rL H (ar 61) (16 * i + j)) 0 < 0 ↔ cI D s t b ρ κ i j < 0 := by rw [lc_lt, lLt, far, z0]
    have hw := cI_w wP s t b ρ κ i j
    have cb := cI_bd wP s t b ρ κ i j
    have next : gdB (pw D s t b) (ρ i) (gS (pw D s t b) (ρ i)).1 (gS (pw D s t b) (ρ i)).2.1 (κ j) = false → ∀ j', j' < j + 1 → gdB (pw D s t b) (ρ i) (gS (pw D s t b) (ρ i)).1 (gS (pw D s t b) (ρ i)).2.1 (κ j') = false := fun hx j' hj' => by
      by_cases c : j' = j
      · rw [c]; exact hx
      · exact hn j' (by omega)
    rw [s_X12_pairAll_L39.eq_2, mgI 58 SH.1, Option.bind_some, e58, if_neg (nI_ge (by omega) (by omega)), mgR 61 SH (by decide), Option.bind_some, show (16 : Int32) = nI 16 from rfl, nI_mul, nI_add, maJ 61 _ SH (by decide) (show 16 * i + j < 256 by omega), Option.bind_some, nI_1 j]
    by_cases c0 : cI D s t b ρ κ i j < 0
    · rw [if_pos (c0e.mpr c0), Option.bind_some]
      refine ih (j + 1) z H x4 x5 (by omega) (by omega) q (next ?_)
      cases c : gdB (pw D s t b) (ρ i) (gS (pw D s t b) (ρ i)).1 (gS (pw D s t b) (ρ i)).2.1 (κ j) with
      | false => rfl
      | true =>
        have := (gdB_iff.mp c).2.1
        rw [← hw, wM_pos (fun i j => (cI_bd wP s t b ρ κ i j).2)] at this
        omega
    · rw [if_neg (fun z => c0 (c0e.mp z)), mgR 62 SH (by decide), Option.bind_some, maZ 62 j SH (by decide) (show j < 16 by omega), Option.bind_some, g.2.2.2.2.2.1 j (by omega)]
      cases ctk : tk j with
      | true =>
        rw [if_neg (show ¬ bI true = 0 by decide), Option.bind_some]
        refine ih (j + 1) z H x4 x5 (by omega) (by omega) q (next ?_)
        cases c : gdB (pw D s t b) (ρ i) (gS (pw D s t b) (ρ i)).1 (gS (pw D s t b) (ρ i)).2.1 (κ j) with
        | false => rfl
        | true =>
          have := (gdB_iff.mp c).1
          have h2 := htk j (by omega)
          rw [ctk, this] at h2
          cases h2
      | false =>
        have hQ : (gS (pw D s t b) (ρ i)).1 (κ j) = true := by
          have h2 := htk j (by omega)
          rw [ctk] at h2
          cases c : (gS (pw D s t b) (ρ i)).1 (κ j) with
          | true => rfl
          | false => rw [c] at h2; cases h2
        have hM0 : (gS (pw D s t b) (ρ i)).2.2 (ρ i) = none := by
          cases c : (gS (pw D s t b) (ρ i)).2.2 (ρ i) with
          | none => rfl
          | some k => have := ((gS_inv (pw D s t b) (ρ i)).1 _ _ c).1; omega
        have xr : eX s b (ρ i) / 16 = 3 * s + b ∧ eX s b (ρ i) % 16 = ρ i := by unfold eX; omega
        have xc : eX t b (κ j) / 16 = 3 * t + b ∧ eX t b (κ j) % 16 = κ j := by unfold eX; omega
        have hp : rI H (ar 19) (eX s b (ρ i)) = oI none := by
          rw [pr _ hl, if_pos ⟨xr.1, of_decide_eq_true hri.2⟩, xr.2, hM0]
          rfl
        rw [if_pos (show bI false = 0 from rfl), mgR 19 SH (by decide), Option.bind_some, mgR 59 SH (by decide), Option.bind_some, maI 59 i SH (by decide) (show i < 16 by omega), Option.bind_some, q1.2.2 i hi, maI 19 _ SH (by decide) (show eX s b (ρ i) < 576 from hl), Option.bind_some, hp, if_pos oI_none, Option.bind_some, msZ 62 j SH (by decide) (show j < 16 by omega) (Or.inr rfl), Option.bind_some]
        have fa : FM m ar no1 no1 (e1 62) no1 H (setI H (ar 62) (upd (rI H (ar 62)) j 1)) := Fr.sI _ _ _ ⟨62, rfl, rfl⟩
        have r62 : mRow (e1 62) := fun i z => by cases z; decide
        have ga : GrM (setI H (ar 62) (upd (rI H (ar 62)) j 1)) m ar R C (cI D s t b ρ κ) (fun k => if k = j then true else tk k) := by
          refine ⟨g.1, g.2.1, g.2.2.1, g.2.2.2.1, g.2.2.2.2.1, fun k hk => ?_, g.2.2.2.2.2.2⟩
          rw [rI_setI]
          unfold upd
          by_cases c : k = j
          · rw [if_pos c]
            show 1 = bI (if k = j then true else tk k)
            rw [if_pos c]; rfl
          · rw [if_neg c]
            show _ = bI (if k = j then true else tk k)
            rw [if_neg c]
            exact g.2.2.2.2.2.1 k hk
        generalize setI H (ar 62) (upd (rI H (ar 62)) j 1) = H1 at *
        have SH1 := fa.shM SH
        have hQ1 : ∀ j', j' < C → (if j' = j then true else tk j') = !(woQ (gS (pw D s t b) (ρ i)).1 (κ j)) (κ j') := fun j' hj' => by
          by_cases c : j' = j
          · rw [if_pos c, c, woQ_same]; rfl
          · rw [if_neg c, woQ_ne _ (fun z => c (q2.1.inj j' j hj' (by omega) z))]
            exact htk j' hj'
        obtain ⟨h2, M, V, e2, f2, i2, l2, M16, V57, VM, ho⟩ := solveV (N := N) (f0 := i + 1) (l := ρ i + 1) (Q := woQ (gS (pw D s t b) (ρ i)).1 (κ j)) SH1 hN wP ga q1.1 q2.1 hb (by omega) (fun i' hi' => by have := q1.1.mono hi hi'; omega) hQ1
        have SH2 := f2.shM SH1
        have i2' : fI h2 (1200 + 67) m = nI M := i2
        have q1b : EnR h2 m ar D s t b 1257 59 16 R ρ := EnR.fr SH1 f2 soR_row (by decide) (fun z => by cases z) (fun z => by rcases z with z | z | z <;> cases z) (EnR.fr SH fa r62 (by decide) (fun z => z) (e1n (by decide)) q1)
        have q2b : EnR h2 m ar D t s b 1258 60 16 C κ := EnR.fr SH1 f2 soR_row (by decide) (fun z => by cases z) (fun z => by rcases z with z | z | z <;> cases z) (EnR.fr SH fa r62 (by decide) (fun z => z) (e1n (by decide)) q2)
        have gb : GrM h2 m ar R C (cI D s t b ρ κ) (fun k => if k = j then true else tk k) := GrM.fr SH1 f2 soR_row r65 ga (fun z => by cases z) (fun z => by cases z) (fun z => by rcases z with z | z | z <;> cases z) (e1n (by decide))
        have far2 : (rL h2 (ar 61) (16 * i + j)).toInt = cI D s t b ρ κ i j := gb.2.2.2.2.1 i j hi (by omega)
        have pr2 : PrI h2 h0 ar D s t b (gS (pw D s t b) (ρ i)).2.2 := fun e he => by
          rw [mrI SH1 f2 soR_row (by decide) (fun z => by rcases z with z | z | z <;> cases z), mrI SH fa r62 (by decide) (e1n (by decide))]
          exact pr e he
        have fPA2 : FrPA m ar h0 h2 := (f.trans (Fr.mono fa (fun _ _ q => q.1.elim) (fun _ _ q => q.1.elim) (fun a ⟨i, q, y⟩ => ⟨i, by cases q; unfold paR; omega, y⟩) (fun a ⟨i, q, y⟩ => q.elim))).trans (FrS.toPA f2)
        -- whether it is the one
        have good : gdB (pw D s t b) (ρ i) (gS (pw D s t b) (ρ i)).1 (gS (pw D s t b) (ρ i)).2.1 (κ j) = true ↔ 1 + M = many ∧ cI D s t b ρ κ i j + (V : Int) = (sum : Int) := by
          have hwv : (pw D s t b (ρ i) (κ j) : Int) = 100000 - cI D s t b ρ κ i j := by
            rw [← hw]
            unfold wM
            rw [if_pos (by omega)]
            omega
          rw [gdB_iff, ho, hv]
          exact ⟨fun z => (by have := z.2; omega), fun z => ⟨hQ, by omega, by omega⟩⟩
        have e26 : (rL h2 (ar 61) (16 * i + j) + fL h2 (1200 + 68) m).toInt = cI D s t b ρ κ i j + (V : Int) := by
          have l2 : (fL h2 (1200 + 68) m).toInt = ((V : Nat) : Int) := l2
          rw [la (by rw [far2, l2]; omega) (by rw [far2, l2]; omega), far2, l2]
        -- it is not: all as before
        have back : gdB (pw D s t b) (ρ i) (gS (pw D s t b) (ρ i)).1 (gS (pw D s t b) (ρ i)).2.1 (κ j) = false → ∃ y4 y5 h', s_X12_pairAll_L39 N z m x4 x5 (nI i) (nI (j + 1)) (setI h2 (ar 62) (upd (rI h2 (ar 62)) j 0)) = some (y4, y5, h') ∧ PaI h' h0 m ar D s t b R C ρ κ (ρ i + 1) y4 y5 := fun hx => by
          have fb : FM m ar no1 no1 (e1 62) no1 h2 (setI h2 (ar 62) (upd (rI h2 (ar 62)) j 0)) := Fr.sI _ _ _ ⟨62, rfl, rfl⟩
          refine ih (j + 1) z _ x4 x5 (by omega) (by omega) ⟨?_, ?_, ?_, ⟨tk, ⟨gb.1, gb.2.1, gb.2.2.1, gb.2.2.2.1, gb.2.2.2.2.1, fun k hk => ?_, gb.2.2.2.2.2.2⟩, htk⟩, fun e he => ?_, many, sum, x4e, x5e, hm, hsu, hms, hv⟩ (next hx)
          · exact fPA2.trans (Fr.mono fb (fun _ _ q => q.1.elim) (fun _ _ q => q.1.elim) (fun a ⟨i, q, y⟩ => ⟨i, by cases q; unfold paR; omega, y⟩) (fun a ⟨i, q, y⟩ => q.elim))
          · exact EnR.fr SH2 fb r62 (by decide) (fun z => z) (e1n (by decide)) q1b
          · exact EnR.fr SH2 fb r62 (by decide) (fun z => z) (e1n (by decide)) q2b
          · rw [rI_setI]
            unfold upd
            by_cases c : k = j
            · rw [if_pos c, c, ctk]; rfl
            · rw [if_neg c]
              have := gb.2.2.2.2.2.1 k hk
              rw [this]
              show bI (if k = j then true else tk k) = _
              rw [if_neg c]
          · rw [mrI SH2 fb r62 (by decide) (e1n (by decide))]
            exact pr2 e he
        rw [mV12 SH1, nI_1 i, e2, Option.bind_some, mgI 67 SH2.1, Option.bind_some, i2', show (1 : Int32) = nI 1 from rfl, nI_add, x4e]
        by_cases cm : 1 + M = many
        · rw [if_pos (show nI (1 + M) = nI many by rw [cm]), mgR 61 SH2 (by decide), Option.bind_some, maJ 61 _ SH2 (by decide) (show 16 * i + j < 256 by omega), Option.bind_some, mgL 68 SH2.1, Option.bind_some]
          by_cases cs : cI D s t b ρ κ i j + (V : Int) = (sum : Int)
          · have hg := good.mpr ⟨cm, cs⟩
            rw [if_pos ((lc_eq _ _).mpr (Int64.toInt_inj.mp (by rw [e26, x5e, cs]))), mgR 19 SH2 (by decide), Option.bind_some, mgR 59 SH2 (by decide), Option.bind_some, maI 59 i SH2 (by decide) (show i < 16 by omega), Option.bind_some, mgR 60 SH2 (by decide), Option.bind_some, maI 60 j SH2 (by decide) (show j < 16 by omega), Option.bind_some, q1b.2.2 i hi, q2b.2.2 j (by omega), msI 19 _ _ SH2 (by decide) (show eX s b (ρ i) < 576 from hl), Option.bind_some]
            have f3 : FM m ar no1 no1 (e1 19) no1 h2 (setI h2 (ar 19) (upd (rI h2 (ar 19)) (eX s b (ρ i)) (nI (eX t b (κ j))))) := Fr.sI _ _ _ ⟨19, rfl, rfl⟩
            have r19 : mRow (e1 19) := fun i z => by cases z; decide
            have p3 : rI (setI h2 (ar 19) (upd (rI h2 (ar 19)) (eX s b (ρ i)) (nI (eX t b (κ j))))) (ar 19) = upd (rI h2 (ar 19)) (eX s b (ρ i)) (nI (eX t b (κ j))) := rI_setI _ _ _
            generalize setI h2 (ar 19) (upd (rI h2 (ar 19)) (eX s b (ρ i)) (nI (eX t b (κ j)))) = H3 at *
            have SH3 := f3.shM SH2
            have q1c := EnR.fr SH2 f3 r19 (by decide) (fun z => z) (e1n (by decide)) q1b
            have q2c := EnR.fr SH2 f3 r19 (by decide) (fun z => z) (e1n (by decide)) q2b
            rw [mgR 19 SH3 (by decide), Option.bind_some, mgR 60 SH3 (by decide), Option.bind_some, maI 60 j SH3 (by decide) (show j < 16 by omega), Option.bind_some, mgR 59 SH3 (by decide), Option.bind_some, maI 59 i SH3 (by decide) (show i < 16 by omega), Option.bind_some, q1c.2.2 i hi, q2c.2.2 j (by omega), msI 19 _ _ SH3 (by decide) (show eX t b (κ j) < 576 from hl2), Option.bind_some]
            have f4 : FM m ar no1 no1 (e1 19) no1 H3 (setI H3 (ar 19) (upd (rI H3 (ar 19)) (eX t b (κ j)) (nI (eX s b (ρ i))))) := Fr.sI _ _ _ ⟨19, rfl, rfl⟩
            have p4 : rI (setI H3 (ar 19) (upd (rI H3 (ar 19)) (eX t b (κ j)) (nI (eX s b (ρ i))))) (ar 19) = upd (rI H3 (ar 19)) (eX t b (κ j)) (nI (eX s b (ρ i))) := rI_setI _ _ _
            generalize setI H3 (ar 19) (upd (rI H3 (ar 19)) (eX t b (κ j)) (nI (eX s b (ρ i)))) = H4 at *
            have SH4 := f4.shM SH3
            have q1d := EnR.fr SH3 f4 r19 (by decide) (fun z => z) (e1n (by decide)) q1c
            have q2d := EnR.fr SH3 f4 r19 (by decide) (fun z => z) (e1n (by decide)) q2c
            have gd : GrM H4 m ar R C (cI D s t b ρ κ) (fun k => if k = j then true else tk k) := GrM.fr SH3 f4 r19 (fun i z => z.elim) (GrM.fr SH2 f3 r19 (fun i z => z.elim) gb (fun z => z) (fun z => z) (e1n (by decide)) (fun z => z)) (fun z => z) (fun z => z) (e1n (by decide)) (fun z => z)
            have far4 : (rL H4 (ar 61) (16 * i + j)).toInt = cI D s t b ρ κ i j := gd.2.2.2.2.1 i j hi (by omega)
            rw [mgR 61 SH4 (by decide), Option.bind_some, maJ 61 _ SH4 (by decide) (show 16 * i + j < 256 by omega), Option.bind_some, Option.bind_some]
            have ne : eX s b (ρ i) ≠ eX t b (κ j) := fun z => by rw [z, xc.1] at xr; omega
            have hp4 : rI H4 (ar 19) (eX s b (ρ i)) = nI (eX t b (κ j)) := by
              rw [p4, p3]
              unfold upd
              rw [if_neg ne, if_pos rfl]
            rw [doneM SH4 hb hs q1d q2d hi hl2 hp4 _ _ r (j + 1) z (by omega) (by omega)]
            refine ⟨_, _, H4, rfl, ?_, q1d, q2d, ?_⟩
            · exact (fPA2.trans (Fr.mono f3 (fun _ _ q => q.1.elim) (fun _ _ q => q.1.elim) (fun a ⟨i, q, y⟩ => ⟨i, by cases q; unfold paR; omega, y⟩) (fun a ⟨i, q, y⟩ => q.elim))).trans (Fr.mono f4 (fun _ _ q => q.1.elim) (fun _ _ q => q.1.elim) (fun a ⟨i, q, y⟩ => ⟨i, by cases q; unfold paR; omega, y⟩) (fun a ⟨i, q, y⟩ => q.elim))
            have fs : fsM (gdB (pw D s t b) (ρ i) (gS (pw D s t b) (ρ i)).1 (gS (pw D s t b) (ρ i)).2.1) 16 = some (κ j) := by
              rw [fsM_some]
              refine ⟨hkj.1, hg, fun k hk => ?_⟩
              cases c : gdB (pw D s t b) (ρ i) (gS (pw D s t b) (ρ i)).1 (gS (pw D s t b) (ρ i)).2.1 k with
              | false => rfl
              | true =>
                have ps := (pw_pos wP.1.2 (gdB_iff.mp c).2.1).1
                rw [dsB_iff, (show eX s b (ρ i) / 48 = s by unfold eX; omega), (show eX t b k / 48 = t by unfold eX; omega)] at ps
                obtain ⟨j', h1, h2⟩ := q2.1.2.2.2 k (by omega) (decide_eq_true ps.2.2.1)
                have := (q2.1.mono h1 (show j < C by omega)).mp (by omega)
                have := hn j' this
                rw [h2, c] at this
                cases this
            have gs1 : gS (pw D s t b) (ρ i + 1) = (woQ (gS (pw D s t b) (ρ i)).1 (κ j), (gS (pw D s t b) (ρ i)).2.1 - pw D s t b (ρ i) (κ j), upO (gS (pw D s t b) (ρ i)).2.2 (ρ i) (some (κ j))) := by
              rw [gS_s, fs]
              rfl
            rw [gs1]
            refine ⟨⟨_, gd, hQ1⟩, fun e he => ?_, M, V, ?_, ?_, M16, V57, VM, ?_⟩
            · have noJ : ∀ k, (gS (pw D s t b) (ρ i)).2.2 k ≠ some (κ j) := fun k z => by
                have := ((gS_inv (pw D s t b) (ρ i)).1 _ _ z).2.2.2
                rw [hQ] at this
                cases this
              show _ = if _ then oI ((upO (gS (pw D s t b) (ρ i)).2.2 (ρ i) (some (κ j)) (e % 16)).map (eX t b)) else if _ then oI ((invC (upO (gS (pw D s t b) (ρ i)).2.2 (ρ i) (some (κ j))) (e % 16)).map (eX s b)) else _
              rw [invC_up hri.1 hM0 noJ, p4, p3]
              unfold upd
              by_cases ca : e = eX t b (κ j)
              · rw [if_pos ca, if_neg (fun z => by have := z.1; rw [ca, xc.1] at this; omega), if_pos ⟨by rw [ca]; exact xc.1, by rw [ca]; exact of_decide_eq_true hkj.2⟩, if_pos (by rw [ca]; exact xc.2)]
                rfl
              · rw [if_neg ca]
                by_cases cb : e = eX s b (ρ i)
                · rw [if_pos cb, if_pos ⟨by rw [cb]; exact xr.1, by rw [cb]; exact of_decide_eq_true hri.2⟩]
                  unfold upO
                  rw [if_pos (by rw [cb]; exact xr.2)]
                  rfl
                · rw [if_neg cb, pr2 e he]
                  by_cases cc : e / 16 = 3 * s + b ∧ tgO D e = some t
                  · rw [if_pos cc, if_pos cc]
                    unfold upO
                    rw [if_neg (fun z => cb (by rw [← z]; unfold eX; omega))]
                  · rw [if_neg cc, if_neg cc]
                    by_cases cd : e / 16 = 3 * t + b ∧ tgO D e = some s
                    · rw [if_pos cd, if_pos cd, if_neg (fun z => ca (by rw [← z]; unfold eX; omega))]
                    · rw [if_neg cd, if_neg cd]
            · rw [← cm, Nat.add_comm 1 M]
              exact nI_m1 M
            · rw [ls (by rw [x5e, far4]; omega) (by rw [x5e, far4]; omega), x5e, far4]
              omega
            · show (gS (pw D s t b) (ρ i)).2.1 - pw D s t b (ρ i) (κ j) = _
              have := (gdB_iff.mp hg).2.2
              rw [ho] at this
              omega
          · rw [if_neg (fun z => cs (by have := (lc_eq _ _).mp z; rw [← x5e, ← this, e26])), mgR 62 SH2 (by decide), Option.bind_some, msZ 62 j SH2 (by decide) (show j < 16 by omega) (Or.inl rfl), Option.bind_some, Option.bind_some, ← x4e]
            exact back (by
              cases c : gdB (pw D s t b) (ρ i) (gS (pw D s t b) (ρ i)).1 (gS (pw D s t b) (ρ i)).2.1 (κ j) with
              | false => rfl
              | true => exact absurd (good.mp c).2 cs)
        · rw [if_neg (fun z => cm ((nI_eq (by omega) (by omega)).mp z)), mgR 62 SH2 (by decide), Option.bind_some, msZ 62 j SH2 (by decide) (show j < 16 by omega) (Or.inl rfl), Option.bind_some, Option.bind_some, ← x4e]
          exact back (by
            cases c : gdB (pw D s t b) (ρ i) (gS (pw D s t b) (ρ i)).1 (gS (pw D s t b) (ρ i)).2.1 (κ j) with
            | false => rfl
            | true => exact absurd (good.mp c).1 cm)
end
