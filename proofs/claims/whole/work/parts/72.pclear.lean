/-! ===== the class: contacts are named and their pairs taken away ===== -/
theorem fI_wfI_na (h : IH) {f a f' a' : Nat} (v : Int32) (hn : a' ≠ a) : fI (wfI h f a v) f' a' = fI h f' a' := u2_ne2 hn
theorem fL_wfL_na (h : IH) {f a f' a' : Nat} (v : Int64) (hn : a' ≠ a) : fL (wfL h f a v) f' a' = fL h f' a' := u2_ne2 hn
def TgX (h : IH) (A : Nat → Nat) (D : Dt) : Prop := ∀ e, e / 16 < 3 * dn D → ctB D e = true → fI h 206 (A (1000 + e)) = oI (tgO D e)
def clF (f : Nat) : Prop := f = 206 ∨ f = 207
def clI (H : IH) (A : Nat → Nat) (D : Dt) (k : Nat) : Prop := ∀ e, e < k → e / 16 < 3 * dn D → ctB D e = true → fI H 206 (A (1000 + e)) = oI (tgO D e) ∧ fI H 207 (A (1000 + e)) = -1
theorem clI_q {H : IH} {A : Nat → Nat} {D : Dt} (w : WgL D) {q k : Nat} (hq : q < 36) (hk : dsz D q ≤ k) (i : clI H A D (16 * q + k)) : clI H A D (16 * (q + 1)) := by
  intro e h1 h2 h3
  by_cases c : e < 16 * q + k
  · exact i e c h2 h3
  · have := (ct_in h3).1
    have e1 : e / 16 = q := by omega
    rw [e1] at this
    omega
theorem clearX {h : IH} {A : Nat → Nat} {n : Nat} (S : ShX h A n) {D : Dt} {N : Nat} (hN : 2000 ≤ N) (g : XgS h A D) (gL : XgL h A D) (w : WgL D) (hn : n = dn D) : ∀ (r s z : Nat) (H : IH), s + r = dn D → r < z → FX A clF no1 no1 no1 h H → clI H A D (48 * s) → ∃ h', s_X0_refresh_L15 N z (A 13) (nI s) H = some h' ∧ FX A clF no1 no1 no1 h h' ∧ clI h' A D (48 * dn D) := by
  subst hn
  have h12 := S.1
  -- the lines of one log
  have L1 : ∀ (q : Nat) (x2 : Option Nat) (x3 : Int32), q < 3 * dn D → ∀ (r i z : Nat) (H : IH), i + r = dsz D q → r < z → FX A clF no1 no1 no1 h H → clI H A D (16 * q + i) → ∃ h', s_X0_clearContacts_L30 N z (A 13) x2 x3 (some (A (200 + q))) (nI i) H = some h' ∧ FX A clF no1 no1 no1 h h' ∧ clI h' A D (16 * (q + 1)) := by
    intro q x2 x3 hq r
    have w16 := (w.1 q (by omega)).1
    have lq : lvQ (dn D) q := Or.inl hq
    induction r with
    | zero =>
      intro i z H hi hz fr inv
      obtain ⟨z, rfl⟩ : ∃ y, z = y + 1 := ⟨z - 1, by omega⟩
      have SH := fr.shX S
      have gH : XgL H A D := gL.fr fr (fun f z => by rcases z with z | z <;> subst z <;> omega) (fun f z => z.elim)
      rw [s_X0_clearContacts_L30.eq_2, if_neg (show ¬ some (A (200 + q)) = none from fun z => by cases z), gX4_1 SH lq, Option.bind_some, (gH q hq).2.1, if_pos (nI_le (by omega) (by omega))]
      exact ⟨H, rfl, fr, clI_q w (by omega) (by omega) inv⟩
    | succ r ih =>
      intro i z H hi hz fr inv
      obtain ⟨z, rfl⟩ : ∃ y, z = y + 1 := ⟨z - 1, by omega⟩
      have SH := fr.shX S
      have gH : XgL H A D := gL.fr fr (fun f z => by rcases z with z | z <;> subst z <;> omega) (fun f z => z.elim)
      have gSH : XgS H A D := g.fr fr (fun f z => by rcases z with z | z <;> subst z <;> omega) (fun z => z)
      have eq16 : (16 * q + i) / 16 = q := by omega
      rw [s_X0_clearContacts_L30.eq_2, if_neg (show ¬ some (A (200 + q)) = none from fun z => by cases z), gX4_1 SH lq, Option.bind_some, (gH q hq).2.1, if_neg (nI_ge (by omega) (by omega)), vX4 SH lq, contactX SH gH w rfl hq (by omega), Option.bind_some, nI_1]
      by_cases c : ctB D (16 * q + i) = true
      · have he : (16 * q + i) / 16 < 3 * dn D := by omega
        have k := kEn SH he
        have en := (enX gH he c).2.2.2 (ct_in c).2
        have k1 : kd (wfI H (100 * 2 + 6) (A (1000 + (16 * q + i))) (oI (withC D (dtl D (16 * q + i)) (dtb D (16 * q + i))))) (A (1000 + (16 * q + i))) = 2 + 1 := k
        rw [if_pos c, if_neg (show ¬ some (A (1000 + (16 * q + i))) = none from fun z => by cases z), gX0_0 SH, Option.bind_some, gL_ok (c := 2) 3 k, Option.bind_some]
        have ec : fL H (100 * 2 + 3) (A (1000 + (16 * q + i))) = calV (dtb D (16 * q + i)) (dtl D (16 * q + i)) 0 0 := en.1
        rw [ec, vX7 SH, numberOfX SH hN gSH rfl, Option.bind_some, pI_ok (c := 2) 6 _ k, Option.bind_some, pI_ok (c := 2) 7 _ k1, Option.bind_some, Option.bind_some]
        have f2 : FX A clF no1 no1 no1 H (wfI (wfI H (100 * 2 + 6) (A (1000 + (16 * q + i))) (oI (withC D (dtl D (16 * q + i)) (dtb D (16 * q + i))))) (100 * 2 + 7) (A (1000 + (16 * q + i))) (-1)) := (Fr.wI _ _ _ _ (Or.inl rfl)).trans (Fr.wI _ _ _ _ (Or.inr rfl))
        refine ih (i + 1) z _ (by omega) (by omega) (fr.trans f2) ?_
        intro e h1 h2 h3
        by_cases d : e = 16 * q + i
        · subst d
          constructor
          · rw [fI_wfI_ne _ _ (by decide)]
            refine (fI_wfI _ _ _ _).trans ?_
            unfold tgO
            rw [if_pos c]
          · exact fI_wfI _ _ _ _
        · have ne := neEn S h2 he d
          have o := inv e (by omega) h2 h3
          constructor
          · rw [fI_wfI_ne _ _ (by decide)]
            refine Eq.trans ?_ o.1
            exact fI_wfI_na _ _ ne
          · refine Eq.trans ?_ o.2
            refine (fI_wfI_na _ _ ne).trans ?_
            exact fI_wfI_ne _ _ (by decide)
      · rw [if_neg c, if_pos rfl, Option.bind_some]
        refine ih (i + 1) z H (by omega) (by omega) fr ?_
        intro e h1 h2 h3
        by_cases d : e = 16 * q + i
        · rw [d] at h3
          exact absurd h3 c
        · exact inv e (by omega) h2 h3
  -- the bands
  have L2 : ∀ (s : Nat), s < dn D → ∀ (r b z : Nat) (H : IH), b + r = 3 → r < z → FX A clF no1 no1 no1 h H → clI H A D (16 * (3 * s + b)) → ∃ h', s_X0_clearContacts_L11 N z (A 13) (some (A (100 + s))) (nI b) H = some h' ∧ FX A clF no1 no1 no1 h h' ∧ clI h' A D (48 * (s + 1)) := by
    intro s hs r
    induction r with
    | zero =>
      intro b z H hb hz fr inv
      obtain ⟨z, rfl⟩ : ∃ y, z = y + 1 := ⟨z - 1, by omega⟩
      rw [s_X0_clearContacts_L11.eq_2, if_pos (show (3 : Int32) ≤ nI b from nI_le (a := 3) (by omega) (by omega))]
      refine ⟨H, rfl, fr, ?_⟩
      rw [show 48 * (s + 1) = 16 * (3 * s + b) by omega]
      exact inv
    | succ r ih =>
      intro b z H hb hz fr inv
      obtain ⟨z, rfl⟩ : ∃ y, z = y + 1 := ⟨z - 1, by omega⟩
      have SH := fr.shX S
      obtain ⟨h', a1, a2, a3⟩ := L1 (3 * s + b) (some (A (100 + s))) (nI b) (by omega) (dsz D (3 * s + b)) 0 N H (by omega) (by have := (w.1 (3 * s + b) (by omega)).1; omega) fr (by rw [Nat.add_zero]; exact inv)
      rw [nI_0] at a1
      rw [s_X0_clearContacts_L11.eq_2, if_neg (show ¬ (3 : Int32) ≤ nI b from nI_ge (b := 3) (by omega) (by omega)), if_neg (show ¬ some (A (100 + s)) = none from fun z => by cases z), vX9 SH hs, logOfX SH hs (by omega), Option.bind_some, a1, Option.bind_some, nI_1]
      exact ih (b + 1) z h' (by omega) (by omega) a2 (by rw [show 3 * s + (b + 1) = 3 * s + b + 1 by omega]; exact a3)
  intro r
  induction r with
  | zero =>
    intro s z H hs hz fr inv
    obtain ⟨z, rfl⟩ : ∃ y, z = y + 1 := ⟨z - 1, by omega⟩
    have SH := fr.shX S
    have gSH : XgS H A D := g.fr fr (fun f z => by rcases z with z | z <;> subst z <;> omega) (fun z => z)
    rw [s_X0_refresh_L15.eq_2, gX0_0 SH, Option.bind_some, gX7_1 SH, Option.bind_some, gSH.1, if_pos (nI_le (by omega) (by omega))]
    have : s = dn D := by omega
    subst this
    exact ⟨H, rfl, fr, inv⟩
  | succ r ih =>
    intro s z H hs hz fr inv
    obtain ⟨z, rfl⟩ : ∃ y, z = y + 1 := ⟨z - 1, by omega⟩
    have SH := fr.shX S
    have gSH : XgS H A D := g.fr fr (fun f z => by rcases z with z | z <;> subst z <;> omega) (fun z => z)
    obtain ⟨h', a1, a2, a3⟩ := L2 s (by omega) 3 0 N H (by omega) (by omega) fr (by rw [show 16 * (3 * s + 0) = 48 * s by omega]; exact inv)
    rw [nI_0] at a1
    rw [s_X0_refresh_L15.eq_2, gX0_0 SH, Option.bind_some, gX7_1 SH, Option.bind_some, gSH.1, if_neg (nI_ge (by omega) (by omega)), vX0 SH]
    unfold s_X0_clearContacts
    rw [gX0_0 SH, Option.bind_some, vX7 SH, atX SH gSH rfl (by omega), Option.bind_some, a1, Option.bind_some, Option.bind_some, nI_1]
    exact ih (s + 1) z h' (by omega) (by omega) a2 a3
