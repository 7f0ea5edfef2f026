/-! ===== calls that differ in one place ===== -/
def nearB (D : Dt) (e t : Nat) : Bool := decide (dtl D e = dcl D t) && decide (cnt (fun k => decide (dtb D e k ≠ dcb D t k)) (dtl D e) = 1)
theorem cnt_head (q : Nat → Bool) : ∀ l, cnt q (l + 1) = (if q 0 then 1 else 0) + cnt (fun k => q (k + 1)) l := by
  intro l
  induction l with
  | zero => show 0 + (if q 0 then 1 else 0) = (if q 0 then 1 else 0) + 0; rw [Nat.zero_add, Nat.add_zero]
  | succ l ih =>
    have e1 : cnt q (l + 1 + 1) = cnt q (l + 1) + (if q (l + 1) then 1 else 0) := rfl
    have e2 : cnt (fun k => q (k + 1)) (l + 1) = cnt (fun k => q (k + 1)) l + (if q (l + 1) then 1 else 0) := rfl
    rw [e1, e2, ih]
    omega
theorem cnt_rev (p : Nat → Bool) : ∀ l, cnt (fun k => p (l - 1 - k)) l = cnt p l := by
  intro l
  induction l with
  | zero => rfl
  | succ l ih =>
    have e2 : cnt p (l + 1) = cnt p l + (if p l then 1 else 0) := rfl
    rw [cnt_head, e2, ← ih, show l + 1 - 1 - 0 = l by omega, cnt_congr (q := fun k => p (l - 1 - k)) l (fun j _ => by show p (l + 1 - 1 - (j + 1)) = p (l - 1 - j); rw [show l + 1 - 1 - (j + 1) = l - 1 - j by omega])]
    omega
theorem cnt_ext {p : Nat → Bool} {a : Nat} : ∀ n, (∀ k, a ≤ k → k < a + n → p k = false) → cnt p (a + n) = cnt p a := by
  intro n
  induction n with
  | zero => intro _; rfl
  | succ n ih =>
    intro h
    have e : cnt p (a + (n + 1)) = cnt p (a + n) + (if p (a + n) then 1 else 0) := rfl
    rw [e, ih (fun k h1 h2 => h k h1 (by omega)), h (a + n) (by omega) (by omega)]
    rfl
theorem allB_get {p : Int32 → Bool} {b : Nat → Int32} : ∀ l k, allB p b l 0 = true → k < l → p (b k) = true := by
  intro l
  induction l with
  | zero => intro k _ h; omega
  | succ l ih =>
    intro k h hk
    obtain ⟨h1, h2⟩ := allB_snoc h
    rw [Nat.zero_add] at h2
    by_cases c : k = l
    · rw [c]; exact h2
    · exact ih k h1 (by omega)
theorem cbt_0 {b : Nat → Int32} {l k : Nat} (h : allB clB b l 0 = true) : cbt b l k = 0 ↔ l ≤ k := by
  unfold cbt
  by_cases c : k < l
  · have := clB_bd (allB_get l (l - 1 - k) h (by omega))
    rw [if_pos c]
    omega
  · rw [if_neg c]
    omega
theorem cbt_lt {b : Nat → Int32} {l k : Nat} (h : allB clB b l 0 = true) : cbt b l k < 256 := by
  unfold cbt
  by_cases c : k < l
  · have := clB_bd (allB_get l (l - 1 - k) h (by omega))
    rw [if_pos c]
    omega
  · rw [if_neg c]
    omega
theorem byteX {b : Nat → Int32} {l k : Nat} (hl : l ≤ 6) (h : allB clB b l 0 = true) (hk : k < 6) : ((calV b l 0 0).toUInt64 >>> ((nI (8 * k)).toInt64.toUInt64 &&& Int64.toUInt64 63)).toInt64 &&& 255 = (UInt64.ofNat (cbt b l k)).toInt64 := by
  obtain ⟨e, hb⟩ := calV_N hl h
  have : cvN b l 0 0 / 256 ^ k ≤ cvN b l 0 0 := Nat.div_le_self _ _
  rw [e, shr64 hb hk, and64 (by omega), cvN_byte l k h]
/-- whether two calls differ in one place -/
def misB (l : Nat) (b : Nat → Int32) (l' : Nat) (b' : Nat → Int32) : Bool := decide (l = l') && decide (cnt (fun k => decide (b k ≠ b' k)) l = 1)
theorem misX {h : IH} {a N : Nat} (hN : 2000 ≤ N) {b b' : Nat → Int32} {l l' : Nat} (ka : kd h a = 3) (hl : l ≤ 6) (hl' : l' ≤ 6) (h1 : allB clB b l 0 = true) (h2 : allB clB b' l' 0 = true) (hc : fL h 203 a = calV b l 0 0) : s_X2_isMisheardFrom N h a (calV b' l' 0 0) = some (bI (misB l b l' b')) := by
  have ne : ∀ k, (cbt b l k = 0 ↔ l ≤ k) ∧ (cbt b' l' k = 0 ↔ l' ≤ k) := fun k => ⟨cbt_0 h1, cbt_0 h2⟩
  have L : ∀ (r k z : Nat), k + r = 6 → r < z → (∀ j, j < k → (j < l ↔ j < l')) → s_X2_isMisheardFrom_L5 N z a (calV b' l' 0 0) (nI (cnt (fun k => decide (cbt b l k ≠ cbt b' l' k)) k)) (nI (8 * k)) h = some (if l = l' then .inr (nI (cnt (fun k => decide (cbt b l k ≠ cbt b' l' k)) 6)) else .inl 0) := by
    intro r
    induction r with
    | zero =>
      intro k z hk hz q
      obtain ⟨z, rfl⟩ : ∃ y, z = y + 1 := ⟨z - 1, by omega⟩
      have : k = 6 := by omega
      subst this
      have ll : l = l' := by
        rcases (show l < l' ∨ l = l' ∨ l' < l by omega) with c | c | c
        · have := q l (by omega); omega
        · exact c
        · have := q l' (by omega); omega
      rw [s_X2_isMisheardFrom_L5.eq_2, if_pos (by decide), if_pos ll]
    | succ r ih =>
      intro k z hk hz q
      obtain ⟨z, rfl⟩ : ∃ y, z = y + 1 := ⟨z - 1, by omega⟩
      have c1 := cbt_lt (k := k) h1
      have c2 := cbt_lt (k := k) h2
      have cl := cnt_le (fun k => decide (cbt b l k ≠ cbt b' l' k)) k
      have e203 : fL h (100 * 2 + 3) a = calV b l 0 0 := hc
      have z64 : (0 : Int64) = (UInt64.ofNat 0).toInt64 := by decide
      have e8 : nI (8 * k) + 8 = nI (8 * (k + 1)) := by
        rw [show (8 : Int32) = nI 8 from rfl, nI_add]
        congr 1
      rw [s_X2_isMisheardFrom_L5.eq_2, if_neg (show ¬ (48 : Int32) ≤ nI (8 * k) from nI_ge (b := 48) (by omega) (by omega)), gL_ok (c := 2) 3 ka, Option.bind_some, e203, byteX hl h1 (by omega), byteX hl' h2 (by omega), e8]
      have q4 : ((if lg_cmp (UInt64.ofNat (cbt b l k)).toInt64 (UInt64.ofNat (cbt b' l' k)).toInt64 = 0 then some (nI (cnt (fun k => decide (cbt b l k ≠ cbt b' l' k)) k)) else some (nI (cnt (fun k => decide (cbt b l k ≠ cbt b' l' k)) k) + 1)) : Option Int32) = some (nI (cnt (fun k => decide (cbt b l k ≠ cbt b' l' k)) (k + 1))) := by
        have e : cnt (fun k => decide (cbt b l k ≠ cbt b' l' k)) (k + 1) = cnt (fun k => decide (cbt b l k ≠ cbt b' l' k)) k + (if decide (cbt b l k ≠ cbt b' l' k) then 1 else 0) := rfl
        have ic := (lc_eq (UInt64.ofNat (cbt b l k)).toInt64 (UInt64.ofNat (cbt b' l' k)).toInt64).trans (u64_inj (a := cbt b l k) (b := cbt b' l' k) (by omega) (by omega))
        rw [e]
        by_cases d : cbt b l k = cbt b' l' k
        · rw [if_pos (ic.mpr d), decide_eq_false (fun z => z d)]
          rfl
        · rw [if_neg (fun z => d (ic.mp z)), decide_eq_true d, nI_1]
          rfl
      have q6 : ∀ x, x < 256 → ((if lg_cmp (UInt64.ofNat x).toInt64 0 = 0 then some 1 else some 0) : Option Int32) = some (bI (decide (x = 0))) := fun x hx => by
        have ic : lg_cmp (UInt64.ofNat x).toInt64 0 = 0 ↔ x = 0 := by
          rw [z64]
          exact (lc_eq _ _).trans (u64_inj (by omega) (by omega))
        by_cases d : x = 0
        · rw [if_pos (ic.mpr d), decide_eq_true d]; rfl
        · rw [if_neg (fun z => d (ic.mp z)), decide_eq_false d]; rfl
      rw [q4, Option.bind_some, q6 _ c1, Option.bind_some, q6 _ c2, Option.bind_some]
      by_cases d : (l ≤ k ↔ l' ≤ k)
      · have : decide (cbt b l k = 0) = decide (cbt b' l' k = 0) := decide_eq_decide.mpr (by rw [(ne k).1, (ne k).2]; exact d)
        rw [if_pos (by rw [this])]
        exact ih (k + 1) z (by omega) (by omega) (fun j hj => by
          by_cases e : j = k
          · rw [e]; omega
          · exact q j (by omega))
      · have hd : bI (decide (cbt b l k = 0)) ≠ bI (decide (cbt b' l' k = 0)) := fun z => d (by
          rw [← (ne k).1, ← (ne k).2]
          by_cases x1 : cbt b l k = 0 <;> by_cases x2 : cbt b' l' k = 0
          · exact ⟨fun _ => x2, fun _ => x1⟩
          · rw [decide_eq_true x1, decide_eq_false x2] at z; exact absurd z (by decide)
          · rw [decide_eq_false x1, decide_eq_true x2] at z; exact absurd z (by decide)
          · exact ⟨fun y => absurd y x1, fun y => absurd y x2⟩)
        rw [if_neg hd, if_neg (fun z => d (by rw [z]))]
  have e := L 6 0 N (by omega) (by omega) (fun j hj => absurd hj (by omega))
  have e0 : nI (8 * 0) = 0 := rfl
  have e1 : nI (cnt (fun k => decide (cbt b l k ≠ cbt b' l' k)) 0) = 0 := rfl
  rw [e0, e1] at e
  unfold s_X2_isMisheardFrom misB
  rw [e, Option.bind_some]
  by_cases ll : l = l'
  · have ec : cnt (fun k => decide (cbt b l k ≠ cbt b' l' k)) 6 = cnt (fun k => decide (b k ≠ b' k)) l := by
      have s1 := cnt_ext (p := fun k => decide (cbt b l k ≠ cbt b' l' k)) (a := l) (6 - l) (fun k h3 h4 => decide_eq_false (fun z => z (by rw [(ne k).1.mpr h3, (ne k).2.mpr (by omega)])))
      rw [show l + (6 - l) = 6 by omega] at s1
      rw [s1, ← cnt_rev (fun k => decide (b k ≠ b' k)) l]
      refine cnt_congr l (fun j hj => decide_eq_decide.mpr ?_)
      unfold cbt
      rw [if_pos hj, if_pos (by omega), ← ll]
      have b1 := clB_bd (allB_get l (l - 1 - j) h1 (by omega))
      have b2 := clB_bd (allB_get l' (l - 1 - j) h2 (by omega))
      constructor
      · intro z y; exact z (by rw [y])
      · intro z y; exact z (Int32.toInt_inj.mp (by omega))
    have cl := cnt_le (fun k => decide (b k ≠ b' k)) l
    rw [if_pos ll, Sum.elim_inr, ec, decide_eq_true ll, Bool.true_and]
    by_cases c : cnt (fun k => decide (b k ≠ b' k)) l = 1
    · rw [if_pos (by rw [c]; rfl), Option.bind_some, if_pos (Or.inr rfl), decide_eq_true c]
      rfl
    · rw [if_neg (show ¬ nI (cnt (fun k => decide (b k ≠ b' k)) l) = 1 from fun z => c ((nI_eq (by omega) (by omega)).mp (show nI _ = nI 1 from z))), Option.bind_some, if_pos (Or.inl rfl), decide_eq_false c]
      rfl
  · rw [if_neg ll, Sum.elim_inl, decide_eq_false ll]
    rfl
theorem misheardX {h : IH} {A : Nat → Nat} {n : Nat} (S : ShX h A n) {D : Dt} {N : Nat} (hN : 2000 ≤ N) (hn : n = dn D) (gL : XgL h A D) (w : WgL D) (wS : WgS D) {e t : Nat} (he : e / 16 < 3 * dn D) (ce : ctB D e = true) (ht : t < dn D) : s_X2_isMisheardFrom N h (A (1000 + e)) (calV (dcb D t) (dcl D t) 0 0) = some (bI (nearB D e t)) := by
  subst hn
  have h12 := S.1
  have we := ct_W w (show e < 576 by omega) ce
  have ws := wS.2.1 t ht
  exact misX hN (kEn S he) we.2.2.2.1 ws.2.2.2.2.2.1 (we.2.2.2.2.1 (ct_in ce).2).2 ws.2.2.2.2.2.2 ((enX gL he ce).2.2.2 (ct_in ce).2).1
theorem isNearM {h : IH} {m : Nat} {ar : Nat → Nat} (S : ShM h m ar) {D : Dt} {N : Nat} (hN : 2000 ≤ N) (gs : MgS h m ar D) (gL : MgL h m ar D) (wS : WgS D) (w : WgL D) {e t : Nat} (he : e < 576) (ce : ctB D e = true) (ht : t < dn D) : s_X12_isNear N h m (nI e) (nI t) = some (bI (nearB D e t)) := by
  have h12 := wS.1
  have we := ct_W w he ce
  have ws := wS.2.1 t ht
  have ge := enM gL he ce
  have gt := gs.2.1 t ht
  have l6 := we.2.2.2.1
  unfold s_X12_isNear nearB
  rw [mgR 13 S (by decide), Option.bind_some, maI 13 e S (by decide) (show e < 576 from he), Option.bind_some, mgR 6 S (by decide), Option.bind_some, maI 6 t S (by decide) (show t < 12 by omega), Option.bind_some, ge.2.2.2.1, gt.2.2.2.2.1]
  by_cases c : dtl D e = dcl D t
  · have L : ∀ (r k z : Nat), k + r = dtl D e → r < z → s_X12_isNear_L22 N z m (nI e) (nI t) (nI (cnt (fun k => decide (dtb D e k ≠ dcb D t k)) k)) (nI k) h = some (nI (cnt (fun k => decide (dtb D e k ≠ dcb D t k)) (dtl D e))) := by
      intro r
      induction r with
      | zero =>
        intro k z hk hz
        obtain ⟨z, rfl⟩ : ∃ y, z = y + 1 := ⟨z - 1, by omega⟩
        rw [s_X12_isNear_L22.eq_2, mgR 13 S (by decide), Option.bind_some, maI 13 e S (by decide) (show e < 576 from he), Option.bind_some, ge.2.2.2.1, if_pos (nI_le (by omega) (by omega)), show k = dtl D e by omega]
      | succ r ih =>
        intro k z hk hz
        obtain ⟨z, rfl⟩ : ∃ y, z = y + 1 := ⟨z - 1, by omega⟩
        rw [s_X12_isNear_L22.eq_2, mgR 13 S (by decide), Option.bind_some, maI 13 e S (by decide) (show e < 576 from he), Option.bind_some, ge.2.2.2.1, if_neg (nI_ge (by omega) (by omega)), mgR 14 S (by decide), Option.bind_some, show (6 : Int32) = nI 6 from rfl, nI_mul, nI_add, maI 14 _ S (by decide) (show 6 * e + k < 3456 by omega), Option.bind_some, mgR 7 S (by decide), Option.bind_some, nI_mul, nI_add, maI 7 _ S (by decide) (show 6 * t + k < 72 by omega), Option.bind_some, ge.2.2.2.2.1 k (by omega), gt.2.2.2.2.2 k (by omega), nI_1 k]
        have eC : cnt (fun k => decide (dtb D e k ≠ dcb D t k)) (k + 1) = cnt (fun k => decide (dtb D e k ≠ dcb D t k)) k + (if decide (dtb D e k ≠ dcb D t k) then 1 else 0) := rfl
        have nx := ih (k + 1) z (by omega) (by omega)
        by_cases d : dtb D e k = dcb D t k
        · rw [decide_eq_false (fun z => z d)] at eC
          rw [if_pos d, Option.bind_some, Int32.add_zero]
          rw [eC] at nx
          exact nx
        · rw [decide_eq_true d] at eC
          rw [if_neg d, Option.bind_some, nI_1]
          rw [eC] at nx
          exact nx
    have e0 := L (dtl D e) 0 N (by omega) (by omega)
    have e1 : nI (cnt (fun k => decide (dtb D e k ≠ dcb D t k)) 0) = 0 := rfl
    rw [e1, nI_0] at e0
    have cl := cnt_le (fun k => decide (dtb D e k ≠ dcb D t k)) (dtl D e)
    rw [if_pos (by rw [c]), e0, Option.bind_some, decide_eq_true c, Bool.true_and]
    by_cases d : cnt (fun k => decide (dtb D e k ≠ dcb D t k)) (dtl D e) = 1
    · rw [if_pos (by rw [d]; rfl), Option.bind_some, if_pos (Or.inr rfl), decide_eq_true d]
      rfl
    · rw [if_neg (show ¬ nI (cnt (fun k => decide (dtb D e k ≠ dcb D t k)) (dtl D e)) = 1 from fun z => d ((nI_eq (by omega) (by omega)).mp (show nI _ = nI 1 from z))), Option.bind_some, if_pos (Or.inl rfl), decide_eq_false d]
      rfl
  · have := ws.2.2.2.2.2.1
    rw [if_neg (fun z => c ((nI_eq (by omega) (by omega)).mp z)), decide_eq_false c]
    rfl
