/-! ===== how a clock is off: the class ===== -/
def agw (w o : Int) (g : Int64) : Bool := decide (g.toInt - o ≤ w ∧ o - g.toInt ≤ w)
def agB (D : Dt) (s c : Nat) (o : Int) : Bool := (gpC D s c).any (agw (dwin D).toInt o)
def agr (D : Dt) (s : Nat) (o : Int) : Nat := cnt (fun j => agB D s (48 * s + j) o) 48
def mny (D : Dt) (s : Nat) : Nat := cnt (fun k => mnB D s (48 * s + k)) 48
def okO (D : Dt) (s : Nat) (o : Int) : Bool := decide (mny D s < 2 * agr D s o)
theorem absJ (h : IH) {x : Int64} (hx : -9223372036854775808 < x.toInt) : ∃ y, s_J9_abs_067f4 h x = some y ∧ y.toInt = (x.toInt.natAbs : Int) := by
  unfold s_J9_abs_067f4
  have e : (0 ≤ lg_cmp x 0) ↔ 0 ≤ x.toInt := by
    have e1 : (0 ≤ lg_cmp x 0) ↔ ¬ (lg_cmp x 0 < 0) := by rw [iLe, iLt]; omega
    have z0 : (0 : Int64).toInt = 0 := rfl
    rw [e1, lc_lt, lLt, z0]
    omega
  by_cases c : 0 ≤ x.toInt
  · rw [if_pos (e.mpr c), Option.bind_some]
    exact ⟨x, rfl, by omega⟩
  · rw [if_neg (fun z => c (e.mp z)), Option.bind_some]
    refine ⟨-x, rfl, ?_⟩
    rw [lng hx]
    omega
/-- how many contacts agree, read off a list of gaps -/
def agS (p : Int64 → Bool) (st : Nat × Option Nat) (x : Nat × Int64) : Nat × Option Nat := if st.2 = some x.1 then st else if p x.2 = true then (st.1 + 1, some x.1) else st
theorem agS_seg (p : Int64 → Bool) (k : Nat) : ∀ (l : List Int64) (st : Nat × Option Nat), st.2 ≠ some k → (l.map (fun g => (k, g))).foldl (agS p) st = if l.any p = true then (st.1 + 1, some k) else st := by
  have done : ∀ (l : List Int64) (c : Nat), (l.map (fun g => (k, g))).foldl (agS p) (c, some k) = (c, some k) := by
    intro l
    induction l with
    | nil => intro c; rfl
    | cons g l ih =>
      intro c
      rw [List.map_cons, List.foldl_cons]
      have : agS p (c, some k) (k, g) = (c, some k) := by unfold agS; rw [if_pos rfl]
      rw [this]
      exact ih c
  intro l
  induction l with
  | nil => intro st _; rfl
  | cons g l ih =>
    intro st hst
    rw [List.map_cons, List.foldl_cons, List.any_cons]
    unfold agS
    rw [if_neg hst]
    by_cases c : p g = true
    · rw [if_pos c, c, Bool.true_or, if_pos rfl]
      exact done l _
    · rw [if_neg c, Bool.eq_false_iff.mpr c, Bool.false_or]
      exact ih st hst
theorem gp_none {D : Dt} (w : WgL D) (wn : dn D ≤ 12) {s c : Nat} (h : mnB D s c = false) : gpC D s c = [] := by
  unfold mnB at h
  unfold gpC
  cases ht : tgO D c with
  | none => rfl
  | some t =>
    rw [ht] at h
    have h : (decide (t ≠ s) && hlB D t) = false := h
    dsimp only
    by_cases e : t = s
    · rw [if_pos e]
    · rw [if_neg e]
      rw [decide_eq_true e, Bool.true_and] at h
      have htn := (tg_lt ht).1
      have hm : ∀ b, b < 3 → dsz D (3 * t + b) = 0 := by
        intro b hb
        unfold hlB at h
        rw [Bool.or_eq_false_iff, Bool.or_eq_false_iff] at h
        have : dms D (3 * t + b) = true := by
          have : b = 0 ∨ b = 1 ∨ b = 2 := by omega
          rcases this with q | q | q <;> subst q
          · have := h.1.1
            simpa using this
          · have := h.1.2
            simpa using this
          · have := h.2
            simpa using this
        exact (w.1 (3 * t + b) (by omega)).2.1 this
      have hb := hm (c / 16 % 3) (by omega)
      rw [gpJ_sz (by omega), hb]
      rfl
theorem fold_gf {D : Dt} (w : WgL D) (wn : dn D ≤ 12) (s : Nat) (p : Int64 → Bool) : ∀ j, ((gf D s j).foldl (agS p) (0, none)).1 = cnt (fun k => (gpC D s (48 * s + k)).any p) j ∧ ∀ k, ((gf D s j).foldl (agS p) (0, none)).2 = some k → k < cnt (fun k => mnB D s (48 * s + k)) j := by
  intro j
  induction j with
  | zero => exact ⟨rfl, fun k h => by cases h⟩
  | succ j ih =>
    have ec : cnt (fun k => mnB D s (48 * s + k)) (j + 1) = cnt (fun k => mnB D s (48 * s + k)) j + (if mnB D s (48 * s + j) then 1 else 0) := rfl
    have ea : cnt (fun k => (gpC D s (48 * s + k)).any p) (j + 1) = cnt (fun k => (gpC D s (48 * s + k)).any p) j + (if (gpC D s (48 * s + j)).any p then 1 else 0) := rfl
    unfold gf
    rw [List.foldl_append, ec, ea]
    generalize hst : (gf D s j).foldl (agS p) (0, none) = st at ih
    cases hm : mnB D s (48 * s + j) with
    | false =>
      rw [if_neg (by decide), gp_none w wn hm]
      exact ⟨ih.1, fun k hk => by have := ih.2 k hk; simpa using this⟩
    | true =>
      rw [if_pos rfl, agS_seg p _ _ st (fun z => by have := ih.2 _ z; omega)]
      by_cases c : (gpC D s (48 * s + j)).any p = true
      · rw [if_pos c, c]
        exact ⟨by rw [ih.1]; rfl, fun k hk => by cases hk; show _ < _ + 1; omega⟩
      · rw [if_neg c, Bool.eq_false_iff.mpr c]
        exact ⟨ih.1, fun k hk => by have := ih.2 k hk; show _ < _ + 1; omega⟩
theorem gp_bd {D : Dt} (w : WgL D) (wn : dn D ≤ 12) {s c : Nat} (hc : c < 576) : ∀ g ∈ gpC D s c, ∃ d, d < 576 ∧ ctB D d = true ∧ ctB D c = true ∧ g = dmo D d - dmo D c := by
  intro g hg
  unfold gpC at hg
  cases ht : tgO D c with
  | none => rw [ht] at hg; cases hg
  | some t =>
    rw [ht] at hg
    dsimp only at hg
    have htn := tg_lt ht
    by_cases e : t = s
    · rw [if_pos e] at hg
      cases hg
    · rw [if_neg e] at hg
      have : ∀ j, j ≤ 16 → g ∈ gpJ D s c t (c / 16 % 3) j → ∃ d, d < 576 ∧ ctB D d = true ∧ ctB D c = true ∧ g = dmo D d - dmo D c := by
        intro j
        induction j with
        | zero => intro _ h; cases h
        | succ j ih =>
          intro hj h
          unfold gpJ at h
          rcases List.mem_append.mp h with h | h
          · exact ih (by omega) h
          · split at h
            · rename_i q
              rw [List.mem_singleton] at h
              exact ⟨16 * (3 * t + c / 16 % 3) + j, by omega, q.1, htn.2, h⟩
            · cases h
      exact this 16 (by omega) hg
theorem gap_bd {D : Dt} (w : WgL D) {c d : Nat} (hc : c < 576) (hd : d < 576) (cc : ctB D c = true) (cd : ctB D d = true) : (dmo D d - dmo D c).toInt = (dmo D d).toInt - (dmo D c).toInt ∧ -9999999999 ≤ (dmo D d - dmo D c).toInt ∧ (dmo D d - dmo D c).toInt ≤ 9999999999 := by
  have w1 := (ct_W w hc cc).2.1
  have w2 := (ct_W w hd cd).2.1
  obtain ⟨a1, a2⟩ := w1
  obtain ⟨b1, b2⟩ := w2
  have e : (dmo D d - dmo D c).toInt = (dmo D d).toInt - (dmo D c).toInt := ls (by omega) (by omega)
  rw [e]
  exact ⟨rfl, by omega, by omega⟩
theorem gf_bd {D : Dt} (w : WgL D) (wn : dn D ≤ 12) {s : Nat} (hs : s < 12) : ∀ j, j ≤ 48 → ∀ x ∈ gf D s j, -9999999999 ≤ x.2.toInt ∧ x.2.toInt ≤ 9999999999 := by
  intro j
  induction j with
  | zero => intro _ x hx; cases hx
  | succ j ih =>
    intro hj x hx
    unfold gf at hx
    rcases List.mem_append.mp hx with h | h
    · exact ih (by omega) x h
    · split at h
      · obtain ⟨g, hg, rfl⟩ := List.mem_map.mp h
        obtain ⟨d, h1, h2, h3, h4⟩ := gp_bd w wn (show 48 * s + j < 576 by omega) g hg
        have := gap_bd w (show 48 * s + j < 576 by omega) h1 h3 h2
        rw [h4]
        exact this.2
      · cases h
/-- window and offsets in range -/
theorem mostX {h : IH} {A : Nat → Nat} {n : Nat} (S : ShX h A n) {D : Dt} {N s : Nat} (hN : 2000 ≤ N) (w : WgL D) (wn : dn D ≤ 12) (wP : WgP D) (hs : s < dn D) (gp : GpX h A (gf D s 48) (mny D s)) (o : Int64) (h1 : -20000000000 ≤ o.toInt) (h2 : o.toInt ≤ 20000000000) : s_X1_mostAgreeBy N h (A 14) o (dwin D) = some (bI (okO D s o.toInt)) := by
  have hlen := gf_len D s 48
  have hw := wP.1
  have kb : ∀ j, j ≤ 48 → ∀ x ∈ gf D s j, x.1 < 100 := by
    intro j
    induction j with
    | zero => intro _ x hx; cases hx
    | succ j ih =>
      intro hj x hx
      unfold gf at hx
      rcases List.mem_append.mp hx with h | h
      · exact ih (by omega) x h
      · split at h
        · obtain ⟨g, hg, rfl⟩ := List.mem_map.mp h
          have := cnt_le (fun k => mnB D s (48 * s + k)) j
          show cnt (fun k => mnB D s (48 * s + k)) j < 100
          omega
        · cases h
  have fg := (fold_gf w wn s (agw (dwin D).toInt o.toInt) 48).1
  have bd : ∀ x ∈ gf D s 48, x.1 < 100 ∧ -9999999999 ≤ x.2.toInt ∧ x.2.toInt ≤ 9999999999 := fun x hx => ⟨kb 48 (Nat.le_refl _) x hx, gf_bd w wn (by omega) 48 (Nat.le_refl _) x hx⟩
  clear kb
  have ea : cnt (fun k => (gpC D s (48 * s + k)).any (agw (dwin D).toInt o.toInt)) 48 = agr D s o.toInt := rfl
  rw [ea] at fg
  generalize gf D s 48 = G at gp hlen fg bd
  have L : ∀ (l2 l1 : List (Nat × Int64)) (z : Nat) (st : Nat × Option Nat), G = l1 ++ l2 → l2.length < z → st.1 ≤ l1.length → (∀ k, st.2 = some k → k < 100) → (∀ x ∈ l2, x.1 < 100 ∧ -9999999999 ≤ x.2.toInt ∧ x.2.toInt ≤ 9999999999) → s_X1_mostAgreeBy_L9 N z (A 14) o (dwin D) (nI st.1) (oI st.2) (nI l1.length) h = some (nI (l2.foldl (agS (agw (dwin D).toInt o.toInt)) st).1) := by
    intro l2
    induction l2 with
    | nil =>
      intro l1 z st hl hz _ _ _
      obtain ⟨z, rfl⟩ : ∃ y, z = y + 1 := ⟨z - 1, by omega⟩
      rw [List.append_nil] at hl
      rw [s_X1_mostAgreeBy_L9.eq_2, gX1_3 S, Option.bind_some, gp.1, hl, if_pos (nI_le (Nat.le_refl _) (by rw [hl] at hlen; omega))]
      rfl
    | cons x l2 ih =>
      intro l1 z st hl hz hc hk hx
      obtain ⟨z, rfl⟩ : ∃ y, z = y + 1 := ⟨z - 1, by omega⟩
      have hll : (G).length = l1.length + (l2.length + 1) := by rw [hl, List.length_append, List.length_cons]
      obtain ⟨x1, x2, x3⟩ := hx x (List.mem_cons_self ..)
      have gx := gp.2.2 l1.length (by omega)
      have eg : (G).getD l1.length (0, 0) = x := by
        rw [hl, List.getD_eq_getElem?_getD, List.getElem?_append_right (Nat.le_refl _), Nat.sub_self]
        rfl
      rw [eg] at gx
      have el : (l1 ++ [x]).length = l1.length + 1 := by rw [List.length_append]; rfl
      have n1 : nI l1.length + 1 = nI (l1.length + 1) := nI_1 _
      have nxt : ∀ st' : Nat × Option Nat, st'.1 ≤ st.1 + 1 → (∀ k, st'.2 = some k → k < 100) → s_X1_mostAgreeBy_L9 N z (A 14) o (dwin D) (nI st'.1) (oI st'.2) (nI (l1.length + 1)) h = some (nI (l2.foldl (agS (agw (dwin D).toInt o.toInt)) st').1) := by
        intro st' q1 q2
        have := ih (l1 ++ [x]) z st' (by rw [hl]; simp) (by rw [List.length_cons] at hz; omega) (by omega) q2 (fun y hy => hx y (List.mem_cons_of_mem _ hy))
        rw [el] at this
        exact this
      rw [s_X1_mostAgreeBy_L9.eq_2, gX1_3 S, Option.bind_some, gp.1, if_neg (nI_ge (by omega) (by omega)), gX1_2 S, Option.bind_some, aXI S 16 (by decide) (by decide) (by decide) (show l1.length < LX 16 from (by have : LX 16 = 768 := rfl; omega)), Option.bind_some, gx.2, List.foldl_cons, n1]
      have inj := oI_inj (o := st.2) (t := x.1) (fun u hu => by have := hk u hu; omega) (by omega)
      by_cases c1 : st.2 = some x.1
      · have ea : agS (agw (dwin D).toInt o.toInt) st x = st := by unfold agS; rw [if_pos c1]
        rw [if_pos (inj.mpr c1).symm, Option.bind_some, ea]
        exact nxt st (by omega) hk
      · rw [if_neg (fun z => c1 (inj.mp z.symm)), gX1_1 S, Option.bind_some, aXJ S 15 (by decide) (by decide) (by decide) (show l1.length < LX 15 from (by have : LX 15 = 768 := rfl; omega)), Option.bind_some, gx.1]
        have es : (x.2 - o).toInt = x.2.toInt - o.toInt := ls (by omega) (by omega)
        obtain ⟨y, ey, hy⟩ := absJ h (x := x.2 - o) (by rw [es]; omega)
        rw [ey, Option.bind_some]
        have eq : (0 < lg_cmp y (dwin D).toInt64) ↔ ¬ agw (dwin D).toInt o.toInt x.2 = true := by
          rw [lc_gt, lLt, il, hy, es]
          unfold agw
          rw [decide_eq_true_iff]
          omega
        by_cases c2 : agw (dwin D).toInt o.toInt x.2 = true
        · have ea : agS (agw (dwin D).toInt o.toInt) st x = (st.1 + 1, some x.1) := by unfold agS; rw [if_neg c1, if_pos c2]
          rw [if_neg (fun z => (eq.mp z) c2), Option.bind_some, aXI S 16 (by decide) (by decide) (by decide) (show l1.length < LX 16 from (by have : LX 16 = 768 := rfl; omega)), Option.bind_some, Option.bind_some, gx.2, ea, show nI st.1 + 1 = nI (st.1 + 1) from nI_1 _]
          exact nxt (st.1 + 1, some x.1) (Nat.le_refl _) (fun k hk => by cases hk; exact x1)
        · have ea : agS (agw (dwin D).toInt o.toInt) st x = st := by unfold agS; rw [if_neg c1, if_neg c2]
          rw [if_pos (eq.mpr c2), Option.bind_some, ea]
          exact nxt st (by omega) hk
  have e := L G [] N (0, none) (List.nil_append _).symm (by omega) (Nat.zero_le _) (fun k hk => by cases hk) bd
  rw [fg] at e
  unfold s_X1_mostAgreeBy
  generalize hag : agr D s o.toInt = ag at e
  have e' : s_X1_mostAgreeBy_L9 N N (A 14) o (dwin D) 0 (-1) 0 h = some (nI ag) := e
  rw [← hag] at e'
  have ha : agr D s o.toInt ≤ 48 := cnt_le (fun j => agB D s (48 * s + j) o.toInt) 48
  have hm : mny D s ≤ 48 := cnt_le (fun k => mnB D s (48 * s + k)) 48
  rw [e', Option.bind_some, gX1_4 S, Option.bind_some, gp.2.1, show (2 : Int32) = nI 2 from rfl, nI_mul]
  unfold okO
  by_cases c : mny D s < 2 * agr D s o.toInt
  · rw [if_neg (nI_ge c (by omega)), decide_eq_true c]
    rfl
  · rw [if_pos (nI_le (by omega) (by omega)), decide_eq_false c]
    rfl
/-! the nearest offset -/
def nrB (a b : Int) : Bool := decide (a.natAbs < b.natAbs ∨ (a.natAbs = b.natAbs ∧ a < b))
def nrO (b : Option Int) (o : Int) : Bool := match b with
  | none => true
  | some x => nrB o x
def scS (ok : Int → Bool) (b : Option Int) (o : Int) : Option Int := if nrO b o && ok o then some o else b
def edg (w g : Int) : Int := if w < g then g - w else if g < -w then g + w else 0
def lsX (D : Dt) (s : Nat) : List Int := ((gf D s 48).map (fun x => edg (dwin D).toInt x.2.toInt)).filter (fun o => !(o == 0))
def offX (D : Dt) (s : Nat) : Int := if okO D s 0 = true then 0 else ((lsX D s).foldl (scS (okO D s)) none).getD 0
theorem edgeX (h : IH) {D : Dt} (wP : WgP D) {g : Int64} (h1 : -9999999999 ≤ g.toInt) (h2 : g.toInt ≤ 9999999999) : ∃ y, s_X1_edgeTowardsZero h g (dwin D) = some y ∧ y.toInt = edg (dwin D).toInt g.toInt := by
  obtain ⟨w1, w2⟩ := wP.1
  have en : (-(dwin D)).toInt = -(dwin D).toInt := by
    rw [Int32.toInt_neg, bm32 (by omega) (by omega)]
  have e1 : (lg_cmp g (dwin D).toInt64 ≤ 0) ↔ ¬ (dwin D).toInt < g.toInt := by
    have e : (lg_cmp g (dwin D).toInt64 ≤ 0) ↔ ¬ (0 < lg_cmp g (dwin D).toInt64) := by rw [iLe, iLt]; omega
    rw [e, lc_gt, lLt, il]
  have e2 : (0 ≤ lg_cmp g ((-(dwin D)).toInt64)) ↔ ¬ g.toInt < -(dwin D).toInt := by
    have e : (0 ≤ lg_cmp g ((-(dwin D)).toInt64)) ↔ ¬ (lg_cmp g ((-(dwin D)).toInt64) < 0) := by rw [iLe, iLt]; omega
    rw [e, lc_lt, lLt, il, en]
  unfold s_X1_edgeTowardsZero edg
  by_cases c1 : (dwin D).toInt < g.toInt
  · rw [if_neg (fun z => e1.mp z c1), if_pos c1]
    exact ⟨_, rfl, by rw [ls (by rw [il]; omega) (by rw [il]; omega), il]⟩
  · rw [if_pos (e1.mpr c1), if_neg c1]
    by_cases c2 : g.toInt < -(dwin D).toInt
    · rw [if_neg (fun z => e2.mp z c2), if_pos c2, Option.bind_some]
      exact ⟨_, rfl, by rw [la (by rw [il]; omega) (by rw [il]; omega), il]⟩
    · rw [if_pos (e2.mpr c2), if_neg c2, Option.bind_some]
      exact ⟨_, rfl, rfl⟩
theorem edg_bd {w g : Int} (h0 : 0 ≤ w) (h1 : -9999999999 ≤ g) (h2 : g ≤ 9999999999) : -9999999999 ≤ edg w g ∧ edg w g ≤ 9999999999 := by
  unfold edg
  split
  · omega
  · split <;> omega
theorem nearX (h : IH) {a b : Int64} (h1 : -20000000000 ≤ a.toInt) (h2 : a.toInt ≤ 20000000000) (h3 : -20000000000 ≤ b.toInt) (h4 : b.toInt ≤ 20000000000) : s_X1_isNearer h a b = some (if b.toInt = 0 ∨ nrB a.toInt b.toInt = true then 1 else 0) := by
  obtain ⟨ya, ea, ha⟩ := absJ h (x := a) (by omega)
  obtain ⟨yb, eb, hb⟩ := absJ h (x := b) (by omega)
  have z0 : (0 : Int64).toInt = 0 := rfl
  unfold s_X1_isNearer
  rw [ea, eb, Option.bind_some, Option.bind_some, Option.bind_some, Option.bind_some]
  have e0 : (lg_cmp b 0 = 0) ↔ b.toInt = 0 := by rw [lc_eq, lEq, z0]
  have e1 : (lg_cmp ya yb < 0) ↔ a.toInt.natAbs < b.toInt.natAbs := by rw [lc_lt, lLt, ha, hb]; omega
  have e2 : (lg_cmp ya yb = 0) ↔ a.toInt.natAbs = b.toInt.natAbs := by rw [lc_eq, lEq, ha, hb]; omega
  have e3 : (0 ≤ lg_cmp a b) ↔ ¬ a.toInt < b.toInt := by
    have e : (0 ≤ lg_cmp a b) ↔ ¬ (lg_cmp a b < 0) := by rw [iLe, iLt]; omega
    rw [e, lc_lt, lLt]
  have en : nrB a.toInt b.toInt = true ↔ (a.toInt.natAbs < b.toInt.natAbs ∨ (a.toInt.natAbs = b.toInt.natAbs ∧ a.toInt < b.toInt)) := by unfold nrB; rw [decide_eq_true_iff]
  by_cases c0 : b.toInt = 0
  · rw [if_pos (e0.mpr c0), Option.bind_some, if_pos (Or.inr rfl), if_pos (Or.inl c0)]
  · rw [if_neg (fun z => c0 (e0.mp z))]
    by_cases c1 : a.toInt.natAbs < b.toInt.natAbs
    · rw [if_pos (e1.mpr c1), Option.bind_some, if_pos (Or.inr rfl), if_pos (Or.inr (en.mpr (Or.inl c1)))]
    · rw [if_neg (fun z => c1 (e1.mp z))]
      by_cases c2 : a.toInt.natAbs = b.toInt.natAbs
      · rw [if_pos (e2.mpr c2)]
        by_cases c3 : a.toInt < b.toInt
        · rw [if_neg (fun z => e3.mp z c3), Option.bind_some, if_pos (Or.inr rfl), if_pos (Or.inr (en.mpr (Or.inr ⟨c2, c3⟩)))]
        · rw [if_pos (e3.mpr c3), Option.bind_some, if_pos (Or.inl rfl), if_neg (fun z => by
            rcases z with z | z
            · exact c0 z
            · rcases en.mp z with z | z
              · exact c1 z
              · exact c3 z.2)]
      · rw [if_neg (fun z => c2 (e2.mp z)), Option.bind_some, if_pos (Or.inl rfl), if_neg (fun z => by
          rcases z with z | z
          · exact c0 z
          · rcases en.mp z with z | z
            · exact c1 z
            · exact c2 z.1)]
theorem offsetX {h : IH} {A : Nat → Nat} {n : Nat} (S : ShX h A n) {D : Dt} {N s : Nat} (hN : 2000 ≤ N) (hn : n = dn D) (g : XgS h A D) (gL : XgL h A D) (w : WgL D) (wP : WgP D) (tg : TgX h A D) (hs : s < dn D) : ∃ v h', s_X1_offsetOf N h (A 14) (nI s) (dwin D) = some (v, h') ∧ FrG A h h' ∧ v.toInt = offX D s ∧ -10000000000 ≤ v.toInt ∧ v.toInt ≤ 10000000000 := by
  have wn : dn D ≤ 12 := hn ▸ S.1
  obtain ⟨w1, w2⟩ := wP.1
  obtain ⟨h1, e1, f1, p1⟩ := gatherX S hN hn g gL w tg hs
  have S1 := f1.shX S
  have p1 : GpX h1 A (gf D s 48) (mny D s) := p1
  have hlen := gf_len D s 48
  unfold s_X1_offsetOf
  rw [vX1 S, e1, Option.bind_some, vX1 S1, mostX S1 hN w wn wP hs p1 0 (by decide) (by decide), Option.bind_some]
  have z0 : (0 : Int64).toInt = 0 := rfl
  rw [z0]
  unfold offX
  cases ok0 : okO D s 0 with
  | true =>
    rw [if_neg (show ¬ bI true = 0 by decide), if_pos rfl]
    exact ⟨0, h1, rfl, f1, rfl, by decide, by decide⟩
  | false =>
    rw [if_pos (show bI false = 0 from rfl), if_neg (by decide)]
    have bd := gf_bd w wn (show s < 12 by omega) 48 (Nat.le_refl _)
    unfold lsX
    generalize hG : gf D s 48 = G at hlen bd ⊢
    have p1' := p1
    rw [hG] at p1'
    have L : ∀ (l2 l1 : List (Nat × Int64)) (z : Nat) (x : Int64) (b : Option Int), G = l1 ++ l2 → l2.length < z → (x.toInt = b.getD 0 ∧ (∀ y, b = some y → y ≠ 0) ∧ -10000000000 ≤ x.toInt ∧ x.toInt ≤ 10000000000) → ∃ v, s_X1_offsetOf_L21 N z (A 14) (dwin D) x (nI l1.length) h1 = some v ∧ v.toInt = (((l2.map (fun x => edg (dwin D).toInt x.2.toInt)).filter (fun o => !(o == 0))).foldl (scS (okO D s)) b).getD 0 ∧ -10000000000 ≤ v.toInt ∧ v.toInt ≤ 10000000000 := by
      intro l2
      induction l2 with
      | nil =>
        intro l1 z x b hl hz hx
        obtain ⟨z, rfl⟩ : ∃ y, z = y + 1 := ⟨z - 1, by omega⟩
        rw [List.append_nil] at hl
        rw [s_X1_offsetOf_L21.eq_2, gX1_3 S1, Option.bind_some, p1'.1, hl, if_pos (nI_le (Nat.le_refl _) (by rw [hl] at hlen; omega))]
        exact ⟨x, rfl, hx.1, hx.2.2⟩
      | cons y l2 ih =>
        intro l1 z x b hl hz hx
        obtain ⟨z, rfl⟩ : ∃ y, z = y + 1 := ⟨z - 1, by omega⟩
        have hll : (G).length = l1.length + (l2.length + 1) := by rw [hl, List.length_append, List.length_cons]
        have gx := p1'.2.2 l1.length (by omega)
        have eg : (G).getD l1.length (0, 0) = y := by
          rw [hl, List.getD_eq_getElem?_getD, List.getElem?_append_right (Nat.le_refl _), Nat.sub_self]
          rfl
        rw [eg] at gx
        obtain ⟨y1, y2⟩ := bd y (by rw [hl]; simp)
        obtain ⟨v8, e8, q8⟩ := edgeX h1 wP y1 y2
        have b8 := edg_bd w1 y1 y2
        have el : (l1 ++ [y]).length = l1.length + 1 := by rw [List.length_append]; rfl
        have nxt : ∀ (x' : Int64) (b' : Option Int), (x'.toInt = b'.getD 0 ∧ (∀ y, b' = some y → y ≠ 0) ∧ -10000000000 ≤ x'.toInt ∧ x'.toInt ≤ 10000000000) → ∃ v, s_X1_offsetOf_L21 N z (A 14) (dwin D) x' (nI (l1.length + 1)) h1 = some v ∧ v.toInt = (((l2.map (fun x => edg (dwin D).toInt x.2.toInt)).filter (fun o => !(o == 0))).foldl (scS (okO D s)) b').getD 0 ∧ -10000000000 ≤ v.toInt ∧ v.toInt ≤ 10000000000 := by
          intro x' b' q
          have := ih (l1 ++ [y]) z x' b' (by rw [hl]; simp) (by rw [List.length_cons] at hz; omega) q
          rw [el] at this
          exact this
        rw [s_X1_offsetOf_L21.eq_2, gX1_3 S1, Option.bind_some, p1'.1, if_neg (nI_ge (by omega) (by omega)), gX1_1 S1, Option.bind_some, aXJ S1 15 (by decide) (by decide) (by decide) (show l1.length < LX 15 from (by have : LX 15 = 768 := rfl; omega)), Option.bind_some, gx.1, e8, Option.bind_some, nI_1, List.map_cons]
        have e0 : (lg_cmp v8 0 = 0) ↔ edg (dwin D).toInt y.2.toInt = 0 := by rw [lc_eq, lEq, z0, q8]
        by_cases c0 : edg (dwin D).toInt y.2.toInt = 0
        · rw [if_pos (e0.mpr c0), Option.bind_some, List.filter_cons_of_neg (by simp [c0])]
          exact nxt x b hx
        · rw [if_neg (fun z => c0 (e0.mp z)), nearX h1 (by rw [q8]; omega) (by rw [q8]; omega) (by omega) (by omega), Option.bind_some, ite01, List.filter_cons_of_pos (by simp [c0]), List.foldl_cons]
          have en : (x.toInt = 0 ∨ nrB v8.toInt x.toInt = true) ↔ nrO b (edg (dwin D).toInt y.2.toInt) = true := by
            cases b with
            | none => exact ⟨fun _ => rfl, fun _ => Or.inl hx.1⟩
            | some u =>
              have hu : x.toInt = u := hx.1
              have hne := hx.2.1 u rfl
              rw [hu, q8]
              show (u = 0 ∨ nrB (edg (dwin D).toInt y.2.toInt) u = true) ↔ nrB (edg (dwin D).toInt y.2.toInt) u = true
              exact ⟨fun z => z.resolve_left hne, fun z => Or.inr z⟩
          have es : scS (okO D s) b (edg (dwin D).toInt y.2.toInt) = if nrO b (edg (dwin D).toInt y.2.toInt) && okO D s (edg (dwin D).toInt y.2.toInt) then some (edg (dwin D).toInt y.2.toInt) else b := rfl
          rw [es]
          by_cases c1 : x.toInt = 0 ∨ nrB v8.toInt x.toInt = true
          · rw [if_pos c1, vX1 S1, mostX S1 hN w wn wP hs p1 v8 (by rw [q8]; omega) (by rw [q8]; omega), Option.bind_some, q8, en.mp c1, Bool.true_and]
            cases ok1 : okO D s (edg (dwin D).toInt y.2.toInt) with
            | false =>
              rw [if_pos (show bI false = 0 from rfl), Option.bind_some, if_neg (by decide)]
              exact nxt x b hx
            | true =>
              rw [if_neg (show ¬ bI true = 0 by decide), Option.bind_some, if_pos rfl]
              exact nxt v8 (some (edg (dwin D).toInt y.2.toInt)) ⟨q8, fun y hy => by cases hy; exact c0, by rw [q8]; omega, by rw [q8]; omega⟩
          · rw [if_neg c1, Option.bind_some, Bool.eq_false_iff.mpr (fun z => c1 (en.mpr z)), Bool.false_and, if_neg (by decide)]
            exact nxt x b hx
    obtain ⟨v, a1, a2, a3⟩ := L G [] N 0 none (List.nil_append _).symm (by omega) ⟨rfl, fun y hy => (by cases hy), by decide, by decide⟩
    have a1 : s_X1_offsetOf_L21 N N (A 14) (dwin D) 0 0 h1 = some v := a1
    rw [a1, Option.bind_some]
    exact ⟨v, h1, rfl, f1, a2, a3⟩
