/-! ===== words of the tape: the reference ===== -/
theorem isIn32 (h : IH) (v lo hi : Int32) {lo' hi' : Int64} (e1 : lo' = lo.toInt64) (e2 : hi' = hi.toInt64) : s_X12_isIn h v.toInt64 lo' hi' = some (if lo ≤ v ∧ v ≤ hi then 1 else 0) := by
  rw [isIn_spec, e1, e2]
  congr 1
  have q1 : (lo.toInt64 ≤ v.toInt64) ↔ lo ≤ v := by rw [lLe, iLe, il, il]
  have q2 : (v.toInt64 ≤ hi.toInt64) ↔ v ≤ hi := by rw [lLe, iLe, il, il]
  by_cases c : lo ≤ v ∧ v ≤ hi
  · rw [if_pos c, if_pos ⟨q1.mpr c.1, q2.mpr c.2⟩]
  · rw [if_neg c, if_neg (fun z => c ⟨q1.mp z.1, q2.mp z.2⟩)]
theorem ite01 {p : Prop} [Decidable p] {α : Type} (x y : α) : (if (if p then (1 : Int32) else 0) = 0 then x else y) = if p then y else x := by
  by_cases c : p
  · rw [if_pos c, if_pos c, if_neg (by decide)]
  · rw [if_neg c, if_neg c, if_pos rfl]
theorem z01 {p : Prop} [Decidable p] : (if (if p then (1 : Int32) else 0) = 0 ∨ (if p then (1 : Int32) else 0) = 1 then some (if p then (1 : Int32) else 0) else none) = some (if p then 1 else 0) := by
  by_cases c : p
  · simp [c]
  · simp [c]
theorem mV12 {h : IH} {m : Nat} {ar : Nat → Nat} (S : ShM h m ar) {α : Type} (f : Nat → Option α) : cV h 12 (some m) f = f m := cV_ok (c := 12) f S.1
theorem mb {h : IH} {m : Nat} {ar : Nat → Nat} (S : ShM h m ar) {j : Nat} (hj : j < 1000) : aI h (some (ar 28)) (nI j) = some (rI h (ar 28) j) := maI 28 j S (by decide) hj
theorem nx0M {h : IH} {m : Nat} {ar : Nat → Nat} (S : ShM h m ar) {l N : Nat} (hl : fI h 1241 m = nI l) (h2 : l ≤ 1000) : ∀ r k z, k + r = l → r < z → s_X12_next_L0 N z m (wfI h 1240 m (nI k)) = some (wfI h 1240 m (nI (scn (rI h (ar 28)) isSp r k))) := by
  intro r
  induction r with
  | zero =>
    intro k z hk hz
    obtain ⟨z, rfl⟩ : ∃ y, z = y + 1 := ⟨z - 1, by omega⟩
    have S1 : ShM (wfI h 1240 m (nI k)) m ar := S
    rw [s_X12_next_L0.eq_2, mgI 40 S1.1, Option.bind_some, mgI 41 S1.1, Option.bind_some, fI_wfI, fI_wfI_ne _ _ (by decide), hl, if_pos (nI_le (by omega) (by omega))]
    rfl
  | succ r ih =>
    intro k z hk hz
    obtain ⟨z, rfl⟩ : ∃ y, z = y + 1 := ⟨z - 1, by omega⟩
    have S1 : ShM (wfI h 1240 m (nI k)) m ar := S
    unfold scn
    rw [s_X12_next_L0.eq_2, mgI 40 S1.1, Option.bind_some, mgI 41 S1.1, Option.bind_some, fI_wfI, fI_wfI_ne _ _ (by decide), hl, if_neg (nI_ge (by omega) (by omega)), mgR 28 S1 (by decide), Option.bind_some, Option.bind_some, mb S1 (by omega), Option.bind_some, rI_wfI]
    by_cases c : rI h (ar 28) k = 32
    · rw [if_pos c, Option.bind_some, mpI 40 _ S1.1, Option.bind_some, wfI_wfI, nI_1, ih (k + 1) z (by omega) (by omega), if_pos (by simp [isSp, c])]
    · rw [if_neg c, if_neg (by simp [isSp, c])]
theorem nx46M {h : IH} {m : Nat} {ar : Nat → Nat} (S : ShM h m ar) {l N : Nat} (hl : fI h 1241 m = nI l) (h2 : l ≤ 1000) : ∀ r k z, k + r = l → r < z → s_X12_next_L46 N z m (wfI h 1240 m (nI k)) = some (wfI h 1240 m (nI (scn (rI h (ar 28)) noSp r k))) := by
  intro r
  induction r with
  | zero =>
    intro k z hk hz
    obtain ⟨z, rfl⟩ : ∃ y, z = y + 1 := ⟨z - 1, by omega⟩
    have S1 : ShM (wfI h 1240 m (nI k)) m ar := S
    rw [s_X12_next_L46.eq_2, mgI 40 S1.1, Option.bind_some, mgI 41 S1.1, Option.bind_some, fI_wfI, fI_wfI_ne _ _ (by decide), hl, if_pos (nI_le (by omega) (by omega))]
    rfl
  | succ r ih =>
    intro k z hk hz
    obtain ⟨z, rfl⟩ : ∃ y, z = y + 1 := ⟨z - 1, by omega⟩
    have S1 : ShM (wfI h 1240 m (nI k)) m ar := S
    unfold scn
    rw [s_X12_next_L46.eq_2, mgI 40 S1.1, Option.bind_some, mgI 41 S1.1, Option.bind_some, fI_wfI, fI_wfI_ne _ _ (by decide), hl, if_neg (nI_ge (by omega) (by omega)), mgR 28 S1 (by decide), Option.bind_some, Option.bind_some, mb S1 (by omega), Option.bind_some, rI_wfI]
    by_cases c : rI h (ar 28) k = 32
    · rw [if_pos c, if_neg (by simp [noSp, c])]
    · rw [if_neg c, Option.bind_some, mpI 40 _ S1.1, Option.bind_some, wfI_wfI, nI_1, ih (k + 1) z (by omega) (by omega), if_pos (by simp [noSp, c])]
def nxM (h : IH) (m : Nat) (b : Nat → Int32) (l c : Nat) : IH := wfI (wfI (wfI h 1242 m (nI (nxS b l c))) 1240 m (nI (nxE b l c))) 1243 m (nI (nxE b l c - nxS b l c))
theorem nextM {h : IH} {m : Nat} {ar : Nat → Nat} (S : ShM h m ar) {l c N : Nat} (hN : 2000 ≤ N) (hl : fI h 1241 m = nI l) (h2 : l ≤ 1000) (hc : fI h 1240 m = nI c) (h3 : c ≤ l) : s_X12_next N h m = some (nxM h m (rI h (ar 28)) l c) := by
  have hb := nx_bd (rI h (ar 28)) h3
  have e1 := nx0M S (N := N) hl h2 (l - c) c N (by omega) (by omega)
  rw [wfI_self hc, show scn (rI h (ar 28)) isSp (l - c) c = nxS (rI h (ar 28)) l c from rfl] at e1
  have S1 : ShM (wfI h 1240 m (nI (nxS (rI h (ar 28)) l c))) m ar := S
  have S2 : ShM (wfI h 1242 m (nI (nxS (rI h (ar 28)) l c))) m ar := S
  have e2 := nx46M S2 (N := N) (by rw [fI_wfI_ne _ _ (by decide), hl]) h2 (l - nxS (rI h (ar 28)) l c) (nxS (rI h (ar 28)) l c) N (by omega) (by omega)
  have e3 : scn (rI (wfI h 1242 m (nI (nxS (rI h (ar 28)) l c))) (ar 28)) noSp (l - nxS (rI h (ar 28)) l c) (nxS (rI h (ar 28)) l c) = nxE (rI h (ar 28)) l c := rfl
  rw [e3] at e2
  unfold s_X12_next
  rw [e1, Option.bind_some, mgI 40 S1.1, Option.bind_some, fI_wfI, mpI 42 _ S1.1, Option.bind_some, wfI_comm _ _ _ _ _ (by decide), e2, Option.bind_some]
  have S3 : ShM (wfI (wfI h 1242 m (nI (nxS (rI h (ar 28)) l c))) 1240 m (nI (nxE (rI h (ar 28)) l c))) m ar := S
  rw [mgI 40 S3.1, Option.bind_some, mgI 42 S3.1, Option.bind_some, fI_wfI, fI_wfI_ne _ _ (by decide), fI_wfI, nI_sub hb.2.1, mpI 43 _ S3.1, Option.bind_some]
  rfl
/-- the word that stands at ws, of wl bytes -/
def WdM (h : IH) (m ws wl : Nat) : Prop := fI h 1242 m = nI ws ∧ fI h 1243 m = nI wl ∧ ws + wl ≤ 1000
theorem isNumberM {h : IH} {m : Nat} {ar : Nat → Nat} (S : ShM h m ar) {ws wl N : Nat} (hN : 2000 ≤ N) (w : WdM h m ws wl) (mx : Nat) (hm : mx < 100) : s_X12_isNumber N h m (nI mx) = some (if 1 ≤ wl ∧ wl ≤ mx ∧ allB dig (rI h (ar 28)) wl ws = true then 1 else 0) := by
  obtain ⟨hs, hl, h2⟩ := w
  have H0 : ∀ k z, 0 < z → s_X12_isNumber_L14 N z m 0 (nI k) h = some 0 := by
    intro k z hz
    obtain ⟨z, rfl⟩ : ∃ y, z = y + 1 := ⟨z - 1, by omega⟩
    rw [s_X12_isNumber_L14.eq_2, mgI 43 S.1, Option.bind_some, if_pos rfl]
    split <;> rfl
  have H : ∀ r k z, k + r = wl → r < z → s_X12_isNumber_L14 N z m 1 (nI k) h = some (if allB dig (rI h (ar 28)) r (ws + k) = true then 1 else 0) := by
    intro r
    induction r with
    | zero =>
      intro k z hk hz
      obtain ⟨z, rfl⟩ : ∃ y, z = y + 1 := ⟨z - 1, by omega⟩
      rw [s_X12_isNumber_L14.eq_2, mgI 43 S.1, Option.bind_some, hl, if_pos (nI_le (by omega) (by omega))]
      rfl
    | succ r ih =>
      intro k z hk hz
      obtain ⟨z, rfl⟩ : ∃ y, z = y + 1 := ⟨z - 1, by omega⟩
      unfold allB
      rw [s_X12_isNumber_L14.eq_2, mgI 43 S.1, Option.bind_some, hl, if_neg (nI_ge (by omega) (by omega)), if_neg (by decide), mgR 28 S (by decide), Option.bind_some, mgI 42 S.1, Option.bind_some, hs, nI_add, mb S (by omega), Option.bind_some, isIn32 h _ 48 57 (lo' := 48) (hi' := 57) rfl rfl, Option.bind_some, nI_1]
      by_cases c : 48 ≤ rI h (ar 28) (ws + k) ∧ rI h (ar 28) (ws + k) ≤ 57
      · rw [if_pos c, ih (k + 1) z (by omega) (by omega), show dig (rI h (ar 28) (ws + k)) = true from decide_eq_true c, Bool.true_and, Nat.add_assoc ws k 1]
      · rw [if_neg c, H0 (k + 1) z (by omega), show dig (rI h (ar 28) (ws + k)) = false from decide_eq_false c, Bool.false_and]
        rfl
  unfold s_X12_isNumber
  rw [mgI 43 S.1, Option.bind_some, hl, isIn32 h _ 1 (nI mx) (lo' := 1) rfl rfl, Option.bind_some]
  have q1 : ((1 : Int32) ≤ nI wl) ↔ 1 ≤ wl := nI_leI (a := 1) (by omega) (by omega)
  have q2 : (nI wl ≤ nI mx) ↔ wl ≤ mx := nI_leI (by omega) (by omega)
  by_cases c : 1 ≤ wl ∧ wl ≤ mx
  · have e := H wl 0 N (by omega) (by omega)
    rw [nI_0, Nat.add_zero] at e
    rw [if_pos ⟨q1.mpr c.1, q2.mpr c.2⟩, e, Option.bind_some, z01]
    by_cases c3 : allB dig (rI h (ar 28)) wl ws = true
    · rw [if_pos c3, if_pos ⟨c.1, c.2, c3⟩]
    · rw [if_neg c3, if_neg (fun z => c3 z.2.2)]
  · have e := H0 0 N (by omega)
    rw [nI_0] at e
    rw [if_neg (fun z => c ⟨q1.mp z.1, q2.mp z.2⟩), e, Option.bind_some, if_pos (Or.inl rfl), if_neg (fun z => c ⟨z.1, z.2.1⟩)]
def Byt (b : Nat → Int32) (T : Nat) : Prop := ∀ j, j < T → 0 ≤ (b j).toInt ∧ (b j).toInt < 256
theorem num_step (x : Int64) {c : Int32} (h1 : 0 ≤ c.toInt) (h2 : c.toInt < 256) : (10 * x) + c.toInt64 - 48 = (10 * x) + (c - 48).toInt64 := by
  have e : (c - 48).toInt64 = c.toInt64 - 48 := by
    apply lEq.mpr
    have e1 : (48 : Int32).toInt = 48 := rfl
    have e2 : (48 : Int64).toInt = 48 := rfl
    rw [il, is (by omega) (by omega), ls (by rw [il]; omega) (by rw [il]; omega), il, e1, e2]
  rw [e, Int64.sub_eq_add_neg, Int64.sub_eq_add_neg, Int64.add_assoc]
theorem numberHereM {h : IH} {m : Nat} {ar : Nat → Nat} (S : ShM h m ar) {ws wl N T : Nat} (hN : 2000 ≤ N) (w : WdM h m ws wl) (hB : Byt (rI h (ar 28)) T) (hT : ws + wl ≤ T) : s_X12_numberHere N h m = some (numV (rI h (ar 28)) wl ws 0) := by
  obtain ⟨hs, hl, h2⟩ := w
  have H : ∀ r k v z, k + r = wl → r < z → s_X12_numberHere_L4 N z m v (nI k) h = some (numV (rI h (ar 28)) r (ws + k) v) := by
    intro r
    induction r with
    | zero =>
      intro k v z hk hz
      obtain ⟨z, rfl⟩ : ∃ y, z = y + 1 := ⟨z - 1, by omega⟩
      rw [s_X12_numberHere_L4.eq_2, mgI 43 S.1, Option.bind_some, hl, if_pos (nI_le (by omega) (by omega))]
      rfl
    | succ r ih =>
      intro k v z hk hz
      obtain ⟨z, rfl⟩ : ∃ y, z = y + 1 := ⟨z - 1, by omega⟩
      have hb := hB (ws + k) (by omega)
      unfold numV
      rw [s_X12_numberHere_L4.eq_2, mgI 43 S.1, Option.bind_some, hl, if_neg (nI_ge (by omega) (by omega)), mgR 28 S (by decide), Option.bind_some, mgI 42 S.1, Option.bind_some, hs, nI_add, mb S (by omega), Option.bind_some, nI_1, num_step v hb.1 hb.2, ih (k + 1) _ z (by omega) (by omega), Nat.add_assoc ws k 1]
  unfold s_X12_numberHere
  rw [show (0 : Int32) = nI 0 from rfl, H wl 0 0 N (by omega) (by omega)]
  rfl
theorem isByteM {h : IH} {m : Nat} {ar : Nat → Nat} (S : ShM h m ar) {ws wl : Nat} (w : WdM h m ws wl) (c : Int32) : s_X12_isByte h m c = some (if wl = 1 ∧ rI h (ar 28) ws = c then 1 else 0) := by
  obtain ⟨hs, hl, h2⟩ := w
  unfold s_X12_isByte
  rw [mgI 43 S.1, Option.bind_some, hl]
  have q1 : (nI wl = 1) ↔ wl = 1 := nI_eq (b := 1) (by omega) (by omega)
  by_cases c1 : wl = 1
  · rw [if_pos (q1.mpr c1), mgR 28 S (by decide), Option.bind_some, mgI 42 S.1, Option.bind_some, hs, mb S (by omega), Option.bind_some]
    by_cases c2 : rI h (ar 28) ws = c
    · rw [if_pos c2, if_pos ⟨c1, c2⟩]
      rfl
    · rw [if_neg c2, if_neg (fun z => c2 z.2)]
      rfl
  · rw [if_neg (fun z => c1 (q1.mp z)), if_neg (fun z => c1 z.1)]
    rfl
theorem isCallByteM (h : IH) (v : Int32) : s_X12_isCallByte h v = some (if clB v = true then 1 else 0) := by
  unfold s_X12_isCallByte
  rw [isIn32 h v 48 57 (lo' := 48) (hi' := 57) rfl rfl, Option.bind_some, isIn32 h v 65 90 (lo' := 65) (hi' := 90) rfl rfl, ite01]
  unfold clB
  by_cases c1 : 48 ≤ v ∧ v ≤ 57
  · rw [if_pos c1, decide_eq_true c1]
    rfl
  · rw [if_neg c1, decide_eq_false c1, Bool.false_or, Option.bind_some, ite01]
    by_cases c2 : 65 ≤ v ∧ v ≤ 90
    · rw [if_pos c2, decide_eq_true c2]
      rfl
    · rw [if_neg c2, decide_eq_false c2]
      rfl
theorem isCallM {h : IH} {m : Nat} {ar : Nat → Nat} (S : ShM h m ar) {f l N : Nat} (hN : 2000 ≤ N) (h2 : f + l ≤ 1000) : s_X12_isCall N h m (nI f) (nI l) = some (if 1 ≤ l ∧ l ≤ 6 ∧ allB clB (rI h (ar 28)) l f = true then 1 else 0) := by
  have H0 : ∀ k z, 0 < z → s_X12_isCall_L13 N z m (nI f) (nI l) 0 (nI k) h = some 0 := by
    intro k z hz
    obtain ⟨z, rfl⟩ : ∃ y, z = y + 1 := ⟨z - 1, by omega⟩
    rw [s_X12_isCall_L13.eq_2, if_pos (show (0 : Int32) = 0 from rfl)]
    split <;> rfl
  have H : ∀ r k z, k + r = l → r < z → s_X12_isCall_L13 N z m (nI f) (nI l) 1 (nI k) h = some (if allB clB (rI h (ar 28)) r (f + k) = true then 1 else 0) := by
    intro r
    induction r with
    | zero =>
      intro k z hk hz
      obtain ⟨z, rfl⟩ : ∃ y, z = y + 1 := ⟨z - 1, by omega⟩
      rw [s_X12_isCall_L13.eq_2, if_pos (nI_le (by omega) (by omega))]
      rfl
    | succ r ih =>
      intro k z hk hz
      obtain ⟨z, rfl⟩ : ∃ y, z = y + 1 := ⟨z - 1, by omega⟩
      unfold allB
      rw [s_X12_isCall_L13.eq_2, if_neg (nI_ge (by omega) (by omega)), if_neg (by decide), mgR 28 S (by decide), Option.bind_some, nI_add, mb S (by omega), Option.bind_some, isCallByteM, Option.bind_some, nI_1]
      by_cases c : clB (rI h (ar 28) (f + k)) = true
      · rw [if_pos c, ih (k + 1) z (by omega) (by omega), c, Bool.true_and, Nat.add_assoc f k 1]
      · rw [if_neg c, H0 (k + 1) z (by omega), Bool.eq_false_iff.mpr c, Bool.false_and]
        rfl
  unfold s_X12_isCall
  rw [isIn32 h _ 1 6 (lo' := 1) (hi' := 6) rfl rfl, Option.bind_some]
  have q1 : ((1 : Int32) ≤ nI l) ↔ 1 ≤ l := nI_leI (a := 1) (by omega) (by omega)
  have q2 : (nI l ≤ 6) ↔ l ≤ 6 := nI_leI (b := 6) (by omega) (by omega)
  by_cases c : 1 ≤ l ∧ l ≤ 6
  · have e := H l 0 N (by omega) (by omega)
    rw [nI_0, Nat.add_zero] at e
    rw [if_pos ⟨q1.mpr c.1, q2.mpr c.2⟩, e, Option.bind_some, z01]
    by_cases c3 : allB clB (rI h (ar 28)) l f = true
    · rw [if_pos c3, if_pos ⟨c.1, c.2, c3⟩]
    · rw [if_neg c3, if_neg (fun z => c3 z.2.2)]
  · have e := H0 0 N (by omega)
    rw [nI_0] at e
    rw [if_neg (fun z => c ⟨q1.mp z.1, q2.mp z.2⟩), e, Option.bind_some, if_pos (Or.inl rfl), if_neg (fun z => c ⟨z.1, z.2.1⟩)]
/-! texts -/
def txB (b : Nat → Int32) (ws wl k : Nat) : Bool := decide (wl = scLen.getD k 0) && (List.range wl).all (fun j => decide (b (ws + j) = (scByt.getD k []).getD j 0))
theorem txB_iff (b : Nat → Int32) (ws wl k : Nat) : txB b ws wl k = true ↔ isTx b ws wl k := by
  unfold txB isTx
  rw [Bool.and_eq_true, decide_eq_true_iff, List.all_eq_true]
  constructor
  · intro ⟨a, c⟩
    exact ⟨a, fun j hj => of_decide_eq_true (c j (List.mem_range.mpr hj))⟩
  · intro ⟨a, c⟩
    exact ⟨a, fun j hj => decide_eq_true (c j (List.mem_range.mp hj))⟩
theorem txB_congr {b b' : Nat → Int32} {ws wl k : Nat} (hb : ∀ j, j < wl → b (ws + j) = b' (ws + j)) : txB b ws wl k = txB b' ws wl k := by
  have e : isTx b ws wl k ↔ isTx b' ws wl k := ⟨fun q => ⟨q.1, fun j hj => (hb j hj).symm.trans (q.2 j hj)⟩, fun q => ⟨q.1, fun j hj => (hb j hj).trans (q.2 j hj)⟩⟩
  rw [← txB_iff, ← txB_iff] at e
  exact Bool.eq_iff_iff.mpr e
theorem wordIsX {h : IH} {A : Nat → Nat} {n : Nat} (S : ShX h A n) {T ws wl N : Nat} (hN : 2000 ≤ N) (hT : fI h 1001 (A 1) = nI T) (h1 : T ≤ 1000) (hs : fI h 1004 (A 1) = nI ws) (hl : fI h 1005 (A 1) = nI wl) (h2 : ws + wl ≤ T) {k : Nat} (hk : k < 13) : s_X10_wordIs N h (A 1) k = some (if txB (rI h (A 2)) ws wl k = true then 1 else 0) := by
  have H := wordIs_spec S hN hT h1 hs hl h2 hk
  by_cases c : isTx (rI h (A 2)) ws wl k
  · rw [if_pos ((txB_iff _ _ _ _).mpr c)]
    exact H.1 c
  · rw [if_neg (fun z => c ((txB_iff _ _ _ _).mp z))]
    exact H.2 c
theorem tx1 (b : Nat → Int32) (ws wl k : Nat) (c : Int32) (h1 : scLen.getD k 0 = 1) (h2 : (scByt.getD k []).getD 0 0 = c) : txB b ws wl k = true ↔ wl = 1 ∧ b ws = c := by
  rw [txB_iff]
  unfold isTx
  rw [h1]
  constructor
  · intro ⟨a, q⟩
    exact ⟨a, by rw [← h2]; exact q 0 (by omega)⟩
  · intro ⟨a, q⟩
    refine ⟨a, fun j hj => ?_⟩
    have : j = 0 := by omega
    subst this
    rw [h2]
    exact q
theorem isByteT {h : IH} {m : Nat} {ar : Nat → Nat} (S : ShM h m ar) {ws wl : Nat} (w : WdM h m ws wl) (k : Nat) (c : Int32) (h1 : scLen.getD k 0 = 1) (h2 : (scByt.getD k []).getD 0 0 = c) : s_X12_isByte h m c = some (if txB (rI h (ar 28)) ws wl k = true then 1 else 0) := by
  rw [isByteM S w]
  congr 1
  by_cases c1 : wl = 1 ∧ rI h (ar 28) ws = c
  · rw [if_pos c1, if_pos ((tx1 _ _ _ k c h1 h2).mpr c1)]
  · rw [if_neg c1, if_neg (fun z => c1 ((tx1 _ _ _ k c h1 h2).mp z))]
theorem isWordM {h : IH} {m : Nat} {ar : Nat → Nat} (S : ShM h m ar) {ws wl : Nat} (w : WdM h m ws wl) (k : Nat) (c0 c1 c2 c3 : Int32) (h1 : scLen.getD k 0 = if c3 = 0 then 3 else 4) (h2 : (scByt.getD k []).getD 0 0 = c0 ∧ (scByt.getD k []).getD 1 0 = c1 ∧ (scByt.getD k []).getD 2 0 = c2 ∧ (scByt.getD k []).getD 3 0 = c3) : s_X12_isWord h m c0 c1 c2 c3 = some (if txB (rI h (ar 28)) ws wl k = true then 1 else 0) := by
  obtain ⟨hs, hl, h3⟩ := w
  have P : txB (rI h (ar 28)) ws wl k = true ↔ wl = (if c3 = 0 then 3 else 4) ∧ rI h (ar 28) ws = c0 ∧ rI h (ar 28) (ws + 1) = c1 ∧ rI h (ar 28) (ws + 2) = c2 ∧ (c3 = 0 ∨ rI h (ar 28) (ws + 3) = c3) := by
    rw [txB_iff]
    unfold isTx
    rw [h1]
    constructor
    · intro ⟨a, q⟩
      have hw : 3 ≤ wl := by rw [a]; split <;> omega
      refine ⟨a, h2.1 ▸ q 0 (by omega), h2.2.1 ▸ q 1 (by omega), h2.2.2.1 ▸ q 2 (by omega), ?_⟩
      by_cases e : c3 = 0
      · exact Or.inl e
      · rw [if_neg e] at a
        exact Or.inr (h2.2.2.2 ▸ q 3 (by omega))
    · intro ⟨a, q0, q1, q2, q3⟩
      refine ⟨a, fun j hj => ?_⟩
      have hj4 : j = 0 ∨ j = 1 ∨ j = 2 ∨ (j = 3 ∧ c3 ≠ 0) := by
        by_cases e : c3 = 0
        · rw [if_pos e] at a
          omega
        · rw [if_neg e] at a
          have : j = 0 ∨ j = 1 ∨ j = 2 ∨ j = 3 := by omega
          rcases this with h | h | h | h
          · exact Or.inl h
          · exact Or.inr (Or.inl h)
          · exact Or.inr (Or.inr (Or.inl h))
          · exact Or.inr (Or.inr (Or.inr ⟨h, e⟩))
      rcases hj4 with h | h | h | ⟨h, e⟩ <;> subst h
      · rw [h2.1]; exact q0
      · rw [h2.2.1]; exact q1
      · rw [h2.2.2.1]; exact q2
      · rw [h2.2.2.2]; exact q3.resolve_left e
  have Q : ∀ x : Option Int32, x = some (if txB (rI h (ar 28)) ws wl k = true then 1 else 0) → (x.bind fun q24 => if q24 = 0 ∨ q24 = 1 then some q24 else none) = some (if txB (rI h (ar 28)) ws wl k = true then 1 else 0) := by
    intro x hx
    rw [hx, Option.bind_some, z01]
  unfold s_X12_isWord
  rw [mgI 43 S.1, Option.bind_some, hl]
  have e3 : ((if c3 = 0 then some 3 else some 4) : Option Int32) = some (nI (if c3 = 0 then 3 else 4)) := by split <;> rfl
  rw [e3, Option.bind_some]
  have q1 : (nI wl = nI (if c3 = 0 then 3 else 4)) ↔ wl = (if c3 = 0 then 3 else 4) := nI_eq (by omega) (by split <;> omega)
  by_cases d0 : wl = (if c3 = 0 then 3 else 4)
  · have hw : 3 ≤ wl := by rw [d0]; split <;> omega
    rw [if_pos (q1.mpr d0), Option.bind_some, if_neg (by decide)]
    apply Q
    rw [mgR 28 S (by decide), Option.bind_some, mgI 42 S.1, Option.bind_some, hs, mb S (by omega), Option.bind_some]
    by_cases d1 : rI h (ar 28) ws = c0
    · rw [if_pos d1, Option.bind_some, Option.bind_some, nI_1, mb S (by omega), Option.bind_some]
      by_cases d2 : rI h (ar 28) (ws + 1) = c1
      · rw [if_pos d2, Option.bind_some, Option.bind_some, show (2 : Int32) = nI 2 from rfl, nI_add, mb S (by omega), Option.bind_some]
        by_cases d3 : rI h (ar 28) (ws + 2) = c2
        · rw [if_pos d3]
          by_cases d4 : c3 = 0
          · rw [if_pos d4, if_pos (P.mpr ⟨d0, d1, d2, d3, Or.inl d4⟩)]
          · have hw4 : wl = 4 := by rw [d0, if_neg d4]
            rw [if_neg d4, Option.bind_some, Option.bind_some, show (3 : Int32) = nI 3 from rfl, nI_add, mb S (by omega), Option.bind_some]
            by_cases d5 : rI h (ar 28) (ws + 3) = c3
            · rw [if_pos d5, if_pos (P.mpr ⟨d0, d1, d2, d3, Or.inr d5⟩)]
            · rw [if_neg d5, if_neg (fun z => (P.mp z).2.2.2.2.elim d4 d5)]
        · rw [if_neg d3, if_neg (fun z => d3 (P.mp z).2.2.2.1)]
      · rw [if_neg d2, if_neg (fun z => d2 (P.mp z).2.2.1)]
    · rw [if_neg d1, if_neg (fun z => d1 (P.mp z).2.1)]
  · rw [if_neg (fun z => d0 (q1.mp z)), Option.bind_some, if_pos rfl]
    apply Q
    rw [if_neg (fun z => d0 (P.mp z).1)]
/-- what a word of a rule is, as the reference tells it: -1 if it is none -/
def wCode (b : Nat → Int32) (ws wl : Nat) : Int32 := if 1 ≤ wl ∧ wl ≤ 4 ∧ allB dig b wl ws = true then 10 else if txB b ws wl 3 = true then 0 else if txB b ws wl 4 = true then 1 else if txB b ws wl 5 = true then 2 else if txB b ws wl 6 = true then 3 else if txB b ws wl 7 = true then 4 else if txB b ws wl 8 = true then 5 else if txB b ws wl 9 = true then 6 else if txB b ws wl 10 = true then 7 else if txB b ws wl 11 = true then 8 else if txB b ws wl 12 = true then 9 else -1
theorem ite_some {p : Prop} [Decidable p] {α : Type} (x y : α) : (if p then some x else some y) = some (if p then x else y) := by split <;> rfl
theorem wordHereM {h : IH} {m : Nat} {ar : Nat → Nat} (S : ShM h m ar) {ws wl N : Nat} (hN : 2000 ≤ N) (w : WdM h m ws wl) : s_X12_wordHere N h m = some (wCode (rI h (ar 28)) ws wl) := by
  unfold s_X12_wordHere wCode
  simp only [mV12 S]
  rw [show (4 : Int32) = nI 4 from rfl, isNumberM S hN w 4 (by omega), Option.bind_some, ite01, isWordM S w 3 98 97 110 100 (by decide) (by decide), Option.bind_some, ite01, isWordM S w 4 107 105 110 100 (by decide) (by decide), Option.bind_some, ite01, isWordM S w 5 122 111 110 101 (by decide) (by decide), Option.bind_some, ite01, isWordM S w 6 109 105 110 101 (by decide) (by decide), Option.bind_some, ite01, isWordM S w 7 102 97 114 0 (by decide) (by decide), Option.bind_some, ite01, isByteT S w 8 43 (by decide) (by decide), Option.bind_some, ite01, isByteT S w 9 45 (by decide) (by decide), Option.bind_some, ite01, isByteT S w 10 42 (by decide) (by decide), Option.bind_some, ite01, isByteT S w 11 47 (by decide) (by decide), Option.bind_some, ite01, isByteT S w 12 63 (by decide) (by decide), Option.bind_some, ite01]
  simp only [ite_some, Option.bind_some]
