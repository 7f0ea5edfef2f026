/-! ===== the reference: its shape in the ideal heap ===== -/
/-- the array fields of the reference: kind (0: no array) and length -/
def mKd (k : Nat) : Nat := [0, 0, 20, 20, 20, 20, 20, 20, 20, 20, 20, 21, 21, 20, 20, 20, 20, 0, 20, 20, 21, 0, 0, 0, 20, 20, 20, 20, 20, 0, 0, 20, 0, 20, 20, 20, 0, 0, 0, 0, 0, 0, 0, 0, 0, 0, 0, 0, 0, 0, 0, 20, 0, 0, 0, 0, 0, 0, 0, 20, 20, 21, 22, 20, 20, 21, 20, 0, 0, 22].getD k 0
def mSz (k : Nat) : Nat := [0, 0, 12, 12, 12, 12, 12, 72, 12, 36, 576, 576, 576, 576, 3456, 576, 576, 0, 576, 576, 12, 0, 0, 0, 30, 30, 30, 30, 1000, 0, 0, 1000, 0, 20, 20, 240, 0, 0, 0, 0, 0, 0, 0, 0, 0, 0, 0, 0, 0, 0, 0, 9, 0, 0, 0, 0, 0, 0, 0, 16, 16, 256, 16, 16, 16, 16, 16, 0, 0, 120].getD k 0
def ShM (h : IH) (m : Nat) (ar : Nat → Nat) : Prop := kd h m = 13 ∧ (∀ k, mKd k ≠ 0 → fR h (1200 + k) m = some (ar k) ∧ kd h (ar k) = mKd k ∧ ln h (ar k) = mSz k) ∧ ∀ j k, mKd j ≠ 0 → mKd k ≠ 0 → ar j = ar k → j = k
theorem kd_wfI (h : IH) (f a : Nat) (v : Int32) : kd (wfI h f a v) = kd h := rfl
theorem kd_wfL (h : IH) (f a : Nat) (v : Int64) : kd (wfL h f a v) = kd h := rfl
theorem kd_setI (h : IH) (a : Nat) (f : Nat → Int32) : kd (setI h a f) = kd h := rfl
theorem kd_setJ (h : IH) (a : Nat) (f : Nat → Int64) : kd (setJ h a f) = kd h := rfl
theorem fR_wfI (h : IH) (f a : Nat) (v : Int32) : fR (wfI h f a v) = fR h := rfl
theorem fR_wfL (h : IH) (f a : Nat) (v : Int64) : fR (wfL h f a v) = fR h := rfl
theorem fR_setI (h : IH) (a : Nat) (f : Nat → Int32) : fR (setI h a f) = fR h := rfl
theorem fR_setJ (h : IH) (a : Nat) (f : Nat → Int64) : fR (setJ h a f) = fR h := rfl
theorem ln_wfI (h : IH) (f a : Nat) (v : Int32) : ln (wfI h f a v) = ln h := rfl
theorem ln_wfL (h : IH) (f a : Nat) (v : Int64) : ln (wfL h f a v) = ln h := rfl
theorem ln_setI (h : IH) (a : Nat) (f : Nat → Int32) : ln (setI h a f) = ln h := rfl
theorem ln_setJ (h : IH) (a : Nat) (f : Nat → Int64) : ln (setJ h a f) = ln h := rfl
theorem rI_wfI (h : IH) (f a : Nat) (v : Int32) : rI (wfI h f a v) = rI h := rfl
theorem rI_wfL (h : IH) (f a : Nat) (v : Int64) : rI (wfL h f a v) = rI h := rfl
theorem rI_setJ (h : IH) (a : Nat) (f : Nat → Int64) : rI (setJ h a f) = rI h := rfl
theorem rL_wfI (h : IH) (f a : Nat) (v : Int32) : rL (wfI h f a v) = rL h := rfl
theorem rL_wfL (h : IH) (f a : Nat) (v : Int64) : rL (wfL h f a v) = rL h := rfl
theorem rL_setI (h : IH) (a : Nat) (f : Nat → Int32) : rL (setI h a f) = rL h := rfl
theorem fI_wfL (h : IH) (f a : Nat) (v : Int64) : fI (wfL h f a v) = fI h := rfl
theorem fI_setI (h : IH) (a : Nat) (f : Nat → Int32) : fI (setI h a f) = fI h := rfl
theorem fI_setJ (h : IH) (a : Nat) (f : Nat → Int64) : fI (setJ h a f) = fI h := rfl
theorem fL_wfI (h : IH) (f a : Nat) (v : Int32) : fL (wfI h f a v) = fL h := rfl
theorem fL_setI (h : IH) (a : Nat) (f : Nat → Int32) : fL (setI h a f) = fL h := rfl
theorem fL_setJ (h : IH) (a : Nat) (f : Nat → Int64) : fL (setJ h a f) = fL h := rfl
theorem setI_wfI (h : IH) (f a b : Nat) (v : Int32) (g : Nat → Int32) : setI (wfI h f a v) b g = wfI (setI h b g) f a v := rfl
theorem mgI {h : IH} {m : Nat} (k : Nat) (hk : kd h m = 13) : gI h 12 k (some m) = some (fI h (1200 + k) m) := gI_ok (c := 12) k hk
theorem mgL {h : IH} {m : Nat} (k : Nat) (hk : kd h m = 13) : gL h 12 k (some m) = some (fL h (1200 + k) m) := gL_ok (c := 12) k hk
theorem mgR {h : IH} {m : Nat} {ar : Nat → Nat} (k : Nat) (S : ShM h m ar) (h0 : mKd k ≠ 0) : gR h 12 k (some m) = some (some (ar k)) := by
  rw [gR_ok (c := 12) k S.1]
  exact congrArg some (S.2.1 k h0).1
theorem mpI {h : IH} {m : Nat} (k : Nat) (v : Int32) (hk : kd h m = 13) : pI h 12 k (some m) v = some (wfI h (1200 + k) m v) := pI_ok (c := 12) k v hk
theorem mpL {h : IH} {m : Nat} (k : Nat) (v : Int64) (hk : kd h m = 13) : pL h 12 k (some m) v = some (wfL h (1200 + k) m v) := pL_ok (c := 12) k v hk
theorem mpZ {h : IH} {m : Nat} (k : Nat) {v : Int32} (hk : kd h m = 13) (hv : v = 0 ∨ v = 1) : pZ h 12 k (some m) v = some (wfI h (1200 + k) m v) := pZ_ok (c := 12) k hk hv
theorem mSz_lt : ∀ k, k < 70 → mSz k < 4000 := by decide
theorem mSz_all (k : Nat) : mSz k < 2 ^ 31 := by
  by_cases h : k < 70
  · have := mSz_lt k h
    omega
  · have : mSz k = 0 := by
      unfold mSz
      rw [List.getD_eq_getElem?_getD, List.getElem?_eq_none (by simp; omega)]
      rfl
    omega
theorem maI {h : IH} {m : Nat} {ar : Nat → Nat} (k j : Nat) (S : ShM h m ar) (h0 : mKd k = 20) (hj : j < mSz k) : aI h (some (ar k)) (nI j) = some (rI h (ar k) j) := by
  have hS := S.2.1 k (by omega)
  have hz := mSz_all k
  exact aI_ok (by omega) (by omega) (by omega)
theorem maJ {h : IH} {m : Nat} {ar : Nat → Nat} (k j : Nat) (S : ShM h m ar) (h0 : mKd k = 21) (hj : j < mSz k) : aJ h (some (ar k)) (nI j) = some (rL h (ar k) j) := by
  have hS := S.2.1 k (by omega)
  have hz := mSz_all k
  exact aJ_ok (by omega) (by omega) (by omega)
theorem maZ {h : IH} {m : Nat} {ar : Nat → Nat} (k j : Nat) (S : ShM h m ar) (h0 : mKd k = 22) (hj : j < mSz k) : aZ h (some (ar k)) (nI j) = some (rI h (ar k) j) := by
  have hS := S.2.1 k (by omega)
  have hz := mSz_all k
  exact aZ_ok (by omega) (by omega) (by omega)
theorem msI {h : IH} {m : Nat} {ar : Nat → Nat} (k j : Nat) (v : Int32) (S : ShM h m ar) (h0 : mKd k = 20) (hj : j < mSz k) : sI h (some (ar k)) (nI j) v = some (setI h (ar k) (upd (rI h (ar k)) j v)) := by
  have hS := S.2.1 k (by omega)
  have hz := mSz_all k
  exact sI_ok v (by omega) (by omega) (by omega)
theorem msJ {h : IH} {m : Nat} {ar : Nat → Nat} (k j : Nat) (v : Int64) (S : ShM h m ar) (h0 : mKd k = 21) (hj : j < mSz k) : sJ h (some (ar k)) (nI j) v = some (setJ h (ar k) (vp_updL (rL h (ar k)) j v)) := by
  have hS := S.2.1 k (by omega)
  have hz := mSz_all k
  exact sJ_ok v (by omega) (by omega) (by omega)
theorem msZ {h : IH} {m : Nat} {ar : Nat → Nat} (k j : Nat) {v : Int32} (S : ShM h m ar) (h0 : mKd k = 22) (hj : j < mSz k) (hv : v = 0 ∨ v = 1) : sZ h (some (ar k)) (nI j) v = some (setI h (ar k) (upd (rI h (ar k)) j v)) := by
  have hS := S.2.1 k (by omega)
  have hz := mSz_all k
  exact sZ_ok (by omega) (by omega) (by omega) hv
/-! feed() -/
def fb (a b c d e : Int32) (k : Nat) : Int32 := ((if k < 4 then a else if k < 8 then b else if k < 12 then c else if k < 16 then d else e) >>> ((24 - (8 * (nI k - nI k / 4 * 4))) &&& 31)) &&& 255
def apd (f : Nat → Int32) (T : Nat) (g : Nat → Int32) (k : Nat) : Nat → Int32 := fun j => if T ≤ j ∧ j < T + k then g (j - T) else f j
theorem apd_0 (f : Nat → Int32) (T : Nat) (g : Nat → Int32) : apd f T g 0 = f := by
  funext j
  unfold apd
  rw [if_neg (by omega)]
theorem apd_s (f : Nat → Int32) (T : Nat) (g : Nat → Int32) (k : Nat) : upd (apd f T g k) (T + k) (g k) = apd f T g (k + 1) := by
  funext j
  unfold upd apd
  by_cases h1 : j = T + k
  · rw [if_pos h1, if_pos (by omega)]
    congr 1
    omega
  · rw [if_neg h1]
    by_cases h2 : T ≤ j ∧ j < T + k
    · rw [if_pos h2, if_pos (by omega)]
    · rw [if_neg h2, if_neg (by omega)]
theorem nI_cmp (k n : Nat) (hk : k < 2 ^ 31) (hn : n < 2 ^ 31) : (nI n ≤ nI k) ↔ n ≤ k := nI_leI hn hk
theorem feedM_L {h : IH} {m T N : Nat} {ar : Nat → Nat} (S : ShM h m ar) (hT : T + 20 ≤ 1000) (a b c d e : Int32) : ∀ (r k n : Nat), k + r = 20 → r < n → s_X12_feed_L15 N n m a b c d e (nI k) (wfI (setI h (ar 28) (apd (rI h (ar 28)) T (fb a b c d e) k)) 1229 m (nI (T + k))) = some (wfI (setI h (ar 28) (apd (rI h (ar 28)) T (fb a b c d e) 20)) 1229 m (nI (T + 20))) := by
  intro r
  induction r with
  | zero =>
    intro k n hk hn
    obtain ⟨n, rfl⟩ : ∃ z, n = z + 1 := ⟨n - 1, by omega⟩
    have hk : k = 20 := by omega
    subst hk
    rw [s_X12_feed_L15.eq_2, if_pos (show (20 : Int32) ≤ nI 20 by decide)]
  | succ r ih =>
    intro k n hk hn
    obtain ⟨n, rfl⟩ : ∃ z, n = z + 1 := ⟨n - 1, by omega⟩
    have hc : ∀ z : Nat, z < 100 → ((nI z ≤ nI k) ↔ z ≤ k) := fun z hz => nI_cmp k z (by omega) (by omega)
    rw [s_X12_feed_L15.eq_2, if_neg (fun z => by have := (hc 20 (by omega)).mp z; omega)]
    have hsel : ((if 4 ≤ nI k then if 8 ≤ nI k then if 12 ≤ nI k then if 16 ≤ nI k then some e else some d else some c else some b else some a) : Option Int32) = some (if k < 4 then a else if k < 8 then b else if k < 12 then c else if k < 16 then d else e) := by
      have h4 : ((4 : Int32) ≤ nI k) ↔ 4 ≤ k := hc 4 (by omega)
      have h8 : ((8 : Int32) ≤ nI k) ↔ 8 ≤ k := hc 8 (by omega)
      have h12 : ((12 : Int32) ≤ nI k) ↔ 12 ≤ k := hc 12 (by omega)
      have h16 : ((16 : Int32) ≤ nI k) ↔ 16 ≤ k := hc 16 (by omega)
      by_cases c1 : k < 4
      · rw [if_neg (fun z => by have := h4.mp z; omega), if_pos c1]
      · rw [if_pos (h4.mpr (by omega)), if_neg c1]
        by_cases c2 : k < 8
        · rw [if_neg (fun z => by have := h8.mp z; omega), if_pos c2]
        · rw [if_pos (h8.mpr (by omega)), if_neg c2]
          by_cases c3 : k < 12
          · rw [if_neg (fun z => by have := h12.mp z; omega), if_pos c3]
          · rw [if_pos (h12.mpr (by omega)), if_neg c3]
            by_cases c4 : k < 16
            · rw [if_neg (fun z => by have := h16.mp z; omega), if_pos c4]
            · rw [if_pos (h16.mpr (by omega)), if_neg c4]
    rw [hsel, Option.bind_some]
    generalize hH : wfI (setI h (ar 28) (apd (rI h (ar 28)) T (fb a b c d e) k)) 1229 m (nI (T + k)) = H
    have S1 : ShM H m ar := by rw [← hH]; exact S
    have hr : rI H (ar 28) = apd (rI h (ar 28)) T (fb a b c d e) k := by rw [← hH, rI_wfI, rI_setI]
    have hf : fI H 1229 m = nI (T + k) := by rw [← hH, fI_wfI]
    rw [mgR 28 S1 (by decide), Option.bind_some, mgI 29 S1.1, Option.bind_some, hf, msI 28 (T + k) _ S1 (by decide) (show T + k < 1000 by omega), Option.bind_some, hr]
    have S2 : ∀ g, ShM (setI H (ar 28) g) m ar := fun g => S1
    rw [mgI 29 (S2 _).1, Option.bind_some, fI_setI, hf, mpI 29 _ (S2 _).1, Option.bind_some]
    have e1 : wfI (setI H (ar 28) (upd (apd (rI h (ar 28)) T (fb a b c d e) k) (T + k) (fb a b c d e k))) 1229 m (nI (T + k) + 1) = wfI (setI h (ar 28) (apd (rI h (ar 28)) T (fb a b c d e) (k + 1))) 1229 m (nI (T + (k + 1))) := by
      rw [apd_s, ← hH, setI_wfI, setI_setI, wfI_wfI, nI_1]
      rfl
    show s_X12_feed_L15 N n m a b c d e (nI k + 1) (wfI (setI H (ar 28) (upd (apd (rI h (ar 28)) T (fb a b c d e) k) (T + k) (fb a b c d e k))) 1229 m (nI (T + k) + 1)) = _
    rw [e1, nI_1]
    exact ih (k + 1) n (by omega) (by omega)
theorem feedM {h : IH} {m T N : Nat} {ar : Nat → Nat} (S : ShM h m ar) (hN : 30 ≤ N) (hf : fI h 1229 m = nI T) (hT : T ≤ 1000) (a b c d e : Int32) : s_X12_feed N h m a b c d e = if T ≤ 980 then some (nI (T + 20), wfI (setI h (ar 28) (apd (rI h (ar 28)) T (fb a b c d e) 20)) 1229 m (nI (T + 20))) else some (-1, h) := by
  unfold s_X12_feed
  rw [mgI 29 S.1, Option.bind_some, hf]
  by_cases c1 : T ≤ 980
  · rw [if_pos (show nI T ≤ 980 from (nI_leI (a := T) (b := 980) (by omega) (by omega)).mpr c1), if_pos c1]
    have e0 : h = wfI (setI h (ar 28) (apd (rI h (ar 28)) T (fb a b c d e) 0)) 1229 m (nI (T + 0)) := by
      rw [apd_0, Nat.add_zero, ← hf]
      have e1 : setI h (ar 28) (rI h (ar 28)) = h := by
        have e2 : (fun x => if x = ar 28 then rI h (ar 28) else h.2.2.2.2.2.2.1 x) = h.2.2.2.2.2.2.1 := by
          funext x
          by_cases e : x = ar 28
          · rw [if_pos e, e]
            rfl
          · rw [if_neg e]
        show (_, _, _, _, _, _, (fun x => if x = ar 28 then rI h (ar 28) else h.2.2.2.2.2.2.1 x), _) = h
        rw [e2]
      rw [e1]
      have e3 : u2 h.2.2.1 1229 m (fI h 1229 m) = h.2.2.1 := by
        funext x y
        unfold u2
        by_cases h1 : x = 1229
        · by_cases h2 : y = m
          · rw [if_pos h1, if_pos h2, h1, h2]
            rfl
          · rw [if_pos h1, if_neg h2]
        · rw [if_neg h1]
      show h = (_, _, u2 h.2.2.1 1229 m (fI h 1229 m), _)
      rw [e3]
    have e9 := feedM_L (N := N) S (show T + 20 ≤ 1000 by omega) a b c d e 20 0 N rfl (by omega)
    rw [← e0] at e9
    rw [show (0 : Int32) = nI 0 from rfl, e9, Option.bind_some, mgI 29 (show kd (wfI (setI h (ar 28) (apd (rI h (ar 28)) T (fb a b c d e) 20)) 1229 m (nI (T + 20))) m = 13 from S.1), Option.bind_some, fI_wfI]
  · rw [if_neg (show ¬ nI T ≤ 980 from fun z => c1 ((nI_leI (a := T) (b := 980) (by omega) (by omega)).mp z)), if_neg c1]
