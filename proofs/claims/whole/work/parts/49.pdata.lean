/-! ===== the data that class and reference hold, in neutral words ===== -/
abbrev Dt : Type := (Nat) × (Nat → Int32) × (Nat → Int32) × (Nat → Int32) × (Nat → Int32) × (Nat → Nat) × (Nat → Nat → Int32) × (Nat → Int32) × (Nat → Bool) × (Nat → Nat) × (Nat → Int32) × (Nat → Int64) × (Nat → Int64) × (Nat → Nat) × (Nat → Nat → Int32) × (Nat → Int32) × (Nat → Int32) × (Nat) × (Nat → Int32) × (Nat) × (Nat → Int32) × (Nat) × (Nat → Int32) × (Int32) × (Int32) × (Nat) × (Nat → Nat) × (Nat → Nat → Int32) × (Int32) × (Int32) × (Int32) × (Nat)
def dn (D : Dt) : Nat := D.1
def dK (D : Dt) : Nat → Int32 := D.2.1
def dZ (D : Dt) : Nat → Int32 := D.2.2.1
def dX (D : Dt) : Nat → Int32 := D.2.2.2.1
def dY (D : Dt) : Nat → Int32 := D.2.2.2.2.1
def dcl (D : Dt) : Nat → Nat := D.2.2.2.2.2.1
def dcb (D : Dt) : Nat → Nat → Int32 := D.2.2.2.2.2.2.1
def dtm (D : Dt) : Nat → Int32 := D.2.2.2.2.2.2.2.1
def dms (D : Dt) : Nat → Bool := D.2.2.2.2.2.2.2.2.1
def dsz (D : Dt) : Nat → Nat := D.2.2.2.2.2.2.2.2.2.1
def dso (D : Dt) : Nat → Int32 := D.2.2.2.2.2.2.2.2.2.2.1
def dmo (D : Dt) : Nat → Int64 := D.2.2.2.2.2.2.2.2.2.2.2.1
def dse (D : Dt) : Nat → Int64 := D.2.2.2.2.2.2.2.2.2.2.2.2.1
def dtl (D : Dt) : Nat → Nat := D.2.2.2.2.2.2.2.2.2.2.2.2.2.1
def dtb (D : Dt) : Nat → Nat → Int32 := D.2.2.2.2.2.2.2.2.2.2.2.2.2.2.1
def dsn (D : Dt) : Nat → Int32 := D.2.2.2.2.2.2.2.2.2.2.2.2.2.2.2.1
def dgt (D : Dt) : Nat → Int32 := D.2.2.2.2.2.2.2.2.2.2.2.2.2.2.2.2.1
def dT (D : Dt) : Nat := D.2.2.2.2.2.2.2.2.2.2.2.2.2.2.2.2.2.1
def dB (D : Dt) : Nat → Int32 := D.2.2.2.2.2.2.2.2.2.2.2.2.2.2.2.2.2.2.1
def dW (D : Dt) : Nat := D.2.2.2.2.2.2.2.2.2.2.2.2.2.2.2.2.2.2.2.1
def dwr (D : Dt) : Nat → Int32 := D.2.2.2.2.2.2.2.2.2.2.2.2.2.2.2.2.2.2.2.2.1
def dR (D : Dt) : Nat := D.2.2.2.2.2.2.2.2.2.2.2.2.2.2.2.2.2.2.2.2.2.1
def dco (D : Dt) : Nat → Int32 := D.2.2.2.2.2.2.2.2.2.2.2.2.2.2.2.2.2.2.2.2.2.2.1
def dwin (D : Dt) : Int32 := D.2.2.2.2.2.2.2.2.2.2.2.2.2.2.2.2.2.2.2.2.2.2.2.1
def dpen (D : Dt) : Int32 := D.2.2.2.2.2.2.2.2.2.2.2.2.2.2.2.2.2.2.2.2.2.2.2.2.1
def dE (D : Dt) : Nat := D.2.2.2.2.2.2.2.2.2.2.2.2.2.2.2.2.2.2.2.2.2.2.2.2.2.1
def dem (D : Dt) : Nat → Nat := D.2.2.2.2.2.2.2.2.2.2.2.2.2.2.2.2.2.2.2.2.2.2.2.2.2.2.1
def det (D : Dt) : Nat → Nat → Int32 := D.2.2.2.2.2.2.2.2.2.2.2.2.2.2.2.2.2.2.2.2.2.2.2.2.2.2.2.1
def dfi (D : Dt) : Int32 := D.2.2.2.2.2.2.2.2.2.2.2.2.2.2.2.2.2.2.2.2.2.2.2.2.2.2.2.2.1
def das (D : Dt) : Int32 := D.2.2.2.2.2.2.2.2.2.2.2.2.2.2.2.2.2.2.2.2.2.2.2.2.2.2.2.2.2.1
def dfa (D : Dt) : Int32 := D.2.2.2.2.2.2.2.2.2.2.2.2.2.2.2.2.2.2.2.2.2.2.2.2.2.2.2.2.2.2.1
def dop (D : Dt) : Nat := D.2.2.2.2.2.2.2.2.2.2.2.2.2.2.2.2.2.2.2.2.2.2.2.2.2.2.2.2.2.2.2
def uT (D : Dt) (vdT : Nat) (vdB : Nat → Int32) : Dt := (dn D, dK D, dZ D, dX D, dY D, dcl D, dcb D, dtm D, dms D, dsz D, dso D, dmo D, dse D, dtl D, dtb D, dsn D, dgt D, vdT, vdB, dW D, dwr D, dR D, dco D, dwin D, dpen D, dE D, dem D, det D, dfi D, das D, dfa D, dop D)
def uS (D : Dt) (vdn : Nat) (vdK : Nat → Int32) (vdZ : Nat → Int32) (vdX : Nat → Int32) (vdY : Nat → Int32) (vdcl : Nat → Nat) (vdcb : Nat → Nat → Int32) : Dt := (vdn, vdK, vdZ, vdX, vdY, vdcl, vdcb, dtm D, dms D, dsz D, dso D, dmo D, dse D, dtl D, dtb D, dsn D, dgt D, dT D, dB D, dW D, dwr D, dR D, dco D, dwin D, dpen D, dE D, dem D, det D, dfi D, das D, dfa D, dop D)
def uTm (D : Dt) (vdtm : Nat → Int32) : Dt := (dn D, dK D, dZ D, dX D, dY D, dcl D, dcb D, vdtm, dms D, dsz D, dso D, dmo D, dse D, dtl D, dtb D, dsn D, dgt D, dT D, dB D, dW D, dwr D, dR D, dco D, dwin D, dpen D, dE D, dem D, det D, dfi D, das D, dfa D, dop D)
def uL (D : Dt) (vdms : Nat → Bool) (vdsz : Nat → Nat) (vdso : Nat → Int32) (vdmo : Nat → Int64) (vdse : Nat → Int64) (vdtl : Nat → Nat) (vdtb : Nat → Nat → Int32) (vdsn : Nat → Int32) (vdgt : Nat → Int32) : Dt := (dn D, dK D, dZ D, dX D, dY D, dcl D, dcb D, dtm D, vdms, vdsz, vdso, vdmo, vdse, vdtl, vdtb, vdsn, vdgt, dT D, dB D, dW D, dwr D, dR D, dco D, dwin D, dpen D, dE D, dem D, det D, dfi D, das D, dfa D, dop D)
def uW (D : Dt) (vdW : Nat) (vdwr : Nat → Int32) : Dt := (dn D, dK D, dZ D, dX D, dY D, dcl D, dcb D, dtm D, dms D, dsz D, dso D, dmo D, dse D, dtl D, dtb D, dsn D, dgt D, dT D, dB D, vdW, vdwr, dR D, dco D, dwin D, dpen D, dE D, dem D, det D, dfi D, das D, dfa D, dop D)
def uR (D : Dt) (vdR : Nat) (vdco : Nat → Int32) : Dt := (dn D, dK D, dZ D, dX D, dY D, dcl D, dcb D, dtm D, dms D, dsz D, dso D, dmo D, dse D, dtl D, dtb D, dsn D, dgt D, dT D, dB D, dW D, dwr D, vdR, vdco, dwin D, dpen D, dE D, dem D, det D, dfi D, das D, dfa D, dop D)
def uWin (D : Dt) (vdwin : Int32) : Dt := (dn D, dK D, dZ D, dX D, dY D, dcl D, dcb D, dtm D, dms D, dsz D, dso D, dmo D, dse D, dtl D, dtb D, dsn D, dgt D, dT D, dB D, dW D, dwr D, dR D, dco D, vdwin, dpen D, dE D, dem D, det D, dfi D, das D, dfa D, dop D)
def uPen (D : Dt) (vdpen : Int32) : Dt := (dn D, dK D, dZ D, dX D, dY D, dcl D, dcb D, dtm D, dms D, dsz D, dso D, dmo D, dse D, dtl D, dtb D, dsn D, dgt D, dT D, dB D, dW D, dwr D, dR D, dco D, dwin D, vdpen, dE D, dem D, det D, dfi D, das D, dfa D, dop D)
def uE (D : Dt) (vdE : Nat) (vdem : Nat → Nat) (vdet : Nat → Nat → Int32) : Dt := (dn D, dK D, dZ D, dX D, dY D, dcl D, dcb D, dtm D, dms D, dsz D, dso D, dmo D, dse D, dtl D, dtb D, dsn D, dgt D, dT D, dB D, dW D, dwr D, dR D, dco D, dwin D, dpen D, vdE, vdem, vdet, dfi D, das D, dfa D, dop D)
def uA (D : Dt) (vdfi : Int32) (vdas : Int32) (vdfa : Int32) (vdop : Nat) : Dt := (dn D, dK D, dZ D, dX D, dY D, dcl D, dcb D, dtm D, dms D, dsz D, dso D, dmo D, dse D, dtl D, dtb D, dsn D, dgt D, dT D, dB D, dW D, dwr D, dR D, dco D, dwin D, dpen D, dE D, dem D, det D, vdfi, vdas, vdfa, vdop)
def cnt (p : Nat → Bool) : Nat → Nat
  | 0 => 0
  | k + 1 => cnt p k + (if p k then 1 else 0)
theorem cnt_le (p : Nat → Bool) : ∀ k, cnt p k ≤ k := by
  intro k
  induction k with
  | zero => exact Nat.le_refl _
  | succ k ih =>
    unfold cnt
    split <;> omega
theorem cnt_congr {p q : Nat → Bool} : ∀ k, (∀ j, j < k → p j = q j) → cnt p k = cnt q k := by
  intro k
  induction k with
  | zero => intro _; rfl
  | succ k ih =>
    intro h
    unfold cnt
    rw [ih (fun j hj => h j (by omega)), h k (by omega)]
def mem (D : Dt) (s : Nat) : Nat := cnt (fun k => decide (dtm D k = nI (s + 1))) (dn D)
/-! groups: X what the class holds, M what the reference holds, W what is always so -/
def XgT (h : IH) (A : Nat → Nat) (D : Dt) : Prop := fI h 1001 (A 1) = nI (dT D) ∧ rI h (A 2) = dB D
def MgT (h : IH) (m : Nat) (ar : Nat → Nat) (D : Dt) : Prop := fI h 1229 m = nI (dT D) ∧ rI h (ar 28) = dB D
def WgT (D : Dt) : Prop := dT D ≤ 1000 ∧ Byt (dB D) 1000
def XgS (h : IH) (A : Nat → Nat) (D : Dt) : Prop := fI h 701 (A 3) = nI (dn D) ∧ ∀ s, s < dn D → fI h 900 (A (100 + s)) = dK D s ∧ fI h 901 (A (100 + s)) = dZ D s ∧ fI h 902 (A (100 + s)) = dX D s ∧ fI h 903 (A (100 + s)) = dY D s ∧ fL h 904 (A (100 + s)) = calV (dcb D s) (dcl D s) 0 0 ∧ fI h 906 (A (100 + s)) = dtm D s - 1 ∧ fI h 907 (A (100 + s)) = nI (mem D s)
def MgS (h : IH) (m : Nat) (ar : Nat → Nat) (D : Dt) : Prop := fI h 1201 m = nI (dn D) ∧ (∀ s, s < dn D → rI h (ar 2) s = dK D s ∧ rI h (ar 3) s = dZ D s ∧ rI h (ar 4) s = dX D s ∧ rI h (ar 5) s = dY D s ∧ rI h (ar 6) s = nI (dcl D s) ∧ ∀ k, k < dcl D s → rI h (ar 7) (6 * s + k) = dcb D s k) ∧ ∀ s, s < 12 → rI h (ar 8) s = dtm D s
def in_ (v : Int32) (lo hi : Int) : Prop := lo ≤ v.toInt ∧ v.toInt ≤ hi
def in6 (v : Int64) (lo hi : Int) : Prop := lo ≤ v.toInt ∧ v.toInt ≤ hi
def WgS (D : Dt) : Prop := dn D ≤ 12 ∧ (∀ s, s < dn D → in_ (dK D s) 0 4 ∧ in_ (dZ D s) 0 39 ∧ in_ (dX D s) 0 99 ∧ in_ (dY D s) 0 99 ∧ 1 ≤ dcl D s ∧ dcl D s ≤ 6 ∧ allB clB (dcb D s) (dcl D s) 0 = true) ∧ (∀ s t, s < dn D → t < dn D → calV (dcb D s) (dcl D s) 0 0 = calV (dcb D t) (dcl D t) 0 0 → s = t) ∧ ∀ s, s < 12 → dtm D s = 0 ∨ ∃ t, t < dn D ∧ dtm D s = nI (t + 1) ∧ s < dn D ∧ dK D t = 4 ∧ dK D s ≠ 4
/-- an entry's words in the class -/
def EnX (h : IH) (a : Nat) (D : Dt) (e : Nat) : Prop := fI h 200 a = dso D e ∧ (dso D e ≠ 2 → fL h 201 a = dmo D e) ∧ (dso D e = 1 → fL h 202 a = dse D e) ∧ (dso D e = 0 → fL h 203 a = calV (dtb D e) (dtl D e) 0 0 ∧ fI h 204 a = dsn D e ∧ fI h 205 a = dgt D e)
def XgL (h : IH) (A : Nat → Nat) (D : Dt) : Prop := ∀ q, q < 3 * dn D → fI h 402 (A (200 + q)) = bI (dms D q) ∧ fI h 401 (A (200 + q)) = nI (dsz D q) ∧ ∀ i, i < dsz D q → EnX h (A (1000 + (16 * q + i))) D (16 * q + i)
def EnM (h : IH) (ar : Nat → Nat) (D : Dt) (e : Nat) : Prop := rI h (ar 10) e = dso D e ∧ rL h (ar 11) e = dmo D e ∧ rL h (ar 12) e = dse D e ∧ rI h (ar 13) e = nI (dtl D e) ∧ (∀ k, k < dtl D e → rI h (ar 14) (6 * e + k) = dtb D e k) ∧ rI h (ar 15) e = dsn D e ∧ rI h (ar 16) e = dgt D e
def den (D : Dt) (q : Nat) : Int32 := if dms D q then -1 else nI (dsz D q)
def MgL (h : IH) (_ : Nat) (ar : Nat → Nat) (D : Dt) : Prop := (∀ q, q < 36 → rI h (ar 9) q = den D q) ∧ ∀ q, q < 36 → ∀ i, i < dsz D q → EnM h ar D (16 * q + i)
def EnW (D : Dt) (e : Nat) : Prop := (dso D e = 0 ∨ dso D e = 1 ∨ dso D e = 2) ∧ in6 (dmo D e) 0 9999999999 ∧ in6 (dse D e) 0 9999999999 ∧ dtl D e ≤ 6 ∧ (dso D e = 0 → 1 ≤ dtl D e ∧ allB clB (dtb D e) (dtl D e) 0 = true) ∧ in_ (dsn D e) (-1) 99999 ∧ in_ (dgt D e) (-1) 99999
def WgL (D : Dt) : Prop := (∀ q, q < 36 → dsz D q ≤ 16 ∧ (dms D q = true → dsz D q = 0) ∧ (3 * dn D ≤ q → dms D q = true) ∧ (q < 3 * dn D → dK D (q / 3) = 4 → dms D q = true)) ∧ ∀ q, q < 36 → ∀ i, i < dsz D q → EnW D (16 * q + i)
def XgW (h : IH) (A : Nat → Nat) (D : Dt) : Prop := fI h 503 (A 5) = nI (dW D) ∧ ∀ i, i < dW D → rI h (A 7) i = dwr D i
def MgW (h : IH) (m : Nat) (ar : Nat → Nat) (D : Dt) : Prop := fI h 1230 m = nI (dW D) ∧ ∀ i, i < dW D → rI h (ar 31) i = dwr D i
def WgW (D : Dt) : Prop := dW D ≤ 1000
def woC (c : Int32) : Int32 := if 0 ≤ c then 10 else -1 - c
def XgR (h : IH) (A : Nat → Nat) (D : Dt) : Prop := fI h 301 (A 8) = nI (dR D) ∧ ∀ i, i < dR D → rI h (A 9) i = dco D i
def MgR (h : IH) (m : Nat) (ar : Nat → Nat) (D : Dt) : Prop := fI h 1223 m = nI (dR D) ∧ ∀ i, i < dR D → rI h (ar 24) i = woC (dco D i) ∧ (0 ≤ dco D i → rI h (ar 25) i = dco D i)
def XgP (h : IH) (A : Nat → Nat) (D : Dt) : Prop := fI h 3 (A 13) = dwin D ∧ fI h 802 (A 24) = dpen D
def MgP (h : IH) (m : Nat) (_ : Nat → Nat) (D : Dt) : Prop := fI h 1221 m = dwin D ∧ fI h 1222 m = dpen D
def WgP (D : Dt) : Prop := in_ (dwin D) 0 3600 ∧ in_ (dpen D) 0 1000
def XgE (h : IH) (A : Nat → Nat) (D : Dt) : Prop := fI h 1108 (A 0) = nI (dE D) ∧ ∀ i, i < dE D → rI h (A 26) i = nI (dem D i) ∧ ∀ s, s < dem D i → rI h (A (70 + i)) s = det D i s
def MgE (h : IH) (m : Nat) (ar : Nat → Nat) (D : Dt) : Prop := fI h 1232 m = nI (dE D) ∧ fI h 1200 m = nI (dE D) ∧ ∀ i, i < dE D → rI h (ar 33) i = nI (i + 1) ∧ rI h (ar 34) i = nI (dem D i) ∧ ∀ s, s < dem D i → rI h (ar 35) (12 * i + s) = det D i s
def WgE (D : Dt) : Prop := dE D ≤ 20 ∧ ∀ i, i < dE D → dem D i ≤ dn D
def XgA (h : IH) (A : Nat → Nat) (D : Dt) : Prop := fI h 1109 (A 0) = dfi D ∧ fI h 1110 (A 0) = nI (dop D) ∧ fI h 1111 (A 0) = nI (dop D) ∧ fI h 1112 (A 0) = das D ∧ fI h 1113 (A 0) = dfa D
def MgA (h : IH) (m : Nat) (_ : Nat → Nat) (D : Dt) : Prop := fI h 1236 m = dfi D ∧ fI h 1237 m = das D ∧ fI h 1238 m = dfa D ∧ fI h 1239 m = nI (dop D)
/-! frames by names: the class's by field numbers and by the places of rows -/
def RA (A : Nat → Nat) (p : Nat → Prop) (a : Nat) : Prop := ∃ i, p i ∧ a = A i
abbrev FX (A : Nat → Nat) (F G R Q : Nat → Prop) : IH → IH → Prop := Fr (fun f _ => F f) (fun f _ => G f) (RA A R) (RA A Q)
abbrev FM (m : Nat) (ar : Nat → Nat) (F G R Q : Nat → Prop) : IH → IH → Prop := Fr (fun f a => F f ∧ a = m) (fun f a => G f ∧ a = m) (RA ar R) (RA ar Q)
theorem RA_no {h : IH} {A : Nat → Nat} {n : Nat} (S : ShX h A n) {p : Nat → Prop} {k : Nat} (hp : ∀ i, p i → lvX n i) (hk : lvX n k) (h0 : ¬ p k) : ¬ RA A p (A k) := fun ⟨i, h1, h2⟩ => h0 (iA S hk (hp i h1) h2 ▸ h1)
theorem RM_no {h : IH} {m : Nat} {ar : Nat → Nat} (S : ShM h m ar) {p : Nat → Prop} {k : Nat} (hp : ∀ i, p i → mKd i ≠ 0) (hk : mKd k ≠ 0) (h0 : ¬ p k) : ¬ RA ar p (ar k) := fun ⟨i, h1, h2⟩ => h0 (S.2.2 k i hk (hp i h1) h2 ▸ h1)
def lvR (n : Nat) (p : Nat → Prop) : Prop := ∀ i, p i → lvX n i
section
variable {h h' : IH} {A : Nat → Nat} {D : Dt} {F G R Q : Nat → Prop}
theorem XgT.fr {n : Nat} (S : ShX h A n) (x : FX A F G R Q h h') (hR : lvR n R) (g : XgT h A D) (f1 : ¬ F 1001) (r1 : ¬ R 2) : XgT h' A D := ⟨by rw [x.fI f1]; exact g.1, by rw [x.rI (RA_no S hR (lv_lit (by decide) (by decide)) r1)]; exact g.2⟩
theorem XgS.fr (x : FX A F G R Q h h') (g : XgS h A D) (f1 : ∀ f, F f → f ≠ 701 ∧ (f < 900 ∨ 907 < f)) (g1 : ¬ G 904) : XgS h' A D := by
  refine ⟨by rw [x.fI (fun z => (f1 _ z).1 rfl)]; exact g.1, fun s hs => ?_⟩
  have q := g.2 s hs
  have c : ∀ f, 900 ≤ f → f ≤ 907 → ¬ F f := fun f h1 h2 z => by have := (f1 f z).2; omega
  rw [x.fI (c 900 (by omega) (by omega)), x.fI (c 901 (by omega) (by omega)), x.fI (c 902 (by omega) (by omega)), x.fI (c 903 (by omega) (by omega)), x.fI (c 906 (by omega) (by omega)), x.fI (c 907 (by omega) (by omega)), x.fL g1]
  exact q
theorem EnX.fr (x : FX A F G R Q h h') {a e : Nat} (g : EnX h a D e) (f1 : ∀ f, F f → f < 200 ∨ 205 < f) (g1 : ∀ f, G f → f < 201 ∨ 203 < f) : EnX h' a D e := by
  have c : ∀ f, 200 ≤ f → f ≤ 205 → ¬ F f := fun f h1 h2 z => by have := f1 f z; omega
  have d : ∀ f, 201 ≤ f → f ≤ 203 → ¬ G f := fun f h1 h2 z => by have := g1 f z; omega
  unfold EnX
  rw [x.fI (c 200 (by omega) (by omega)), x.fI (c 204 (by omega) (by omega)), x.fI (c 205 (by omega) (by omega)), x.fL (d 201 (by omega) (by omega)), x.fL (d 202 (by omega) (by omega)), x.fL (d 203 (by omega) (by omega))]
  exact g
theorem XgL.fr (x : FX A F G R Q h h') (g : XgL h A D) (f1 : ∀ f, F f → (f < 200 ∨ 205 < f) ∧ f ≠ 401 ∧ f ≠ 402) (g1 : ∀ f, G f → f < 201 ∨ 203 < f) : XgL h' A D := by
  intro q hq
  obtain ⟨a, b, c⟩ := g q hq
  refine ⟨by rw [x.fI (fun z => (f1 _ z).2.2 rfl)]; exact a, by rw [x.fI (fun z => (f1 _ z).2.1 rfl)]; exact b, fun i hi => (c i hi).fr x (fun f z => (f1 f z).1) g1⟩
theorem XgW.fr {n : Nat} (S : ShX h A n) (x : FX A F G R Q h h') (hR : lvR n R) (g : XgW h A D) (f1 : ¬ F 503) (r1 : ¬ R 7) : XgW h' A D := by
  refine ⟨by rw [x.fI f1]; exact g.1, ?_⟩
  rw [x.rI (RA_no S hR (lv_lit (by decide) (by decide)) r1)]
  exact g.2
theorem XgR.fr {n : Nat} (S : ShX h A n) (x : FX A F G R Q h h') (hR : lvR n R) (g : XgR h A D) (f1 : ¬ F 301) (r1 : ¬ R 9) : XgR h' A D := by
  refine ⟨by rw [x.fI f1]; exact g.1, ?_⟩
  rw [x.rI (RA_no S hR (lv_lit (by decide) (by decide)) r1)]
  exact g.2
theorem XgP.fr (x : FX A F G R Q h h') (g : XgP h A D) (f1 : ¬ F 3) (f2 : ¬ F 802) : XgP h' A D := ⟨by rw [x.fI f1]; exact g.1, by rw [x.fI f2]; exact g.2⟩
theorem XgE.fr {n : Nat} (S : ShX h A n) (x : FX A F G R Q h h') (hR : lvR n R) (g : XgE h A D) (hE : dE D ≤ 20) (f1 : ¬ F 1108) (r1 : ¬ R 26) (r2 : ∀ i, i < 20 → ¬ R (70 + i)) : XgE h' A D := by
  refine ⟨by rw [x.fI f1]; exact g.1, fun i hi => ?_⟩
  have hr := eRow i (by omega)
  rw [x.rI (RA_no S hR (lv_lit (by decide) (by decide)) r1), x.rI (RA_no S hR (lv_lit (show 70 + i < 90 by omega) (by omega)) (r2 i (by omega)))]
  exact g.2 i hi
theorem XgA.fr (x : FX A F G R Q h h') (g : XgA h A D) (f1 : ∀ f, F f → f < 1109 ∨ 1113 < f) : XgA h' A D := by
  have c : ∀ f, 1109 ≤ f → f ≤ 1113 → ¬ F f := fun f h1 h2 z => by have := f1 f z; omega
  unfold XgA
  rw [x.fI (c 1109 (by omega) (by omega)), x.fI (c 1110 (by omega) (by omega)), x.fI (c 1111 (by omega) (by omega)), x.fI (c 1112 (by omega) (by omega)), x.fI (c 1113 (by omega) (by omega))]
  exact g
end
def mRow (p : Nat → Prop) : Prop := ∀ i, p i → mKd i ≠ 0
section
variable {h h' : IH} {m : Nat} {ar : Nat → Nat} {D : Dt} {F G R Q : Nat → Prop}
theorem mfI (x : FM m ar F G R Q h h') {f a : Nat} (c : ¬ F f) : fI h' f a = fI h f a := x.fI (fun z => c z.1)
theorem mfL (x : FM m ar F G R Q h h') {f a : Nat} (c : ¬ G f) : fL h' f a = fL h f a := x.fL (fun z => c z.1)
theorem mrI (S : ShM h m ar) (x : FM m ar F G R Q h h') (hR : mRow R) {k : Nat} (hk : mKd k ≠ 0) (c : ¬ R k) : rI h' (ar k) = rI h (ar k) := x.rI (RM_no S hR hk c)
theorem mrL (S : ShM h m ar) (x : FM m ar F G R Q h h') (hQ : mRow Q) {k : Nat} (hk : mKd k ≠ 0) (c : ¬ Q k) : rL h' (ar k) = rL h (ar k) := x.rL (RM_no S hQ hk c)
theorem MgT.fr (S : ShM h m ar) (x : FM m ar F G R Q h h') (hR : mRow R) (g : MgT h m ar D) (f1 : ¬ F 1229) (r1 : ¬ R 28) : MgT h' m ar D := ⟨by rw [mfI x f1]; exact g.1, by rw [mrI S x hR (by decide) r1]; exact g.2⟩
theorem MgS.fr (S : ShM h m ar) (x : FM m ar F G R Q h h') (hR : mRow R) (g : MgS h m ar D) (f1 : ¬ F 1201) (r1 : ∀ k, R k → k < 2 ∨ 8 < k) : MgS h' m ar D := by
  have c : ∀ f, 2 ≤ f → f ≤ 8 → ¬ R f := fun f h1 h2 z => by have := r1 f z; omega
  unfold MgS
  rw [mfI x f1, mrI S x hR (by decide) (c 2 (by omega) (by omega)), mrI S x hR (by decide) (c 3 (by omega) (by omega)), mrI S x hR (by decide) (c 4 (by omega) (by omega)), mrI S x hR (by decide) (c 5 (by omega) (by omega)), mrI S x hR (by decide) (c 6 (by omega) (by omega)), mrI S x hR (by decide) (c 7 (by omega) (by omega)), mrI S x hR (by decide) (c 8 (by omega) (by omega))]
  exact g
theorem EnM.fr (S : ShM h m ar) (x : FM m ar F G R Q h h') (hR : mRow R) (hQ : mRow Q) {e : Nat} (g : EnM h ar D e) (r1 : ∀ k, R k → k < 9 ∨ 16 < k) (q1 : ∀ k, Q k → k < 9 ∨ 16 < k) : EnM h' ar D e := by
  have c : ∀ f, 9 ≤ f → f ≤ 16 → ¬ R f := fun f h1 h2 z => by have := r1 f z; omega
  have d : ∀ f, 9 ≤ f → f ≤ 16 → ¬ Q f := fun f h1 h2 z => by have := q1 f z; omega
  unfold EnM
  rw [mrI S x hR (by decide) (c 10 (by omega) (by omega)), mrL S x hQ (by decide) (d 11 (by omega) (by omega)), mrL S x hQ (by decide) (d 12 (by omega) (by omega)), mrI S x hR (by decide) (c 13 (by omega) (by omega)), mrI S x hR (by decide) (c 14 (by omega) (by omega)), mrI S x hR (by decide) (c 15 (by omega) (by omega)), mrI S x hR (by decide) (c 16 (by omega) (by omega))]
  exact g
theorem MgL.fr (S : ShM h m ar) (x : FM m ar F G R Q h h') (hR : mRow R) (hQ : mRow Q) (g : MgL h m ar D) (r1 : ∀ k, R k → k < 9 ∨ 16 < k) (q1 : ∀ k, Q k → k < 9 ∨ 16 < k) : MgL h' m ar D := by
  refine ⟨fun q hq => ?_, fun q hq i hi => (g.2 q hq i hi).fr S x hR hQ r1 q1⟩
  rw [mrI S x hR (by decide) (fun z => by have := r1 _ z; omega)]
  exact g.1 q hq
theorem MgW.fr (S : ShM h m ar) (x : FM m ar F G R Q h h') (hR : mRow R) (g : MgW h m ar D) (f1 : ¬ F 1230) (r1 : ¬ R 31) : MgW h' m ar D := by
  unfold MgW
  rw [mfI x f1, mrI S x hR (by decide) r1]
  exact g
theorem MgR.fr (S : ShM h m ar) (x : FM m ar F G R Q h h') (hR : mRow R) (g : MgR h m ar D) (f1 : ¬ F 1223) (r1 : ¬ R 24) (r2 : ¬ R 25) : MgR h' m ar D := by
  unfold MgR
  rw [mfI x f1, mrI S x hR (by decide) r1, mrI S x hR (by decide) r2]
  exact g
theorem MgP.fr (x : FM m ar F G R Q h h') (g : MgP h m ar D) (f1 : ¬ F 1221) (f2 : ¬ F 1222) : MgP h' m ar D := by
  unfold MgP
  rw [mfI x f1, mfI x f2]
  exact g
theorem MgE.fr (S : ShM h m ar) (x : FM m ar F G R Q h h') (hR : mRow R) (g : MgE h m ar D) (f1 : ¬ F 1232) (f2 : ¬ F 1200) (r1 : ∀ k, R k → k < 33 ∨ 35 < k) : MgE h' m ar D := by
  have c : ∀ f, 33 ≤ f → f ≤ 35 → ¬ R f := fun f h1 h2 z => by have := r1 f z; omega
  unfold MgE
  rw [mfI x f1, mfI x f2, mrI S x hR (by decide) (c 33 (by omega) (by omega)), mrI S x hR (by decide) (c 34 (by omega) (by omega)), mrI S x hR (by decide) (c 35 (by omega) (by omega))]
  exact g
theorem MgA.fr (x : FM m ar F G R Q h h') (g : MgA h m ar D) (f1 : ∀ f, F f → f < 1236 ∨ 1239 < f) : MgA h' m ar D := by
  have c : ∀ f, 1236 ≤ f → f ≤ 1239 → ¬ F f := fun f h1 h2 z => by have := f1 f z; omega
  unfold MgA
  rw [mfI x (c 1236 (by omega) (by omega)), mfI x (c 1237 (by omega) (by omega)), mfI x (c 1238 (by omega) (by omega)), mfI x (c 1239 (by omega) (by omega))]
  exact g
end
