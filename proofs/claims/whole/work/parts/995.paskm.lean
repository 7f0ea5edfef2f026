/-! ===== asks: the reference ===== -/
def AkM (H : IH) (m : Nat) (D : Dt) (a f : Int32) : Prop := fI H 1236 m = f ∧ fI H 1237 m = das D + 1 ∧ fI H 1238 m = dfa D ∧ fI H 1239 m = nI (opN D a)
def mkF (f : Nat) : Prop := chF f ∨ (1236 ≤ f ∧ f ≤ 1239) ∨ ptF f
def mkR (i : Nat) : Prop := chR i ∨ i = 69
abbrev FrMK (m : Nat) (ar : Nat → Nat) : IH → IH → Prop := FM m ar mkF (e1 1268) mkR chQ
theorem mkR_row : mRow mkR := fun i z => by
  rcases z with z | z
  · exact chR_row i z
  · subst z; decide
section
variable {m : Nat} {ar : Nat → Nat} {N : Nat} {D : Dt}
theorem FrCK.toK {h h' : IH} (x : FrCK m ar h h') : FrMK m ar h h' := FM.mo x (fun _ z => Or.inl z) (fun _ z => z) (fun _ z => Or.inl z) (fun _ z => z)
theorem FrCS.toK {h h' : IH} (x : FrCS m ar h h') : FrMK m ar h h' := FM.mo x (fun _ z => Or.inr (Or.inr z)) (fun _ z => z.elim) (fun _ z => Or.inr z) (fun _ z => z.elim)
theorem FrPT.toK {h h' : IH} (x : FrPT m ar h h') : FrMK m ar h h' := FM.mo x (fun _ z => Or.inr (Or.inr z)) (fun _ z => z.elim) (fun _ z => z.elim) (fun _ z => z.elim)
theorem wK {h H : IH} (x : FrMK m ar h H) {k : Nat} (hk : 1236 ≤ k ∧ k ≤ 1239) (v : Int32) : FrMK m ar h (wfI H k m v) := x.trans (Fr.wI _ _ _ _ ⟨Or.inr (Or.inl hk), rfl⟩)
theorem mkGS {h h' : IH} (S : ShM h m ar) (x : FrMK m ar h h') (g : MgS h m ar D) : MgS h' m ar D := g.fr S x mkR_row (by unfold mkF chF paF ptF; omega) (fun k z => by unfold mkR chR paR at z; omega)
theorem mkGL {h h' : IH} (S : ShM h m ar) (x : FrMK m ar h h') (g : MgL h m ar D) : MgL h' m ar D := g.fr S x mkR_row chQ_row (fun k z => by unfold mkR chR paR at z; omega) (fun k z => by unfold chQ paQ at z; omega)
theorem mkGR {h h' : IH} (S : ShM h m ar) (x : FrMK m ar h h') (g : MgR h m ar D) : MgR h' m ar D := g.fr S x mkR_row (by unfold mkF chF paF ptF; omega) (by unfold mkR chR paR; omega) (by unfold mkR chR paR; omega)
theorem mkGP {h h' : IH} (x : FrMK m ar h h') (g : MgP h m ar D) : MgP h' m ar D := g.fr x (by unfold mkF chF paF ptF; omega) (by unfold mkF chF paF ptF; omega)
theorem mkGT {h h' : IH} (S : ShM h m ar) (x : FrMK m ar h h') (g : MgT h m ar D) : MgT h' m ar D := g.fr S x mkR_row (by unfold mkF chF paF ptF; omega) (by unfold mkR chR paR; omega)
theorem mkGW {h h' : IH} (S : ShM h m ar) (x : FrMK m ar h h') (g : MgW h m ar D) : MgW h' m ar D := g.fr S x mkR_row (by unfold mkF chF paF ptF; omega) (by unfold mkR chR paR; omega)
theorem mkGE {h h' : IH} (S : ShM h m ar) (x : FrMK m ar h h') (g : MgE h m ar D) : MgE h' m ar D := g.fr S x mkR_row (by unfold mkF chF paF ptF; omega) (by unfold mkF chF paF ptF; omega) (fun k z => by unfold mkR chR paR at z; omega)
theorem beginM {h : IH} (S : ShM h m ar) (hN : 1000000 ≤ N) (gs : MgS h m ar D) (qL : MgL h m ar D) (gP : MgP h m ar D) (gA : MgA h m ar D) (wS : WgS D) (w : WgL D) (wP : WgP D) (ch : ChM h m ar D) (a : Int32) : ∃ h', s_X12_begin N h m a = some h' ∧ FrMK m ar h h' ∧ CkM h' ar D ∧ AkM h' m D a 0 := by
  have wn := wS.1
  obtain ⟨g6, g7, g8, g9⟩ := gA
  have g7' : fI h (1200 + 37) m = das D := g7
  have S1 : ShM (wfI h (1200 + 37) m (das D + 1)) m ar := S
  have f1 : FrMK m ar h (wfI h (1200 + 37) m (das D + 1)) := Fr.wI _ _ _ _ ⟨Or.inr (Or.inl (by omega)), rfl⟩
  have gs1 := mkGS S f1 gs
  have g9' : fI (wfI h (1200 + 37) m (das D + 1)) (1200 + 39) m = nI (dop D) := by rw [fI_wfI_ne _ _ (by decide)]; exact g9
  unfold s_X12_begin
  rw [mgI 37 S.1, Option.bind_some, g7', mpI 37 _ S.1, Option.bind_some, mgI 39 S1.1, Option.bind_some, g9', mV12 S1, isStationM S1 gs1 wn a, Option.bind_some]
  have q6 : ((if (if 0 ≤ a ∧ a < nI (dn D) then (1 : Int32) else 0) = 0 then some 0 else some 1) : Option (Int32)) = some (if 0 ≤ a ∧ a < nI (dn D) then 1 else 0) := by
    by_cases c : 0 ≤ a ∧ a < nI (dn D)
    · rw [if_pos c, if_neg (by decide)]
    · rw [if_neg c, if_pos rfl]
  have e9 : nI (dop D) + (if 0 ≤ a ∧ a < nI (dn D) then 1 else 0) = nI (opN D a) := by
    unfold opN
    by_cases c : 0 ≤ a ∧ a < nI (dn D)
    · rw [if_pos c, if_pos c, nI_1]
    · rw [if_neg c, if_neg c, Int32.add_zero]
  have S2 : ShM (wfI (wfI h (1200 + 37) m (das D + 1)) (1200 + 39) m (nI (opN D a))) m ar := S
  have S3 : ShM (wfI (wfI (wfI h (1200 + 37) m (das D + 1)) (1200 + 39) m (nI (opN D a))) (1200 + 36) m 0) m ar := S
  have f3 : FrMK m ar h (wfI (wfI (wfI h (1200 + 37) m (das D + 1)) (1200 + 39) m (nI (opN D a))) (1200 + 36) m 0) := wK (wK f1 (k := 1200 + 39) (by omega) _) (k := 1200 + 36) (by omega) _
  have k3 : AkM (wfI (wfI (wfI h (1200 + 37) m (das D + 1)) (1200 + 39) m (nI (opN D a))) (1200 + 36) m 0) m D a 0 := ⟨fI_wfI _ _ _ _, by rw [fI_wfI_ne _ _ (by decide), fI_wfI_ne _ _ (by decide)]; exact fI_wfI _ _ _ _, by rw [fI_wfI_ne _ _ (by decide), fI_wfI_ne _ _ (by decide), fI_wfI_ne _ _ (by decide)]; exact g8, by rw [fI_wfI_ne _ _ (by decide)]; exact fI_wfI _ _ _ _⟩
  have ch3 : ChM (wfI (wfI (wfI h (1200 + 37) m (das D + 1)) (1200 + 39) m (nI (opN D a))) (1200 + 36) m 0) m ar D := fun z => by
    rw [fI_wfI_ne _ _ (by decide), fI_wfI_ne _ _ (by decide), fI_wfI_ne _ _ (by decide)] at z
    exact ch z
  rw [q6, Option.bind_some, e9, mpI 39 _ S1.1, Option.bind_some, mpI 36 _ S2.1, Option.bind_some, mV12 S3]
  generalize wfI (wfI (wfI h (1200 + 37) m (das D + 1)) (1200 + 39) m (nI (opN D a))) (1200 + 36) m 0 = H at *
  obtain ⟨h', e', f', c'⟩ := checkM (N := N) S3 hN (mkGS S f3 gs) (mkGL S f3 qL) (mkGP f3 gP) wS w wP ch3
  rw [e', Option.bind_some]
  have nf : ∀ f, 1236 ≤ f → f ≤ 1239 → ¬ chF f := fun f h1 h2 z => by unfold chF paF at z; omega
  refine ⟨h', rfl, f3.trans f'.toK, c', ?_, ?_, ?_, ?_⟩
  · rw [mfI f' (nf _ (by omega) (by omega))]; exact k3.1
  · rw [mfI f' (nf _ (by omega) (by omega))]; exact k3.2.1
  · rw [mfI f' (nf _ (by omega) (by omega))]; exact k3.2.2.1
  · rw [mfI f' (nf _ (by omega) (by omega))]; exact k3.2.2.2
theorem AkM.fr {h H : IH} {F G R Q : Nat → Prop} {a f : Int32} (x : FM m ar F G R Q h H) (k : AkM h m D a f) (f1 : ∀ f, F f → f < 1236 ∨ 1239 < f) : AkM H m D a f := by
  have c : ∀ f, 1236 ≤ f → f ≤ 1239 → ¬ F f := fun f h1 h2 z => by have := f1 f z; omega
  unfold AkM
  rw [mfI x (c 1236 (by omega) (by omega)), mfI x (c 1237 (by omega) (by omega)), mfI x (c 1238 (by omega) (by omega)), mfI x (c 1239 (by omega) (by omega))]
  exact k
theorem AkM.ok {H : IH} {a : Int32} (k : AkM H m D a 0) : MgA H m ar (akD D a 0) := ⟨k.1, k.2.1, k.2.2.1.trans (by show dfa D = (if (0 : Int32) = 0 then dfa D else dfa D + 1); rw [if_pos rfl]), k.2.2.2⟩
theorem foundM {H : IH} (S : ShM H m ar) {a : Int32} (k : AkM H m D a 0) {g : Int32} (hg : g ≠ 0) (ck : CkM H ar D) : ∃ h', s_X12_found H m g = some (0, h') ∧ FrMK m ar H h' ∧ MgA h' m ar (akD D a g) ∧ CkM h' ar D := by
  have S1 : ShM (wfI H (1200 + 36) m g) m ar := S
  have k8 : fI (wfI H (1200 + 36) m g) (1200 + 38) m = dfa D := by rw [fI_wfI_ne _ _ (by decide)]; exact k.2.2.1
  have f2 : FrMK m ar H (wfI (wfI H (1200 + 36) m g) (1200 + 38) m (dfa D + 1)) := wK (wK (Fr.refl _) (k := 1200 + 36) (by omega) _) (k := 1200 + 38) (by omega) _
  unfold s_X12_found
  rw [mpI 36 _ S.1, Option.bind_some, mgI 38 S1.1, Option.bind_some, k8, mpI 38 _ S1.1, Option.bind_some]
  have g2 : FM m ar (fun f => 1236 ≤ f ∧ f ≤ 1239) no1 no1 no1 H (wfI (wfI H (1200 + 36) m g) (1200 + 38) m (dfa D + 1)) := (Fr.wI _ _ _ _ ⟨by omega, rfl⟩).trans (Fr.wI _ _ _ _ ⟨by omega, rfl⟩)
  refine ⟨_, rfl, f2, ⟨?_, ?_, ?_, ?_⟩, ck.fr S g2 no1_row no1_row (fun z => z) (fun z => z) (fun z => z)⟩
  · rw [fI_wfI_ne _ _ (by decide)]; exact fI_wfI _ _ _ _
  · rw [fI_wfI_ne _ _ (by decide), fI_wfI_ne _ _ (by decide)]; exact k.2.1
  · refine (fI_wfI _ _ _ _).trans ?_
    show dfa D + 1 = (if g = 0 then dfa D else dfa D + 1)
    rw [if_neg hg]
  · rw [fI_wfI_ne _ _ (by decide), fI_wfI_ne _ _ (by decide)]; exact k.2.2.2
theorem isBand (H : IH) (b : Int32) : s_X12_isIn H b.toInt64 0 2 = some (if 0 ≤ b ∧ b < 3 then 1 else 0) := by
  have e := isInP H b (k := 3) (by omega)
  rw [show (nI 3 - 1).toInt64 = (2 : Int64) by decide] at e
  exact e
theorem rsL_p (D : Dt) (a b : Int32) (h : rsL D a b ≠ 0) : ¬ rsL D a b ≤ 0 := by
  unfold rsL at h ⊢
  split at h
  · rename_i c1
    rw [if_pos c1]
    split at h
    · rename_i c2
      rw [if_pos c2]
      split at h
      · rename_i c3
        rw [if_pos c3]
        decide
      · exact absurd rfl h
    · rename_i c2
      rw [if_neg c2]
      decide
  · rename_i c1
    rw [if_neg c1]
    decide
theorem rsI_p (D : Dt) (a b i : Int32) (h : rsI D a b i ≠ 0) : ¬ rsI D a b i ≤ 0 := by
  by_cases c : rsL D a b = 0
  · have e : rsI D a b i = if 0 ≤ i ∧ i < nI (dsz D (qOf a b)) then 0 else 2 := by unfold rsI; rw [if_pos c]
    by_cases d : 0 ≤ i ∧ i < nI (dsz D (qOf a b))
    · rw [e, if_pos d] at h; exact absurd rfl h
    · rw [e, if_neg d]; decide
  · have e : rsI D a b i = rsL D a b := by unfold rsI; rw [if_neg c]
    rw [e]
    exact rsL_p D a b c
theorem rsC_p (D : Dt) (a b i : Int32) (h : rsC D a b i ≠ 0) : ¬ rsC D a b i ≤ 0 := by
  by_cases c : rsI D a b i = 0
  · have e : rsC D a b i = if dso D (eOf a b i) = 0 then 0 else 3 := by unfold rsC; rw [if_pos c]
    by_cases d : dso D (eOf a b i) = 0
    · rw [e, if_pos d] at h; exact absurd rfl h
    · rw [e, if_neg d]; decide
  · have e : rsC D a b i = rsI D a b i := by unfold rsC; rw [if_neg c]
    rw [e]
    exact rsI_p D a b i c
theorem le00 : (0 : Int32) ≤ 0 := by decide
theorem rsLM {H : IH} (S : ShM H m ar) (gs : MgS H m ar D) (qL : MgL H m ar D) (wn : dn D ≤ 12) (w : WgL D) (a b : Int32) : s_X12_reasonOfLog H m a b = some (rsL D a b) := by
  unfold s_X12_reasonOfLog rsL
  rw [mV12 S, isStationM S gs wn a, Option.bind_some]
  rcases stC wn a with ⟨s, hs, rfl⟩ | q
  · rw [if_pos (stIn wn hs), if_pos (stIn wn hs), if_neg (show ¬ (1 : Int32) = 0 by decide), isBand, Option.bind_some]
    rcases bandC b with ⟨k, hk, rfl⟩ | qb
    · have eq : qOf (nI s) (nI k) = 3 * s + k := by unfold qOf; rw [nI_clamp (by omega), nI_clamp (by omega)]
      have r9 : rI H (ar 9) (3 * s + k) = den D (3 * s + k) := qL.1 _ (by omega)
      have w16 := (w.1 (3 * s + k) (by omega)).1
      rw [if_pos (bandIn hk), if_pos (bandIn hk), if_neg (show ¬ (1 : Int32) = 0 by decide), mgR 9 S (by decide), Option.bind_some, show (3 : Int32) = nI 3 from rfl, nI_mul, nI_add, maI 9 _ S (by decide) (show 3 * s + k < 36 by omega), Option.bind_some, r9, eq]
      unfold den
      cases c : dms D (3 * s + k) with
      | true =>
        rw [if_pos rfl, if_pos rfl, if_neg (show ¬ (0 : Int32) ≤ -1 by decide), Option.bind_some]
      | false =>
        rw [if_neg (show ¬ false = true by decide), if_neg (show ¬ false = true by decide), if_pos (nI_pos' (by omega)), Option.bind_some]
    · rw [if_neg qb, if_neg qb, if_pos rfl, Option.bind_some]
  · rw [if_neg q, if_neg q, if_pos rfl, Option.bind_some]
theorem ent9 {H : IH} (qL : MgL H m ar D) {s k : Nat} (hq : 3 * s + k < 36) (hm : dms D (3 * s + k) = false) : rI H (ar 9) (3 * s + k) = nI (dsz D (3 * s + k)) := by
  rw [qL.1 _ hq]
  unfold den
  rw [hm]
  rfl
theorem rsIM {H : IH} (S : ShM H m ar) (gs : MgS H m ar D) (qL : MgL H m ar D) (wn : dn D ≤ 12) (w : WgL D) (a b i : Int32) : s_X12_reasonOfLine H m a b i = some (rsI D a b i) := by
  unfold s_X12_reasonOfLine
  rw [mV12 S, rsLM S gs qL wn w a b, Option.bind_some]
  by_cases c : rsL D a b = 0
  · obtain ⟨s, k, hs, hk, ea, eb, eq, hm⟩ := rsL_0 wn c
    have w16 := (w.1 (3 * s + k) (by omega)).1
    have e : rsI D a b i = if 0 ≤ i ∧ i < nI (dsz D (3 * s + k)) then 0 else 2 := by unfold rsI; rw [if_pos c, eq]
    rw [e, c, if_pos le00, mgR 9 S (by decide), Option.bind_some, ea, eb, show (3 : Int32) = nI 3 from rfl, nI_mul, nI_add, maI 9 _ S (by decide) (show 3 * s + k < 36 by omega), Option.bind_some, ent9 qL (by omega) hm, isInP H i (by omega), Option.bind_some]
    by_cases d : 0 ≤ i ∧ i < nI (dsz D (3 * s + k))
    · rw [if_pos d, if_pos d, if_neg (show ¬ (1 : Int32) = 0 by decide), Option.bind_some]
    · rw [if_neg d, if_neg d, if_pos rfl, Option.bind_some]
  · have e : rsI D a b i = rsL D a b := by unfold rsI; rw [if_neg c]
    rw [if_neg (rsL_p D a b c), Option.bind_some, e]
theorem ix48 (s k j : Nat) : (48 : Int32) * nI s + 16 * nI k + nI j = nI (16 * (3 * s + k) + j) := by
  rw [show (48 : Int32) = nI 48 from rfl, show (16 : Int32) = nI 16 from rfl, nI_mul, nI_mul, nI_add, nI_add]
  congr 1
  omega
theorem rsCM {H : IH} (S : ShM H m ar) (gs : MgS H m ar D) (qL : MgL H m ar D) (wn : dn D ≤ 12) (w : WgL D) (a b i : Int32) : s_X12_reasonOfContact H m a b i = some (rsC D a b i) := by
  unfold s_X12_reasonOfContact
  rw [mV12 S, rsIM S gs qL wn w a b i, Option.bind_some]
  by_cases c : rsI D a b i = 0
  · obtain ⟨s, k, j, hs, hk, hj, h16, ea, eb, ei, eq, ee, _⟩ := rsI_0 wn w c
    have e : rsC D a b i = if dso D (16 * (3 * s + k) + j) = 0 then 0 else 3 := by unfold rsC; rw [if_pos c, ee]
    have r10 : rI H (ar 10) (16 * (3 * s + k) + j) = dso D (16 * (3 * s + k) + j) := (qL.2 (3 * s + k) (by omega) j hj).1
    rw [e, c, if_pos le00, mgR 10 S (by decide), Option.bind_some, ea, eb, ei, ix48, maI 10 _ S (by decide) (show 16 * (3 * s + k) + j < 576 by omega), Option.bind_some, r10]
    by_cases d : dso D (16 * (3 * s + k) + j) = 0
    · rw [if_pos d, if_pos d, Option.bind_some]
    · rw [if_neg d, if_neg d, Option.bind_some]
  · have e : rsC D a b i = rsI D a b i := by unfold rsC; rw [if_neg c]
    rw [if_neg (rsI_p D a b i c), Option.bind_some, e]
def OkM (h h' : IH) (m : Nat) (ar : Nat → Nat) (D : Dt) (a f : Int32) : Prop := FrMK m ar h h' ∧ MgA h' m ar (akD D a f) ∧ CkM h' ar D
/-! the small asks -/
def linV (D : Dt) (a b : Int32) : Int32 := if rsL D a b = 0 then nI (dsz D (qOf a b)) else 0
def entV (D : Dt) (a b i : Int32) : Int32 := if rsI D a b i = 0 then dso D (eOf a b i) else 0
def momF (D : Dt) (a b i k : Int32) : Int32 := if rsI D a b i = 0 then (if dso D (eOf a b i) = 2 then 3 else if k = 0 then 0 else if k = 1 ∧ dso D (eOf a b i) = 1 then 0 else 2) else rsI D a b i
def momV (D : Dt) (a b i k : Int32) : Int64 := if rsI D a b i = 0 then (if dso D (eOf a b i) = 2 then 0 else if k = 0 then dmo D (eOf a b i) else if k = 1 ∧ dso D (eOf a b i) = 1 then dse D (eOf a b i) else 0) else 0
def chaF (D : Dt) (a b i k : Int32) : Int32 := if rsC D a b i = 0 then (if 0 ≤ k ∧ k < nI (dtl D (eOf a b i)) then 0 else 2) else rsC D a b i
def chaV (D : Dt) (a b i k : Int32) : Int32 := if rsC D a b i = 0 then (if 0 ≤ k ∧ k < nI (dtl D (eOf a b i)) then dtb D (eOf a b i) k.toNatClampNeg else 0) else 0
def nuX (D : Dt) (e : Nat) (k : Int32) : Int32 := if k = 0 then dsn D e else if k = 1 then dgt D e else -1
def numF (D : Dt) (a b i k : Int32) : Int32 := if rsC D a b i = 0 then (if 0 ≤ nuX D (eOf a b i) k then 0 else 2) else rsC D a b i
def numV_ (D : Dt) (a b i k : Int32) : Int32 := if rsC D a b i = 0 then (if 0 ≤ nuX D (eOf a b i) k then nuX D (eOf a b i) k else 0) else 0
theorem linesM {h : IH} (S : ShM h m ar) (hN : 1000000 ≤ N) (gs : MgS h m ar D) (qL : MgL h m ar D) (gP : MgP h m ar D) (gA : MgA h m ar D) (wS : WgS D) (w : WgL D) (wP : WgP D) (ch : ChM h m ar D) (a b : Int32) : ∃ h', s_X12_lines N h m a b = some (linV D a b, h') ∧ OkM h h' m ar D a (rsL D a b) := by
  have wn := wS.1
  obtain ⟨H, e, fr, ck, k⟩ := beginM (N := N) S hN gs qL gP gA wS w wP ch a
  have SH := fr.shM S
  have gsH := mkGS S fr gs
  have gLH := mkGL S fr qL
  unfold s_X12_lines linV
  rw [mV12 S, e, Option.bind_some, mV12 SH, rsLM SH gsH gLH wn w a b, Option.bind_some]
  by_cases c : rsL D a b = 0
  · obtain ⟨s, j, hs, hj, ea, eb, eq, hm⟩ := rsL_0 wn c
    rw [c, if_pos le00, if_pos rfl, eq]
    subst ea eb
    rw [mgR 9 SH (by decide), Option.bind_some, show (3 : Int32) = nI 3 from rfl, nI_mul, nI_add, maI 9 _ SH (by decide) (show 3 * s + j < 36 by omega), Option.bind_some, ent9 gLH (by omega) hm, Option.bind_some]
    exact ⟨H, rfl, fr, k.ok, ck⟩
  · obtain ⟨h', e', f', g', c'⟩ := foundM SH k c ck
    rw [if_neg (rsL_p D a b c), mV12 SH, e', Option.bind_some, Option.bind_some, if_neg c]
    exact ⟨h', rfl, fr.trans f', g', c'⟩
theorem entryM {h : IH} (S : ShM h m ar) (hN : 1000000 ≤ N) (gs : MgS h m ar D) (qL : MgL h m ar D) (gP : MgP h m ar D) (gA : MgA h m ar D) (wS : WgS D) (w : WgL D) (wP : WgP D) (ch : ChM h m ar D) (a b i : Int32) : ∃ h', s_X12_entry N h m a b i = some (entV D a b i, h') ∧ OkM h h' m ar D a (rsI D a b i) := by
  have wn := wS.1
  obtain ⟨H, e, fr, ck, k⟩ := beginM (N := N) S hN gs qL gP gA wS w wP ch a
  have SH := fr.shM S
  have gsH := mkGS S fr gs
  have gLH := mkGL S fr qL
  unfold s_X12_entry entV
  rw [mV12 S, e, Option.bind_some, mV12 SH, rsIM SH gsH gLH wn w a b i, Option.bind_some]
  by_cases c : rsI D a b i = 0
  · obtain ⟨s, l, j, hs, hl, hj, h16, ea, eb, ei, eq, ee, _⟩ := rsI_0 wn w c
    have r10 : rI H (ar 10) (16 * (3 * s + l) + j) = dso D (16 * (3 * s + l) + j) := (gLH.2 (3 * s + l) (by omega) j hj).1
    unfold s_X12_entryAt
    rw [c, if_pos le00, mgR 10 SH (by decide), Option.bind_some, Option.bind_some, if_pos rfl, ee]
    subst ea eb ei
    rw [ix48, maI 10 _ SH (by decide) (show 16 * (3 * s + l) + j < 576 by omega), Option.bind_some, r10, Option.bind_some]
    exact ⟨H, rfl, fr, k.ok, ck⟩
  · obtain ⟨h', e', f', g', c'⟩ := foundM SH k c ck
    rw [if_neg (rsI_p D a b i c), mV12 SH, e', Option.bind_some, Option.bind_some, if_neg c]
    exact ⟨h', rfl, fr.trans f', g', c'⟩
theorem momentM {h : IH} (S : ShM h m ar) (hN : 1000000 ≤ N) (gs : MgS h m ar D) (qL : MgL h m ar D) (gP : MgP h m ar D) (gA : MgA h m ar D) (wS : WgS D) (w : WgL D) (wP : WgP D) (ch : ChM h m ar D) (a b i k3 : Int32) : ∃ h', s_X12_moment N h m a b i k3 = some (momV D a b i k3, h') ∧ OkM h h' m ar D a (momF D a b i k3) := by
  have wn := wS.1
  obtain ⟨H, e, fr, ck, k⟩ := beginM (N := N) S hN gs qL gP gA wS w wP ch a
  have SH := fr.shM S
  have gsH := mkGS S fr gs
  have gLH := mkGL S fr qL
  unfold s_X12_moment momV momF
  rw [mV12 S, e, Option.bind_some, mV12 SH, rsIM SH gsH gLH wn w a b i, Option.bind_some]
  by_cases c : rsI D a b i = 0
  · obtain ⟨s, l, j, hs, hl, hj, h16, ea, eb, ei, eq, ee, _⟩ := rsI_0 wn w c
    have en := gLH.2 (3 * s + l) (by omega) j hj
    have we := w.2 (3 * s + l) (by omega) j hj
    have he : 16 * (3 * s + l) + j < 576 := by omega
    unfold s_X12_entryAt
    rw [c, if_pos le00, if_pos rfl, if_pos rfl, ee]
    subst ea eb ei
    rw [ix48, Option.bind_some, mgR 10 SH (by decide), Option.bind_some, maI 10 _ SH (by decide) (show 16 * (3 * s + l) + j < 576 from he), Option.bind_some, en.1]
    by_cases d2 : dso D (16 * (3 * s + l) + j) = 2
    · obtain ⟨h', e', f', g', c'⟩ := foundM SH k (g := 3) (by decide) ck
      rw [if_pos d2, if_pos d2, if_pos d2, mV12 SH, e', Option.bind_some]
      exact ⟨h', rfl, fr.trans f', g', c'⟩
    · rw [if_neg d2, if_neg d2, if_neg d2, Option.bind_some, maI 10 _ SH (by decide) (show 16 * (3 * s + l) + j < 576 from he), Option.bind_some, en.1]
      have q13 : ((if dso D (16 * (3 * s + l) + j) = 1 then some 1 else some 0) : Option (Int64)) = some ((nI (if dso D (16 * (3 * s + l) + j) = 1 then 2 else 1) - 1).toInt64) := by
        by_cases x : dso D (16 * (3 * s + l) + j) = 1
        · rw [if_pos x, if_pos x]; rfl
        · rw [if_neg x, if_neg x]; rfl
      rw [q13, Option.bind_some, isInP H k3 (by split <;> omega), Option.bind_some]
      by_cases d0 : k3 = 0
      · rw [if_pos (show 0 ≤ k3 ∧ k3 < nI (if dso D (16 * (3 * s + l) + j) = 1 then 2 else 1) by rw [d0]; split <;> decide), if_neg (show ¬ (1 : Int32) = 0 by decide), if_pos d0, if_pos d0, if_pos d0, mgR 11 SH (by decide), Option.bind_some, maJ 11 _ SH (by decide) (show 16 * (3 * s + l) + j < 576 from he), Option.bind_some, Option.bind_some, en.2.1]
        exact ⟨H, rfl, fr, k.ok, ck⟩
      · by_cases d1 : k3 = 1 ∧ dso D (16 * (3 * s + l) + j) = 1
        · rw [if_pos (show 0 ≤ k3 ∧ k3 < nI (if dso D (16 * (3 * s + l) + j) = 1 then 2 else 1) by rw [d1.1, if_pos d1.2]; decide), if_neg (show ¬ (1 : Int32) = 0 by decide), if_neg d0, if_neg d0, if_neg d0, if_pos d1, if_pos d1, mgR 12 SH (by decide), Option.bind_some, maJ 12 _ SH (by decide) (show 16 * (3 * s + l) + j < 576 from he), Option.bind_some, Option.bind_some, en.2.2.1]
          exact ⟨H, rfl, fr, k.ok, ck⟩
        · obtain ⟨h', e', f', g', c'⟩ := foundM SH k (g := 2) (by decide) ck
          have no : ¬ (0 ≤ k3 ∧ k3 < nI (if dso D (16 * (3 * s + l) + j) = 1 then 2 else 1)) := fun z => by
            have z1 := clampI z.1
            have z2 := z.2
            rw [z1] at z2
            have b31 : k3.toNatClampNeg < 2 ^ 31 := Int32.toNatClampNeg_lt k3
            have z3 := iLt.mp z2
            rw [nI_toInt b31] at z3
            by_cases d3 : dso D (16 * (3 * s + l) + j) = 1
            · rw [if_pos d3, nI_toInt (by omega)] at z3
              rcases (show k3.toNatClampNeg = 0 ∨ k3.toNatClampNeg = 1 by omega) with y | y
              · rw [y] at z1; exact d0 z1
              · rw [y] at z1; exact d1 ⟨z1, d3⟩
            · rw [if_neg d3, nI_toInt (by omega)] at z3
              rw [show k3.toNatClampNeg = 0 by omega] at z1
              exact d0 z1
          rw [if_neg no, if_pos rfl, if_neg d0, if_neg d0, if_neg d1, if_neg d1, mV12 SH, e', Option.bind_some]
          exact ⟨h', rfl, fr.trans f', g', c'⟩
  · obtain ⟨h', e', f', g', c'⟩ := foundM SH k c ck
    rw [if_neg (rsI_p D a b i c), mV12 SH, e', Option.bind_some, if_neg c, if_neg c]
    exact ⟨h', rfl, fr.trans f', g', c'⟩
theorem characterM {h : IH} (S : ShM h m ar) (hN : 1000000 ≤ N) (gs : MgS h m ar D) (qL : MgL h m ar D) (gP : MgP h m ar D) (gA : MgA h m ar D) (wS : WgS D) (w : WgL D) (wP : WgP D) (ch : ChM h m ar D) (a b i k3 : Int32) : ∃ h', s_X12_character N h m a b i k3 = some (chaV D a b i k3, h') ∧ OkM h h' m ar D a (chaF D a b i k3) := by
  have wn := wS.1
  obtain ⟨H, e, fr, ck, k⟩ := beginM (N := N) S hN gs qL gP gA wS w wP ch a
  have SH := fr.shM S
  have gsH := mkGS S fr gs
  have gLH := mkGL S fr qL
  unfold s_X12_character chaV chaF
  rw [mV12 S, e, Option.bind_some, mV12 SH, rsCM SH gsH gLH wn w a b i, Option.bind_some]
  by_cases c : rsC D a b i = 0
  · obtain ⟨s, l, j, hs, hl, hj, h16, ea, eb, ei, ee, ct, _⟩ := rsC_0 wn w c
    have en := gLH.2 (3 * s + l) (by omega) j hj
    have we := w.2 (3 * s + l) (by omega) j hj
    have he : 16 * (3 * s + l) + j < 576 := by omega
    have l6 := we.2.2.2.1
    unfold s_X12_entryAt
    rw [c, if_pos le00, if_pos rfl, if_pos rfl, ee]
    subst ea eb ei
    rw [ix48, Option.bind_some, mgR 13 SH (by decide), Option.bind_some, maI 13 _ SH (by decide) (show 16 * (3 * s + l) + j < 576 from he), Option.bind_some, en.2.2.2.1, isInP H k3 (by omega), Option.bind_some]
    by_cases d : 0 ≤ k3 ∧ k3 < nI (dtl D (16 * (3 * s + l) + j))
    · have z1 := clampI d.1
      have z2 := d.2
      rw [z1] at z2
      have b31 : k3.toNatClampNeg < 2 ^ 31 := Int32.toNatClampNeg_lt k3
      have z3 := iLt.mp z2
      rw [nI_toInt b31, nI_toInt (by omega)] at z3
      have hk : k3.toNatClampNeg < dtl D (16 * (3 * s + l) + j) := by omega
      rw [if_pos d, if_pos d, if_pos d, if_neg (show ¬ (1 : Int32) = 0 by decide), mgR 14 SH (by decide), Option.bind_some]
      have ix : (6 : Int32) * nI (16 * (3 * s + l) + j) + k3 = nI (6 * (16 * (3 * s + l) + j) + k3.toNatClampNeg) := by
        rw [show (6 : Int32) = nI 6 from rfl, nI_mul, ← nI_add, ← z1]
      rw [ix, maI 14 _ SH (by decide) (show 6 * (16 * (3 * s + l) + j) + k3.toNatClampNeg < 3456 by omega), Option.bind_some, Option.bind_some, en.2.2.2.2.1 _ hk]
      exact ⟨H, rfl, fr, k.ok, ck⟩
    · obtain ⟨h', e', f', g', c'⟩ := foundM SH k (g := 2) (by decide) ck
      rw [if_neg d, if_neg d, if_neg d, if_pos rfl, mV12 SH, e', Option.bind_some, Option.bind_some]
      exact ⟨h', rfl, fr.trans f', g', c'⟩
  · obtain ⟨h', e', f', g', c'⟩ := foundM SH k c ck
    rw [if_neg (rsC_p D a b i c), mV12 SH, e', Option.bind_some, if_neg c, if_neg c]
    exact ⟨h', rfl, fr.trans f', g', c'⟩
theorem numberM {h : IH} (S : ShM h m ar) (hN : 1000000 ≤ N) (gs : MgS h m ar D) (qL : MgL h m ar D) (gP : MgP h m ar D) (gA : MgA h m ar D) (wS : WgS D) (w : WgL D) (wP : WgP D) (ch : ChM h m ar D) (a b i k3 : Int32) : ∃ h', s_X12_number N h m a b i k3 = some (numV_ D a b i k3, h') ∧ OkM h h' m ar D a (numF D a b i k3) := by
  have wn := wS.1
  obtain ⟨H, e, fr, ck, k⟩ := beginM (N := N) S hN gs qL gP gA wS w wP ch a
  have SH := fr.shM S
  have gsH := mkGS S fr gs
  have gLH := mkGL S fr qL
  unfold s_X12_number numV_ numF
  rw [mV12 S, e, Option.bind_some, mV12 SH, rsCM SH gsH gLH wn w a b i, Option.bind_some]
  by_cases c : rsC D a b i = 0
  · obtain ⟨s, l, j, hs, hl, hj, h16, ea, eb, ei, ee, ct, _⟩ := rsC_0 wn w c
    have en := gLH.2 (3 * s + l) (by omega) j hj
    have he : 16 * (3 * s + l) + j < 576 := by omega
    unfold s_X12_entryAt
    rw [c, if_pos le00, if_pos rfl, if_pos rfl, ee]
    subst ea eb ei
    have q11 : ((if k3 = 0 then (gR H 12 15 (some m)).bind fun v6 => (aI H v6 (nI (16 * (3 * s + l) + j))).bind fun v7 => some v7 else if k3 = 1 then (gR H 12 16 (some m)).bind fun v9 => (aI H v9 (nI (16 * (3 * s + l) + j))).bind fun v10 => some v10 else some (-1)) : Option (Int32)) = some (nuX D (16 * (3 * s + l) + j) k3) := by
      unfold nuX
      by_cases d0 : k3 = 0
      · rw [if_pos d0, if_pos d0, mgR 15 SH (by decide), Option.bind_some, maI 15 _ SH (by decide) (show 16 * (3 * s + l) + j < 576 from he), Option.bind_some, en.2.2.2.2.2.1]
      · rw [if_neg d0, if_neg d0]
        by_cases d1 : k3 = 1
        · rw [if_pos d1, if_pos d1, mgR 16 SH (by decide), Option.bind_some, maI 16 _ SH (by decide) (show 16 * (3 * s + l) + j < 576 from he), Option.bind_some, en.2.2.2.2.2.2]
        · rw [if_neg d1, if_neg d1]
    rw [ix48, Option.bind_some, q11, Option.bind_some]
    by_cases d : 0 ≤ nuX D (16 * (3 * s + l) + j) k3
    · rw [if_pos d, if_pos d, if_pos d, Option.bind_some]
      exact ⟨H, rfl, fr, k.ok, ck⟩
    · obtain ⟨h', e', f', g', c'⟩ := foundM SH k (g := 2) (by decide) ck
      rw [if_neg d, if_neg d, if_neg d, mV12 SH, e', Option.bind_some, Option.bind_some]
      exact ⟨h', rfl, fr.trans f', g', c'⟩
  · obtain ⟨h', e', f', g', c'⟩ := foundM SH k c ck
    rw [if_neg (rsC_p D a b i c), mV12 SH, e', Option.bind_some, if_neg c, if_neg c]
    exact ⟨h', rfl, fr.trans f', g', c'⟩
end
