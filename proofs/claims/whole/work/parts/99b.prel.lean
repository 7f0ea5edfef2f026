/-! ===== what a check found stays while other things change ===== -/
def SmC (D D' : Dt) : Prop := dn D' = dn D ∧ dcl D' = dcl D ∧ dcb D' = dcb D ∧ dms D' = dms D ∧ dsz D' = dsz D ∧ dso D' = dso D ∧ dmo D' = dmo D ∧ dtl D' = dtl D ∧ dtb D' = dtb D ∧ dsn D' = dsn D ∧ dgt D' = dgt D ∧ dwin D' = dwin D
section
variable {D D' : Dt}
theorem sc_withC (c : SmC D D') : withC D' = withC D := by
  obtain ⟨c1, c2, c3, c4, c5, c6, c7, c8, c9, c10, c11, c12⟩ := c
  funext l b
  unfold withC
  rw [c1, c2, c3]
theorem sc_ctB (c : SmC D D') : ctB D' = ctB D := by
  obtain ⟨c1, c2, c3, c4, c5, c6, c7, c8, c9, c10, c11, c12⟩ := c
  funext e
  unfold ctB
  rw [c5, c6]
theorem sc_whB (c : SmC D D') : whB D' = whB D := by
  obtain ⟨c1, c2, c3, c4, c5, c6, c7, c8, c9, c10, c11, c12⟩ := c
  funext e
  unfold whB
  rw [c10, c11]
theorem sc_fitB (c : SmC D D') : fitB D' = fitB D := by
  have a1 := sc_whB c
  obtain ⟨c1, c2, c3, c4, c5, c6, c7, c8, c9, c10, c11, c12⟩ := c
  funext x y
  unfold fitB
  rw [a1, c10, c11]
theorem sc_tgO (c : SmC D D') : tgO D' = tgO D := by
  have a1 := sc_ctB c
  have a2 := sc_withC c
  obtain ⟨c1, c2, c3, c4, c5, c6, c7, c8, c9, c10, c11, c12⟩ := c
  funext e
  unfold tgO
  rw [a1, a2, c8, c9]
theorem sc_hlB (c : SmC D D') : hlB D' = hlB D := by
  obtain ⟨c1, c2, c3, c4, c5, c6, c7, c8, c9, c10, c11, c12⟩ := c
  funext s
  unfold hlB
  rw [c4]
theorem sc_mnB (c : SmC D D') : mnB D' = mnB D := by
  have a1 := sc_tgO c
  have a2 := sc_hlB c
  funext s e
  unfold mnB
  rw [a1, a2]
theorem sc_gpJ (c : SmC D D') : gpJ D' = gpJ D := by
  have a1 := sc_ctB c
  have a2 := sc_tgO c
  have a3 := sc_fitB c
  obtain ⟨c1, c2, c3, c4, c5, c6, c7, c8, c9, c10, c11, c12⟩ := c
  funext s e t b j
  induction j with
  | zero => rfl
  | succ j ih =>
    rw [gpJ.eq_2, gpJ.eq_2, a1, a2, a3, c7, ih]
theorem sc_gpC (c : SmC D D') : gpC D' = gpC D := by
  have a1 := sc_tgO c
  have a2 := sc_gpJ c
  funext s e
  unfold gpC
  rw [a1, a2]
theorem sc_gf (c : SmC D D') : gf D' = gf D := by
  have a1 := sc_mnB c
  have a2 := sc_gpC c
  funext s j
  induction j with
  | zero => rfl
  | succ j ih => rw [gf.eq_2, gf.eq_2, a1, a2, ih]
theorem sc_agB (c : SmC D D') : agB D' = agB D := by
  have a1 := sc_gpC c
  obtain ⟨c1, c2, c3, c4, c5, c6, c7, c8, c9, c10, c11, c12⟩ := c
  funext s e o
  unfold agB
  rw [a1, c12]
theorem sc_agr (c : SmC D D') : agr D' = agr D := by
  have a1 := sc_agB c
  funext s o
  unfold agr
  rw [a1]
theorem sc_mny (c : SmC D D') : mny D' = mny D := by
  have a1 := sc_mnB c
  funext s
  unfold mny
  rw [a1]
theorem sc_okO (c : SmC D D') : okO D' = okO D := by
  have a1 := sc_mny c
  have a2 := sc_agr c
  funext s o
  unfold okO
  rw [a1, a2]
theorem sc_lsX (c : SmC D D') : lsX D' = lsX D := by
  have a1 := sc_gf c
  obtain ⟨c1, c2, c3, c4, c5, c6, c7, c8, c9, c10, c11, c12⟩ := c
  funext s
  unfold lsX
  rw [a1, c12]
theorem sc_offX (c : SmC D D') : offX D' = offX D := by
  have a1 := sc_okO c
  have a2 := sc_lsX c
  funext s
  unfold offX
  rw [a1, a2]
theorem sc_dsB (c : SmC D D') : dsB D' = dsB D := by
  have a1 := sc_tgO c
  have a2 := sc_fitB c
  funext x y
  unfold dsB
  rw [a1, a2]
theorem sc_dsI (c : SmC D D') : dsI D' = dsI D := by
  have a1 := sc_offX c
  obtain ⟨c1, c2, c3, c4, c5, c6, c7, c8, c9, c10, c11, c12⟩ := c
  funext x y
  unfold dsI
  rw [a1, c7]
theorem sc_pw (c : SmC D D') : pw D' = pw D := by
  have a1 := sc_dsB c
  have a2 := sc_dsI c
  obtain ⟨c1, c2, c3, c4, c5, c6, c7, c8, c9, c10, c11, c12⟩ := c
  funext s t b l k
  unfold pw
  rw [a1, a2, c12]
theorem sc_mtF (c : SmC D D') : mtF D' = mtF D := by
  have a1 := sc_pw c
  funext s t b
  unfold mtF
  rw [a1]
theorem sc_parF (c : SmC D D') : parF D' = parF D := by
  have a1 := sc_tgO c
  have a2 := sc_mtF c
  funext e
  unfold parF
  rw [a1, a2]
theorem sc_nearB (c : SmC D D') : nearB D' = nearB D := by
  obtain ⟨c1, c2, c3, c4, c5, c6, c7, c8, c9, c10, c11, c12⟩ := c
  funext e t
  unfold nearB
  rw [c2, c3, c8, c9]
theorem sc_cdB (c : SmC D D') : cdB D' = cdB D := by
  have a1 := sc_ctB c
  have a2 := sc_parF c
  have a3 := sc_tgO c
  have a4 := sc_fitB c
  have a5 := sc_dsI c
  obtain ⟨c1, c2, c3, c4, c5, c6, c7, c8, c9, c10, c11, c12⟩ := c
  funext e d
  unfold cdB
  rw [a1, a2, a3, a4, a5, c12]
theorem sc_rgt (c : SmC D D') : rgt D' = rgt D := by
  have a1 := sc_offX c
  obtain ⟨c1, c2, c3, c4, c5, c6, c7, c8, c9, c10, c11, c12⟩ := c
  funext d
  unfold rgt
  rw [a1, c7]
theorem sc_mnJ (c : SmC D D') : mnJ D' = mnJ D := by
  have a1 := sc_cdB c
  have a2 := sc_rgt c
  funext e t j
  induction j with
  | zero => rfl
  | succ j ih => rw [mnJ.eq_2, mnJ.eq_2, a1, a2, ih]
theorem sc_mnT (c : SmC D D') : mnT D' = mnT D := by
  have a1 := sc_nearB c
  have a2 := sc_mnJ c
  funext e t
  induction t with
  | zero => rfl
  | succ t ih => rw [mnT.eq_2, mnT.eq_2, a1, a2, ih]
theorem sc_meaF (c : SmC D D') : meaF D' = meaF D := by
  have a1 := sc_mnT c
  obtain ⟨c1, c2, c3, c4, c5, c6, c7, c8, c9, c10, c11, c12⟩ := c
  funext e
  unfold meaF
  rw [a1, c1]
theorem sc_dupB (c : SmC D D') : dupB D' = dupB D := by
  have a1 := sc_ctB c
  have a2 := sc_parF c
  have a3 := sc_tgO c
  obtain ⟨c1, c2, c3, c4, c5, c6, c7, c8, c9, c10, c11, c12⟩ := c
  funext e
  unfold dupB dpB
  rw [a1, a2, a3, c7]
theorem sc_stN (c : SmC D D') : stN D' = stN D := by
  have a1 := sc_ctB c
  obtain ⟨c1, c2, c3, c4, c5, c6, c7, c8, c9, c10, c11, c12⟩ := c
  funext e
  unfold stN snB smB
  rw [a1, c1, c8, c9]
theorem sc_whyF (c : SmC D D') : whyF D' = whyF D := by
  have a1 := sc_parF c
  have a2 := sc_dupB c
  have a3 := sc_whB c
  have a4 := sc_tgO c
  have a5 := sc_meaF c
  have a6 := sc_stN c
  have a7 := sc_hlB c
  funext e
  unfold whyF
  rw [a1, a2, a3, a4, a5, a6, a7]
theorem sc_meX (c : SmC D D') : meX D' = meX D := by
  have a1 := sc_tgO c
  have a2 := sc_whB c
  have a3 := sc_meaF c
  funext e
  unfold meX
  rw [a1, a2, a3]
theorem sc_CkX (c : SmC D D') (h : IH) (A : Nat → Nat) : CkX h A D' = CkX h A D := by
  have a1 := sc_ctB c
  have a2 := sc_tgO c
  have a3 := sc_offX c
  have a4 := sc_parF c
  have c1 := c.1
  unfold CkX TgX OfX MtX
  rw [a1, a2, a3, a4, c1]
theorem sc_WyX (c : SmC D D') (h : IH) (A : Nat → Nat) : WyX h A D' = WyX h A D := by
  have a1 := sc_ctB c
  have a2 := sc_whyF c
  have a3 := sc_meX c
  have c1 := c.1
  unfold WyX
  rw [a1, a2, a3, c1]
theorem sc_CkM (c : SmC D D') (h : IH) (ar : Nat → Nat) : CkM h ar D' = CkM h ar D := by
  have a2 := sc_tgO c
  have a3 := sc_offX c
  have a4 := sc_parF c
  have c1 := c.1
  unfold CkM TgM OfM PaM
  rw [a2, a3, a4, c1]
theorem sc_ChX (c : SmC D D') {h : IH} {A : Nat → Nat} (x : ChX h A D) : ChX h A D' := fun z => by
  rw [sc_CkX c, sc_WyX c]
  exact x z
theorem sc_ChM (c : SmC D D') {h : IH} {m : Nat} {ar : Nat → Nat} (x : ChM h m ar D) : ChM h m ar D' := fun z => by
  rw [sc_CkM c]
  exact x z
end
/-! ===== the two heaps side by side ===== -/
def WD (D : Dt) : Prop := WgT D ∧ WgS D ∧ WgL D ∧ WgW D ∧ WgR D ∧ WgP D ∧ WgE D
/-- class's heap hx, reference's hm, both hold D; at most k asks were made -/
def Rel (x m k : Nat) (hx hm : IH) : Prop := ∃ (A ar : Nat → Nat) (D : Dt), A 0 = x ∧ ShX hx A (dn D) ∧ ShM hm m ar ∧ GX hx A D ∧ GM hm m ar D ∧ WD D ∧ dop D ≤ k ∧ ChX hx A D ∧ ChM hm m ar D
theorem smc_uA (D : Dt) (a f : Int32) : SmC D (akD D a f) := ⟨rfl, rfl, rfl, rfl, rfl, rfl, rfl, rfl, rfl, rfl, rfl, rfl⟩
theorem xkG {h h' : IH} {A : Nat → Nat} {D : Dt} {n : Nat} (S : ShX h A n) (x : FrXK A h h') (w20 : dE D ≤ 20) (g : GX h A D) : XgT h' A D ∧ XgS h' A D ∧ XgL h' A D ∧ XgW h' A D ∧ XgR h' A D ∧ XgP h' A D ∧ XgE h' A D := by
  obtain ⟨gT, gS, qL, gW, qR, gP, gE, gA⟩ := g
  refine ⟨gT.fr S x rfR_lv ?_ ?_, gS.fr x ?_ ?_, qL.fr x ?_ ?_, gW.fr S x rfR_lv ?_ ?_, qR.fr S x rfR_lv ?_ ?_, gP.fr x ?_ ?_, gE.fr S x rfR_lv w20 ?_ ?_ ?_⟩
  · unfold xkF rfF akF; omega
  · unfold rfR puR; omega
  · intro f z; unfold xkF rfF akF at z; omega
  · intro z; cases z
  · intro f z; unfold xkF rfF akF at z; omega
  · intro f z; cases z; omega
  · unfold xkF rfF akF; omega
  · unfold rfR puR; omega
  · unfold xkF rfF akF; omega
  · unfold rfR puR; omega
  · unfold xkF rfF akF; omega
  · unfold xkF rfF akF; omega
  · unfold xkF rfF akF; omega
  · unfold rfR puR; omega
  · intro i hi; unfold rfR puR; omega
/-- an ask keeps the two side by side -/
theorem relAsk {x m k : Nat} {hx hm hx' hm' : IH} {A ar : Nat → Nat} {D : Dt} (e0 : A 0 = x) (S : ShX hx A (dn D)) (T : ShM hm m ar) (g : GX hx A D) (gm : GM hm m ar D) (wd : WD D) (hk : dop D ≤ k) {a f : Int32} (ox : OkX hx hx' A D a f) (om : OkM hm hm' m ar D a f) : Rel x m (k + 1) hx' hm' := by
  obtain ⟨f1, xA, cx⟩ := ox
  obtain ⟨f2, mA, cm⟩ := om
  obtain ⟨gT, gS, qL, gW, qR, gP, gE⟩ := xkG S f1 wd.2.2.2.2.2.2.1 g
  refine ⟨A, ar, akD D a f, e0, f1.shX S, f2.shM T, ⟨gT, gS, qL, gW, qR, gP, gE, xA⟩, ⟨mkGT T f2 gm.1, mkGS T f2 gm.2.1, mkGL T f2 gm.2.2.1, mkGW T f2 gm.2.2.2.1, mkGR T f2 gm.2.2.2.2.1, mkGP f2 gm.2.2.2.2.2.1, mkGE T f2 gm.2.2.2.2.2.2.1, mA⟩, wd, ?_, sc_ChX (smc_uA D a f) cx, sc_ChM (smc_uA D a f) (fun _ => cm)⟩
  show opN D a ≤ k + 1
  unfold opN
  split <;> omega
