section
variable {M F pl : Nat} {pa cp ps wn wd wh : Int32} {kd pr nm ll la lx ly fn fr fo pt pd py : Nat → Int32}
theorem cs_sub40 {a : Nat} (h : a ≤ 40) : (40 : Int32) - nI a = nI (40 - a) := pk_sub (a := 40) h
/-! the class: loading the path -/
theorem xs_load1 {post : SX → Prop} (hpl : pl ≤ 8) (k : post (nI M, nI F, nI pl, pa, cp, nI (40 - pl), wn, wd, wh, kd, pr, nm, ll, la, lx, fn, fr, fo, pt, cs_cp pd (40 - pl) pl pt)) : ∀ q i, i + q = pl →
    wX_loadPendingFromPath_13 post (nI M) (nI F) (nI pl) pa cp (nI (40 - pl)) wn wd wh (q + 1) (nI i) kd pr nm ll la lx fn fr fo pt (cs_cp pd (40 - pl) i pt) := by
  intro q
  induction q with
  | zero =>
    intro i hi
    have e : i = pl := by omega
    subst e
    exact br_t (nI_le (by omega) (by omega)) k
  | succ q ih =>
    intro i hi
    have e1 : nI (40 - pl) + nI i = nI (40 - pl + i) := nI_add _ _
    have hv : vp_in (nI (40 - pl) + nI i) 40 := by rw [e1]; exact vp_in_nI (by omega) (by omega)
    have ec : upd (cs_cp pd (40 - pl) i pt) (nI (40 - pl) + nI i).toNatClampNeg (pt (nI i).toNatClampNeg) = cs_cp pd (40 - pl) (i + 1) pt := by
      rw [e1, nI_clamp (by omega), nI_clamp (by omega), cs_cp_s]
    exact br_f (nI_ge (by omega) (by omega)) ⟨vp_in_nI (by omega) (by omega), hv, nm_r ec (nm_r (nI_1 i) (ih (i + 1) (by omega)))⟩
/-! the class: a link's components in front -/
theorem xs_link1 {post : Int32 → SX → Prop} {n l s : Nat} (hn : n < 32) (hl : l ≤ 4) (hs : s + l ≤ 40) (k : post 0 (nI M, nI F, nI pl, pa, cp, nI s, wn, wd, wh, kd, pr, nm, ll, la, lx, fn, fr, fo, pt, cs_cp pd s l (fun j => lx (n * 4 + j)))) : ∀ q i, i + q = l →
    wX_followLink_70 post (nI n) (nI l) (nI M) (nI F) (nI pl) pa cp (nI s) wn wd wh (q + 1) (nI i) kd pr nm ll la lx fn fr fo pt (cs_cp pd s i (fun j => lx (n * 4 + j))) := by
  intro q
  induction q with
  | zero =>
    intro i hi
    have e : i = l := by omega
    subst e
    exact br_t (nI_le (by omega) (by omega)) k
  | succ q ih =>
    intro i hi
    have e1 : nI s + nI i = nI (s + i) := nI_add _ _
    have e2 : nI n * 4 + nI i = nI (n * 4 + i) := by rw [show nI n * 4 = nI (n * 4) from pk_mul n 4, nI_add]
    have hv : vp_in (nI s + nI i) 40 := by rw [e1]; exact vp_in_nI (by omega) (by omega)
    have hw : vp_in (nI n * 4 + nI i) 128 := by rw [e2]; exact vp_in_nI (by omega) (by omega)
    have ec : upd (cs_cp pd s i (fun j => lx (n * 4 + j))) (nI s + nI i).toNatClampNeg (lx (nI n * 4 + nI i).toNatClampNeg) = cs_cp pd s (i + 1) (fun j => lx (n * 4 + j)) := by
      rw [e1, e2, nI_clamp (by omega), nI_clamp (by omega)]
      exact cs_cp_s pd s i (fun j => lx (n * 4 + j))
    exact br_f (nI_ge (by omega) (by omega)) ⟨hw, hv, nm_r ec (nm_r (nI_1 i) (ih (i + 1) (by omega)))⟩
end
