section
variable {M F pl : Nat} {pa cp ps wn wd wh : Int32} {kd pr nm ll la lx ly fn fr fo pt pd py : Nat → Int32}
theorem cs_sub40 {a : Nat} (h : a ≤ 40) : (40 : Int32) - nI a = nI (40 - a) := pk_sub (a := 40) h
/-! the class: loading the path -/
theorem xs_load1 {post : SX → Prop} (hpl : pl ≤ 8) (k : post (nI M, nI F, nI pl, pa, cp, nI (40 - pl), wn, wd, wh, kd, pr, nm, ll, la, lx, fn, fr, fo, pt, cs_cp pd (40 - pl) pl pt)) : ∀ q i, i + q = pl →
    wX_loadPendingFromPath_13 post (nI M) (nI F) (nI pl) pa cp (nI (40 - pl)) wn wd wh (q + 1) (nI i) kd pr nm ll la lx fn fr fo pt (cs_cp pd (40 - pl) i pt) := by
  intro q
  induction q with
  | zero =>
    intro i hi
    have e : i = pl := by omega
    subst e
    exact br_t (nI_le (by omega) (by omega)) k
  | succ q ih =>
    intro i hi
    have e1 : nI (40 - pl) + nI i = nI (40 - pl + i) := nI_add _ _
    have hv : vp_in (nI (40 - pl) + nI i) 40 := by rw [e1]; exact vp_in_nI (by omega) (by omega)
    have ec : upd (cs_cp pd (40 - pl) i pt) (nI (40 - pl) + nI i).toNatClampNeg (pt (nI i).toNatClampNeg) = cs_cp pd (40 - pl) (i + 1) pt := by
      rw [e1, nI_clamp (by omega), nI_clamp (by omega), cs_cp_s]
    exact br_f (nI_ge (by omega) (by omega)) ⟨vp_in_nI (by omega) (by omega), hv, nm_r ec (nm_r (nI_1 i) (ih (i + 1) (by omega)))⟩
/-! the class: a link's components in front -/
theorem xs_link1 {post : Int32 → SX → Prop} {n l s : Nat} (hn : n < 32) (hl : l ≤ 4) (hs : s + l ≤ 40) (k : post 0 (nI M, nI F, nI pl, pa, cp, nI s, wn, wd, wh, kd, pr, nm, ll, la, lx, fn, fr, fo, pt, cs_cp pd s l (fun j => lx (n * 4 + j)))) : ∀ q i, i + q = l →
    wX_followLink_70 post (nI n) (nI l) (nI M) (nI F) (nI pl) pa cp (nI s) wn wd wh (q + 1) (nI i) kd pr nm ll la lx fn fr fo pt (cs_cp pd s i (fun j => lx (n * 4 + j))) := by
  intro q
  induction q with
  | zero =>
    intro i hi
    have e : i = l := by omega
    subst e
    exact br_t (nI_le (by omega) (by omega)) k
  | succ q ih =>
    intro i hi
    have e1 : nI s + nI i = nI (s + i) := nI_add _ _
    have e2 : nI n * 4 + nI i = nI (n * 4 + i) := by rw [show nI n * 4 = nI (n * 4) from pk_mul n 4, nI_add]
    have hv : vp_in (nI s + nI i) 40 := by rw [e1]; exact vp_in_nI (by omega) (by omega)
    have hw : vp_in (nI n * 4 + nI i) 128 := by rw [e2]; exact vp_in_nI (by omega) (by omega)
    have ec : upd (cs_cp pd s i (fun j => lx (n * 4 + j))) (nI s + nI i).toNatClampNeg (lx (nI n * 4 + nI i).toNatClampNeg) = cs_cp pd s (i + 1) (fun j => lx (n * 4 + j)) := by
      rw [e1, e2, nI_clamp (by omega), nI_clamp (by omega)]
      exact cs_cp_s pd s i (fun j => lx (n * 4 + j))
    exact br_f (nI_ge (by omega) (by omega)) ⟨hw, hv, nm_r ec (nm_r (nI_1 i) (ih (i + 1) (by omega)))⟩
theorem xs_load {post : SX → Prop} (hpl : pl ≤ 8) (k : post (nI M, nI F, nI pl, pa, cp, nI (40 - pl), wn, wd, wh, kd, pr, nm, ll, la, lx, fn, fr, fo, pt, cs_cp pd (40 - pl) pl pt)) : wpX_loadPendingFromPath post (nI M, nI F, nI pl, pa, cp, ps, wn, wd, wh, kd, pr, nm, ll, la, lx, fn, fr, fo, pt, pd) := by
  have z := xs_load1 hpl k pl 0 (by omega)
  rw [cs_cp_0] at z
  exact nm_r (cs_sub40 (by omega)) ⟨pl + 1, z⟩
theorem xs_fol {post : Int32 → SX → Prop} {n l pc : Nat} (hn : n < 32) (hl : l ≤ 4) (hc : pc + l ≤ 40) (el : ll n = nI l) (k : post 0 (nI M, nI F, nI pl, pa, cp, nI (40 - (pc + l)), wn, wd, wh, kd, pr, nm, ll, la, lx, fn, fr, fo, pt, cs_cp pd (40 - (pc + l)) l (fun j => lx (n * 4 + j)))) :
    wX_followLink_51 post (nI n) (nI M) (nI F) (nI pl) pa cp (nI (40 - pc)) wn wd wh kd pr nm ll la lx fn fr fo pt pd := by
  have z := xs_link1 (s := 40 - (pc + l)) hn hl (by omega) k l 0 (by omega)
  rw [cs_cp_0] at z
  have e1 : ll (nI n).toNatClampNeg = nI l := by rw [nI_clamp (by omega), el]
  have e2 : nI (40 - pc) - nI l = nI (40 - (pc + l)) := by
    rw [pk_sub (by omega)]
    exact congrArg nI (by omega)
  exact ⟨vp_in_nI (by omega) (by omega), nm_r e1 (nm_r e2 ⟨l + 1, z⟩)⟩
/-! the reference: pushing a link's components, the path -/
theorem ys_push {post : Int32 → SY → Prop} {J : Int32 → Int32 → Int32 → Int32 → Int32 → Int32 → (Nat → Int32) → (Nat → Int32) → (Nat → Int32) → (Nat → Int32) → (Nat → Int32) → (Nat → Int32) → (Nat → Int32) → (Nat → Int32) → (Nat → Int32) → (Nat → Int32) → (Nat → Int32) → Prop} {x2 x4 x5 x6 x7 x8 x10 x11 : Int32} {n l pc : Nat} (hn : n < 32) (hl : l ≤ 4) (hc : pc + l ≤ 40)
    (k : J x6 x7 x8 (nI (pc + l)) x10 (x11 + 1) kd pr nm ll la ly fn fr fo pt (cs_cp py pc l (fun j => ly (n * 4 + (l - 1 - j))))) : ∀ q t, t + q = l →
    wY_openAt_346 post J x2 x4 x5 x6 x7 x8 x10 x11 (nI n) (nI M) (nI F) cp pa (nI pl) (q + 1) (nI (pc + t)) (nI q - 1) kd pr nm ll la ly fn fr fo pt (cs_cp py pc t (fun j => ly (n * 4 + (l - 1 - j)))) := by
  intro q
  induction q with
  | zero =>
    intro t ht
    have e : t = l := by omega
    subst e
    exact br_t (by decide) (nm_e k)
  | succ q ih =>
    intro t ht
    have e0 : nI (q + 1) - 1 = nI q := nI_pred q
    rw [e0]
    have e1 : nI n * 4 + nI q = nI (n * 4 + q) := by rw [show nI n * 4 = nI (n * 4) from pk_mul n 4, nI_add]
    have hw : vp_in (nI n * 4 + nI q) 128 := by rw [e1]; exact vp_in_nI (by omega) (by omega)
    have ec : upd (cs_cp py pc t (fun j => ly (n * 4 + (l - 1 - j)))) (nI (pc + t)).toNatClampNeg (ly (nI n * 4 + nI q).toNatClampNeg) = cs_cp py pc (t + 1) (fun j => ly (n * 4 + (l - 1 - j))) := by
      rw [e1, nI_clamp (by omega), nI_clamp (by omega), ← cs_cp_s]
      exact congrArg (fun j => upd (cs_cp py pc t (fun j => ly (n * 4 + (l - 1 - j)))) (pc + t) (ly (n * 4 + j))) (by omega)
    have em : nI q + (-1) = nI q - 1 := (Int32.sub_eq_add_neg (nI q) 1).symm
    exact br_f (nI_pos (by omega)) (br_f (nI_ge (b := 64) (by omega) (by decide)) (br_f (nI_ge (b := 4) (by omega) (by decide)) ⟨hw, vp_in_nI (by omega) (by omega), nm_r ec (nm_r (nI_1 (pc + t)) (nm_r em (ih (t + 1) (by omega))))⟩))
theorem ys_load {post : Int32 → SY → Prop} {x2 x4 x5 x6 x7 x8 : Int32} (hpl : pl ≤ 8)
    (k : ∃ n160 : Nat, wY_openAt_160 post x2 x4 x5 (nI M) (nI F) cp pa (nI pl) n160 x6 x7 x8 (nI pl) (-1) 0 kd pr nm ll la ly fn fr fo pt (cs_cp py 0 pl (fun j => pt (pl - 1 - j)))) : ∀ q t, t + q = pl →
    wY_openAt_126 post x2 x4 x5 x6 x7 x8 (nI M) (nI F) cp pa (nI pl) (q + 1) (nI t) (nI q - 1) kd pr nm ll la ly fn fr fo pt (cs_cp py 0 t (fun j => pt (pl - 1 - j))) := by
  intro q
  induction q with
  | zero =>
    intro t ht
    have e : t = pl := by omega
    subst e
    exact br_t (by decide) k
  | succ q ih =>
    intro t ht
    have e0 : nI (q + 1) - 1 = nI q := nI_pred q
    rw [e0]
    have ec : upd (cs_cp py 0 t (fun j => pt (pl - 1 - j))) (nI t).toNatClampNeg (pt (nI q).toNatClampNeg) = cs_cp py 0 (t + 1) (fun j => pt (pl - 1 - j)) := by
      rw [nI_clamp (by omega), nI_clamp (by omega), ← cs_cp_s, Nat.zero_add]
      exact congrArg (fun j => upd (cs_cp py 0 t (fun j => pt (pl - 1 - j))) t (pt j)) (by omega)
    have em : nI q + (-1) = nI q - 1 := (Int32.sub_eq_add_neg (nI q) 1).symm
    exact br_f (nI_pos (by omega)) ⟨vp_in_nI (by omega) (by omega), vp_in_nI (by omega) (by omega), nm_r ec (nm_r (nI_1 t) (nm_r em (ih (t + 1) (by omega))))⟩
end
/-- how a walk ends on both sides: one failure, or one node -/
def cs_Out (M : Nat) (A : Int32 → Int32 → Int32 → Int32 → (Nat → Int32) → SX) (B : (Nat → Int32) → SY) (E : (Int32 → SY → Prop) → Int32 → (Nat → Int32) → Prop)
    (LX : (Int32 → SX → Prop) → Prop) (LY : (Int32 → SY → Prop) → Prop) : Prop :=
  (∃ (e a b c d : Int32) (f g : Nat → Int32), ¬ 0 ≤ e ∧ (∀ post : Int32 → SX → Prop, post e (A a b c d f) → LX post) ∧ (∀ post : Int32 → SY → Prop, post e (B g) → LY post)) ∨
  (∃ (r : Nat) (a b c d : Int32) (f g : Nat → Int32), r < M ∧ (∀ post : Int32 → SX → Prop, post (nI r) (A a b c d f) → LX post) ∧ (∀ post : Int32 → SY → Prop, E post (nI r) g → LY post))
theorem cs_mono {M : Nat} {A : Int32 → Int32 → Int32 → Int32 → (Nat → Int32) → SX} {B : (Nat → Int32) → SY} {E : (Int32 → SY → Prop) → Int32 → (Nat → Int32) → Prop}
    {LX LX' : (Int32 → SX → Prop) → Prop} {LY LY' : (Int32 → SY → Prop) → Prop} (o : cs_Out M A B E LX' LY') (hx : ∀ post, LX' post → LX post) (hy : ∀ post, LY' post → LY post) : cs_Out M A B E LX LY := by
  rcases o with ⟨e, a, b, c, d, f, g, he, h1, h2⟩ | ⟨r, a, b, c, d, f, g, hr, h1, h2⟩
  · exact Or.inl ⟨e, a, b, c, d, f, g, he, fun post hp => hx post (h1 post hp), fun post hp => hy post (h2 post hp)⟩
  · exact Or.inr ⟨r, a, b, c, d, f, g, hr, fun post hp => hx post (h1 post hp), fun post hp => hy post (h2 post hp)⟩
