section
variable {M F pl : Nat} {pa cp ps wn wd wh : Int32} {kd pr nm ll la lx ly fn fr fo pt pd py : Nat → Int32}
/-! rename: the reference's chain -/
theorem ys_anc1 {post : Int32 → SY → Prop} {t m s : Nat} {x4 : Int32} (hM : M ≤ 32) (ht : t < M) (h1 : 1 ≤ m) (hm : m < M) (h0 : pr 0 = 0) (hp : ∀ n, n < M → ∃ p, p < M ∧ pr n = nI p) (hs : s < M) (e : cs_ch pr t s = m) (k : post (-13) (nI M, nI F, cp, pa, nI pl, kd, pr, nm, ll, la, ly, fn, fr, fo, pt, py)) : ∀ q i, i + q = s → wY_rename_170 post x4 (nI t) (nI m) (nI M) (nI F) cp pa (nI pl) kd pr nm ll la ly fn fr fo pt py (q + 1) (nI (cs_ch pr t i)) (nI i) := by
  intro q
  induction q with
  | zero =>
    intro i hi
    have e2 : i = s := by omega
    subst e2
    exact br_f (nI_ge (b := 33) (by omega) (by decide)) (br_t (by rw [e]) k)
  | succ q ih =>
    intro i hi
    have hl := cs_ch_lt hM ht hp i
    have ne : ¬ nI (cs_ch pr t i) = 0 := fun e3 => by
      have e4 : cs_ch pr t i = 0 := cs_im (b := 0) (e3.trans nI_0.symm) (by omega) (by omega)
      have e5 := cs_ch_0 h0 e4 (q + 1)
      rw [hi, e] at e5
      omega
    refine br_f (nI_ge (b := 33) (by omega) (by decide)) (br_c (fun _ => k) (fun _ => br_f ne ⟨vp_in_nI (by omega) (by omega), nm_r ?_ (nm_r (nI_1 i) (ih (i + 1) (by omega)))⟩))
    rw [nI_clamp (by omega)]
    exact cs_ch_s hM ht hp i
theorem ys_anc0 {post : Int32 → SY → Prop} {t m : Nat} {x4 : Int32} (hM : M ≤ 32) (ht : t < M) (hm : m < M) (hp : ∀ n, n < M → ∃ p, p < M ∧ pr n = nI p) (hn : ∀ s, ¬ cs_ch pr t s = m) (k : wY_rename_210 post x4 (nI t) (nI m) (nI M) (nI F) cp pa (nI pl) kd pr nm ll la ly fn fr fo pt py) : ∀ q i, i + q = 33 → wY_rename_170 post x4 (nI t) (nI m) (nI M) (nI F) cp pa (nI pl) kd pr nm ll la ly fn fr fo pt py (q + 1) (nI (cs_ch pr t i)) (nI i) := by
  intro q
  induction q with
  | zero =>
    intro i hi
    exact br_t (nI_le (a := 33) (by omega) (by omega)) k
  | succ q ih =>
    intro i hi
    have hl := cs_ch_lt hM ht hp i
    refine br_f (nI_ge (b := 33) (by omega) (by decide)) (br_f (fun e => hn i (cs_im e (by omega) (by omega))) (br_c (fun _ => k) (fun _ => ⟨vp_in_nI (by omega) (by omega), nm_r ?_ (nm_r (nI_1 i) (ih (i + 1) (by omega)))⟩)))
    rw [nI_clamp (by omega)]
    exact cs_ch_s hM ht hp i
/-! create: the reference's walk downwards -/
theorem ys_none {post : Int32 → SY → Prop} {w x2 x3 x4 : Int32} (hM : M ≤ 32) (k : wY_create_116 post x2 x3 x4 (nI M) (nI F) cp pa (nI pl) kd pr nm ll la ly fn fr fo pt py (0 + 1) w (nI 0)) : ∀ i, i < M → (∀ t, 1 ≤ t → t ≤ i → ¬ kd t = 0) → wY_create_116 post x2 x3 x4 (nI M) (nI F) cp pa (nI pl) kd pr nm ll la ly fn fr fo pt py (i + 1) w (nI i) := by
  intro i
  induction i with
  | zero =>
    intro _ _
    exact k
  | succ i ih =>
    intro hi hz
    have zx : ¬ kd (nI (i + 1)).toNatClampNeg = 0 := by rw [nI_clamp (by omega)]; exact hz (i + 1) (by omega) (by omega)
    exact br_f (nI_nlt (b := 1) (by omega) (by omega)) ⟨vp_in_nI (by omega) (by omega), br_f zx (nm_r (pk_m1 i) (ih (by omega) (fun t h1 h2 => hz t h1 (by omega))))⟩
theorem ys_some {post : Int32 → SY → Prop} {x2 x3 x4 : Int32} {s : Nat} (hM : M ≤ 32) (h1 : 1 ≤ s) (z : kd s = 0) (hz : ∀ t, 1 ≤ t → t < s → ¬ kd t = 0) (k : wY_create_116 post x2 x3 x4 (nI M) (nI F) cp pa (nI pl) kd pr nm ll la ly fn fr fo pt py (0 + 1) (nI s) (nI 0)) : ∀ i (w : Int32), s ≤ i → i < M → wY_create_116 post x2 x3 x4 (nI M) (nI F) cp pa (nI pl) kd pr nm ll la ly fn fr fo pt py (i + 1) w (nI i) := by
  intro i
  induction i with
  | zero => intro w hs _; omega
  | succ i ih =>
    intro w hs hi
    have hv : vp_in (nI (i + 1)) 32 := vp_in_nI (by omega) (by omega)
    have hb : ¬ nI (i + 1) < 1 := nI_nlt (b := 1) (by omega) (by omega)
    by_cases e : s = i + 1
    · have zx : kd (nI (i + 1)).toNatClampNeg = 0 := by rw [nI_clamp (by omega), ← e]; exact z
      rw [e] at k hz
      exact br_f hb ⟨hv, br_t zx (nm_r (pk_m1 i) (ys_none hM k i (by omega) (fun t h2 h3 => hz t h2 (by omega))))⟩
    · exact br_f hb ⟨hv, br_c (fun _ => nm_r (pk_m1 i) (ih _ (by omega) (by omega))) (fun _ => nm_r (pk_m1 i) (ih _ (by omega) (by omega)))⟩
/-! unlink: the reference's walks -/
theorem ys_held1 {post : Int32 → SY → Prop} {s m : Nat} (hF : F ≤ 16) (hs : s < F) (z : fn s = nI m) (k : post (-11) (nI M, nI F, cp, pa, nI pl, kd, pr, nm, ll, la, ly, fn, fr, fo, pt, py)) : ∀ q i, i + q = s → wY_unlink_78 post (nI m) (nI M) (nI F) cp pa (nI pl) kd pr nm ll la ly fn fr fo pt py (q + 1) (nI i) := by
  intro q
  induction q with
  | zero =>
    intro i hi
    have e : i = s := by omega
    subst e
    have zx : fn (nI i).toNatClampNeg = nI m := by rw [nI_clamp (by omega), z]
    exact br_f (nI_ge (by omega) (by omega)) ⟨vp_in_nI (by omega) (by omega), br_t zx k⟩
  | succ q ih =>
    intro i hi
    exact br_f (nI_ge (by omega) (by omega)) ⟨vp_in_nI (by omega) (by omega), br_c (fun _ => k) (fun _ => nm_r (nI_1 i) (ih (i + 1) (by omega)))⟩
theorem ys_held0 {post : Int32 → SY → Prop} {m : Nat} (hF : F ≤ 16) (hz : ∀ t, t < F → ¬ fn t = nI m) (k : wY_unlink_78 post (nI m) (nI M) (nI F) cp pa (nI pl) kd pr nm ll la ly fn fr fo pt py (0 + 1) (nI F)) : ∀ q i, i + q = F → wY_unlink_78 post (nI m) (nI M) (nI F) cp pa (nI pl) kd pr nm ll la ly fn fr fo pt py (q + 1) (nI i) := by
  intro q
  induction q with
  | zero =>
    intro i hi
    have e : i = F := by omega
    subst e
    exact k
  | succ q ih =>
    intro i hi
    have zx : ¬ fn (nI i).toNatClampNeg = nI m := by rw [nI_clamp (by omega)]; exact hz i (by omega)
    exact br_f (nI_ge (by omega) (by omega)) ⟨vp_in_nI (by omega) (by omega), br_f zx (nm_r (nI_1 i) (ih (i + 1) (by omega)))⟩
theorem ys_kids1 {post : Int32 → SY → Prop} {s m : Nat} (hM : M ≤ 32) (hs : s < M) (z1 : ¬ kd s = 0) (z2 : pr s = nI m) (k : post (-12) (nI M, nI F, cp, pa, nI pl, kd, pr, nm, ll, la, ly, fn, fr, fo, pt, py)) : ∀ q i, i + q = s → wY_unlink_122 post (nI m) (nI M) (nI F) cp pa (nI pl) kd pr nm ll la ly fn fr fo pt py (q + 1) (nI i) := by
  intro q
  induction q with
  | zero =>
    intro i hi
    have e : i = s := by omega
    subst e
    have hv : vp_in (nI i) 32 := vp_in_nI (by omega) (by omega)
    have x1 : ¬ kd (nI i).toNatClampNeg = 0 := by rw [nI_clamp (by omega)]; exact z1
    have x2 : pr (nI i).toNatClampNeg = nI m := by rw [nI_clamp (by omega), z2]
    exact br_f (nI_ge (by omega) (by omega)) ⟨hv, br_f x1 ⟨hv, br_t x2 k⟩⟩
  | succ q ih =>
    intro i hi
    have hv : vp_in (nI i) 32 := vp_in_nI (by omega) (by omega)
    have nx := ih (i + 1) (by omega)
    exact br_f (nI_ge (by omega) (by omega)) ⟨hv, br_c (fun _ => nm_r (nI_1 i) nx) (fun _ => ⟨hv, br_c (fun _ => k) (fun _ => nm_r (nI_1 i) nx)⟩)⟩
theorem ys_kids0 {post : Int32 → SY → Prop} {m : Nat} (hM : M ≤ 32) (hz : ∀ t, 1 ≤ t → t < M → ¬ kd t = 0 → ¬ pr t = nI m) (k : wY_unlink_162 post (nI m) (nI M) (nI F) cp pa (nI pl) kd pr nm ll la ly fn fr fo pt py) : ∀ q i, 1 ≤ i → i + q = M → wY_unlink_122 post (nI m) (nI M) (nI F) cp pa (nI pl) kd pr nm ll la ly fn fr fo pt py (q + 1) (nI i) := by
  intro q
  induction q with
  | zero =>
    intro i h1 hi
    exact br_t (nI_le (by omega) (by omega)) k
  | succ q ih =>
    intro i h1 hi
    have hv : vp_in (nI i) 32 := vp_in_nI (by omega) (by omega)
    have ci : (nI i).toNatClampNeg = i := nI_clamp (by omega)
    have nx := ih (i + 1) (by omega) (by omega)
    refine br_f (nI_ge (by omega) (by omega)) ⟨hv, br_c (fun _ => nm_r (nI_1 i) nx) (fun x1 => ⟨hv, br_f ?_ (nm_r (nI_1 i) nx)⟩)⟩
    rw [ci] at x1 ⊢
    exact hz i h1 (by omega) x1
theorem ys_zero {post : Int32 → SY → Prop} {m : Nat} (hm : m < 32) (k : post 0 (nI M, nI F, cp, pa, nI pl, kd, pr, nm, ll, la, cs_cp ly (m * 4) 4 (fun _ => 0), fn, fr, fo, pt, py)) : ∀ q i, i + q = 4 → wY_unlink_205 post (nI m) (nI M) (nI F) cp pa (nI pl) (q + 1) (nI i) kd pr nm ll la (cs_cp ly (m * 4) i (fun _ => 0)) fn fr fo pt py := by
  intro q
  induction q with
  | zero =>
    intro i hi
    have e : i = 4 := by omega
    subst e
    exact br_t (nI_le (a := 4) (by omega) (by omega)) k
  | succ q ih =>
    intro i hi
    have e1 : nI m * 4 + nI i = nI (m * 4 + i) := by rw [show nI m * 4 = nI (m * 4) from pk_mul m 4, nI_add]
    have hv : vp_in (nI m * 4 + nI i) 128 := by rw [e1]; exact vp_in_nI (by omega) (by omega)
    have ec : upd (cs_cp ly (m * 4) i (fun _ => 0)) (nI m * 4 + nI i).toNatClampNeg 0 = cs_cp ly (m * 4) (i + 1) (fun _ => 0) := by
      rw [e1, nI_clamp (by omega)]
      exact cs_cp_s ly (m * 4) i (fun _ => 0)
    exact br_f (nI_ge (b := 4) (by omega) (by decide)) ⟨hv, nm_r ec (nm_r (nI_1 i) (ih (i + 1) (by omega)))⟩
/-! the link's components, both sides -/
theorem xs_copy1 {post : SX → Prop} {n : Nat} (hn : n < 32) (hpl : pl ≤ 4) (k : post (nI M, nI F, nI pl, pa, cp, ps, wn, wd, wh, kd, pr, nm, ll, la, cs_cp lx (n * 4) pl pt, fn, fr, fo, pt, pd)) : ∀ q i, i + q = pl →
    wX_copyPathToLink_22 post (nI n) (nI M) (nI F) (nI pl) pa cp ps wn wd wh (q + 1) (nI i) kd pr nm ll la (cs_cp lx (n * 4) i pt) fn fr fo pt pd := by
  intro q
  induction q with
  | zero =>
    intro i hi
    have e : i = pl := by omega
    subst e
    exact br_t (nI_le (by omega) (by omega)) k
  | succ q ih =>
    intro i hi
    have e1 : nI n * 4 + nI i = nI (n * 4 + i) := by rw [show nI n * 4 = nI (n * 4) from pk_mul n 4, nI_add]
    have hv : vp_in (nI n * 4 + nI i) 128 := by rw [e1]; exact vp_in_nI (by omega) (by omega)
    have ec : upd (cs_cp lx (n * 4) i pt) (nI n * 4 + nI i).toNatClampNeg (pt (nI i).toNatClampNeg) = cs_cp lx (n * 4) (i + 1) pt := by
      rw [e1, nI_clamp (by omega), nI_clamp (by omega), cs_cp_s]
    exact br_f (nI_ge (by omega) (by omega)) ⟨vp_in_nI (by omega) (by omega), hv, nm_r ec (nm_r (nI_1 i) (ih (i + 1) (by omega)))⟩
theorem ys_copy1 {post : Int32 → SY → Prop} {n : Nat} (hn : n < 32) (hpl : pl ≤ 4) (k : post (nI n) (nI M, nI F, cp, pa, nI pl, kd, pr, nm, upd ll n (nI pl), la, cs_cp ly (n * 4) pl pt, fn, fr, fo, pt, py)) : ∀ q i, i + q = pl →
    wY_create_210 post (nI n) (nI M) (nI F) cp pa (nI pl) (q + 1) (nI i) kd pr nm ll la (cs_cp ly (n * 4) i pt) fn fr fo pt py := by
  intro q
  induction q with
  | zero =>
    intro i hi
    have e : i = pl := by omega
    subst e
    exact br_t (nI_le (by omega) (by omega)) ⟨vp_in_nI (by omega) (by omega), nm_r (by rw [nI_clamp (by omega)]) k⟩
  | succ q ih =>
    intro i hi
    have e1 : nI n * 4 + nI i = nI (n * 4 + i) := by rw [show nI n * 4 = nI (n * 4) from pk_mul n 4, nI_add]
    have hv : vp_in (nI n * 4 + nI i) 128 := by rw [e1]; exact vp_in_nI (by omega) (by omega)
    have ec : upd (cs_cp ly (n * 4) i pt) (nI n * 4 + nI i).toNatClampNeg (pt (nI i).toNatClampNeg) = cs_cp ly (n * 4) (i + 1) pt := by
      rw [e1, nI_clamp (by omega), nI_clamp (by omega), cs_cp_s]
    exact br_f (nI_ge (by omega) (by omega)) (br_f (nI_ge (b := 4) (by omega) (by decide)) ⟨vp_in_nI (by omega) (by omega), hv, nm_r ec (nm_r (nI_1 i) (ih (i + 1) (by omega)))⟩)
theorem xs_setNode {post : SX → Prop} {n : Nat} {a b c : Int32} (hn : n < 32) (k : post (nI M, nI F, nI pl, pa, cp, ps, wn, wd, wh, upd kd n a, upd pr n b, upd nm n c, upd ll n 0, upd la n (vp_nar .boolean 0), lx, fn, fr, fo, pt, pd)) : wpX_setNode post (nI M, nI F, nI pl, pa, cp, ps, wn, wd, wh, kd, pr, nm, ll, la, lx, fn, fr, fo, pt, pd) (nI n) a b c := by
  have cs : (nI n).toNatClampNeg = n := nI_clamp (by omega)
  have hv : vp_in (nI n) 32 := vp_in_nI hn (by omega)
  exact ⟨hv, nm_r (by rw [cs]) ⟨hv, nm_r (by rw [cs]) ⟨hv, nm_r (by rw [cs]) ⟨hv, nm_r (by rw [cs]) ⟨hv, nm_r (by rw [cs]) k⟩⟩⟩⟩⟩
/-! names and kinds -/
theorem xs_nm1 {post : Int32 → Prop} {c : Int32} (a : ¬ c < 1) (b : ¬ 15 < c) (k : post 1) : wpX_isName post c := br_f a (br_f b k)
theorem xs_nm0 {post : Int32 → Prop} {c : Int32} (h : c < 1 ∨ 15 < c) (k : post 0) : wpX_isName post c := by
  by_cases a : c < 1
  · exact br_t a k
  · rcases h with b | b
    · exact absurd b a
    · exact br_f a (br_t b k)
theorem xs_kd1 {post : Int32 → Prop} {c : Int32} (h : c = 1 ∨ c = 2 ∨ c = 3) (k : post 1) : wpX_isCreatableKind post c := by
  rcases h with rfl | rfl | rfl
  · exact br_t rfl k
  · exact br_f (by decide) (br_t rfl k)
  · exact br_f (by decide) (br_f (by decide) (br_t rfl k))
theorem ys_kd1 {post : Int32 → SY → Prop} {x1 x2 c : Int32} (h : c = 1 ∨ c = 2 ∨ c = 3) (k : wY_create_15 post x1 x2 c (nI M) (nI F) cp pa (nI pl) kd pr nm ll la ly fn fr fo pt py) : wpY_create post (nI M, nI F, cp, pa, nI pl, kd, pr, nm, ll, la, ly, fn, fr, fo, pt, py) x1 x2 c := by
  rcases h with rfl | rfl | rfl
  · exact br_t rfl k
  · exact br_f (by decide) (br_t rfl k)
  · exact br_f (by decide) (br_f (by decide) (br_t rfl k))
end
