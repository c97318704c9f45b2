/-- descriptor fd is closed, or no descriptor -/
def cs_shut (F : Nat) (fn : Nat → Int32) (fd : Int32) : Prop := fd < 0 ∨ nI F ≤ fd ∨ ∃ j, j < F ∧ fd = nI j ∧ fn j = -1
section
variable {M F pl : Nat} {pa cp ps wn wd wh : Int32} {kd pr nm ll la lx ly fn fr fo pt pd py : Nat → Int32}
theorem cs_ofd (h : cs_Inv M F pl kd pr ll lx ly fn) (fd : Int32) : (∃ j p, j < F ∧ p < M ∧ fd = nI j ∧ fn j = nI p) ∨ cs_shut F fn fd := by
  have hF := cs_iF h
  rcases pk_ix fd (n := F) (by omega) with c | c | ⟨j, hj, e⟩
  · exact Or.inr (Or.inl c)
  · exact Or.inr (Or.inr (Or.inl c))
  · rcases cs_ifn h j hj with z | ⟨p, hp, z⟩
    · exact Or.inr (Or.inr (Or.inr ⟨j, hj, e, z⟩))
    · exact Or.inl ⟨j, p, hj, hp, e, z⟩
theorem xs_open {post : Int32 → Prop} {j p : Nat} (h : cs_Inv M F pl kd pr ll lx ly fn) (hj : j < F) (hp : p < M) (e : fn j = nI p) (k : post 1) : wpX_isOpen post (nI M, nI F, nI pl, pa, cp, ps, wn, wd, wh, kd, pr, nm, ll, la, lx, fn, fr, fo, pt, pd) (nI j) := by
  have hM := cs_iM h
  have hF := cs_iF h
  have ne : ¬ fn (nI j).toNatClampNeg = -1 := by rw [nI_clamp (by omega), e]; exact cs_nm1 (by omega)
  exact br_f (nI_pos (by omega)) (br_f (nI_ge hj (by omega)) ⟨vp_in_nI (by omega) (by omega), br_f ne k⟩)
theorem ys_open {post : Int32 → Prop} {j p : Nat} (h : cs_Inv M F pl kd pr ll lx ly fn) (hj : j < F) (hp : p < M) (e : fn j = nI p) (k : post 1) : wpY_isOpen post (nI M, nI F, cp, pa, nI pl, kd, pr, nm, ll, la, ly, fn, fr, fo, pt, py) (nI j) := by
  have hM := cs_iM h
  have hF := cs_iF h
  have ne : ¬ fn (nI j).toNatClampNeg < 0 := by rw [nI_clamp (by omega), e]; exact nI_pos (by omega)
  exact br_f (nI_pos (by omega)) (br_f (nI_ge hj (by omega)) ⟨vp_in_nI (by omega) (by omega), br_f ne k⟩)
theorem xs_shut {post : Int32 → Prop} {fd : Int32} (h : cs_Inv M F pl kd pr ll lx ly fn) (hc : cs_shut F fn fd) (k : post 0) : wpX_isOpen post (nI M, nI F, nI pl, pa, cp, ps, wn, wd, wh, kd, pr, nm, ll, la, lx, fn, fr, fo, pt, pd) fd := by
  have hF := cs_iF h
  by_cases c0 : fd < 0
  · exact br_t c0 k
  · rcases hc with c | c | ⟨j, hj, rfl, e⟩
    · exact br_t c k
    · exact br_f c0 (br_t c k)
    · have ne : fn (nI j).toNatClampNeg = -1 := by rw [nI_clamp (by omega), e]
      exact br_f c0 (br_f (nI_ge hj (by omega)) ⟨vp_in_nI (by omega) (by omega), br_t ne k⟩)
theorem ys_shut {post : Int32 → Prop} {fd : Int32} (h : cs_Inv M F pl kd pr ll lx ly fn) (hc : cs_shut F fn fd) (k : post 0) : wpY_isOpen post (nI M, nI F, cp, pa, nI pl, kd, pr, nm, ll, la, ly, fn, fr, fo, pt, py) fd := by
  have hF := cs_iF h
  by_cases c0 : fd < 0
  · exact br_t c0 k
  · rcases hc with c | c | ⟨j, hj, rfl, e⟩
    · exact br_t c k
    · exact br_f c0 (br_t c k)
    · have ne : fn (nI j).toNatClampNeg < 0 := by rw [nI_clamp (by omega), e]; exact cs_m1lt
      exact br_f c0 (br_f (nI_ge hj (by omega)) ⟨vp_in_nI (by omega) (by omega), br_t ne k⟩)
/-! the directory check of the class: four answers -/
theorem xs_ref_shut {post : Int32 → Prop} {fd R : Int32} (h : cs_Inv M F pl kd pr ll lx ly fn) (hc : cs_shut F fn fd) (k : post (-1)) : wpX_refusalToUseDirectory post (nI M, nI F, nI pl, pa, cp, ps, wn, wd, wh, kd, pr, nm, ll, la, lx, fn, fr, fo, pt, pd) fd R := by
  unfold wpX_refusalToUseDirectory
  exact xs_shut (post := _) h hc (br_t rfl k)
theorem xs_isdir {post : Int32 → Prop} {j p : Nat} (h : cs_Inv M F pl kd pr ll lx ly fn) (hj : j < F) (hp : p < M) (e : fn j = nI p) (z : kd p = 1) (k : post 1) : wpX_isDirectoryFd post (nI M, nI F, nI pl, pa, cp, ps, wn, wd, wh, kd, pr, nm, ll, la, lx, fn, fr, fo, pt, pd) (nI j) := by
  have hM := cs_iM h
  have hF := cs_iF h
  have e1 : fn (nI j).toNatClampNeg = nI p := by rw [nI_clamp (by omega), e]
  have hv : vp_in (fn (nI j).toNatClampNeg) 32 := by rw [e1]; exact vp_in_nI (by omega) (by omega)
  have z1 : kd (fn (nI j).toNatClampNeg).toNatClampNeg = 1 := by rw [e1, nI_clamp (by omega), z]
  exact ⟨vp_in_nI (by omega) (by omega), hv, br_t z1 k⟩
theorem xs_nodir {post : Int32 → Prop} {j p : Nat} (h : cs_Inv M F pl kd pr ll lx ly fn) (hj : j < F) (hp : p < M) (e : fn j = nI p) (z : ¬ kd p = 1) (k : post 0) : wpX_isDirectoryFd post (nI M, nI F, nI pl, pa, cp, ps, wn, wd, wh, kd, pr, nm, ll, la, lx, fn, fr, fo, pt, pd) (nI j) := by
  have hM := cs_iM h
  have hF := cs_iF h
  have e1 : fn (nI j).toNatClampNeg = nI p := by rw [nI_clamp (by omega), e]
  have hv : vp_in (fn (nI j).toNatClampNeg) 32 := by rw [e1]; exact vp_in_nI (by omega) (by omega)
  have z1 : ¬ kd (fn (nI j).toNatClampNeg).toNatClampNeg = 1 := by rw [e1, nI_clamp (by omega)]; exact z
  exact ⟨vp_in_nI (by omega) (by omega), hv, br_f z1 k⟩
theorem xs_right {post : Int32 → Prop} {j : Nat} {R : Int32} (h : cs_Inv M F pl kd pr ll lx ly fn) (hj : j < F) (z : ¬ fr j &&& R = 0) (k : post 1) : wpX_hasRight post (nI M, nI F, nI pl, pa, cp, ps, wn, wd, wh, kd, pr, nm, ll, la, lx, fn, fr, fo, pt, pd) (nI j) R := by
  have hF := cs_iF h
  have z1 : ¬ fr (nI j).toNatClampNeg &&& R = 0 := by rw [nI_clamp (by omega)]; exact z
  exact ⟨vp_in_nI (by omega) (by omega), br_f z1 k⟩
theorem xs_noright {post : Int32 → Prop} {j : Nat} {R : Int32} (h : cs_Inv M F pl kd pr ll lx ly fn) (hj : j < F) (z : fr j &&& R = 0) (k : post 0) : wpX_hasRight post (nI M, nI F, nI pl, pa, cp, ps, wn, wd, wh, kd, pr, nm, ll, la, lx, fn, fr, fo, pt, pd) (nI j) R := by
  have hF := cs_iF h
  have z1 : fr (nI j).toNatClampNeg &&& R = 0 := by rw [nI_clamp (by omega)]; exact z
  exact ⟨vp_in_nI (by omega) (by omega), br_t z1 k⟩
theorem cs_10 : ¬ (1 : Int32) = 0 := by decide
theorem xs_ref_nodir {post : Int32 → Prop} {j p : Nat} {R : Int32} (h : cs_Inv M F pl kd pr ll lx ly fn) (hj : j < F) (hp : p < M) (e : fn j = nI p) (z : ¬ kd p = 1) (k : post (-4)) : wpX_refusalToUseDirectory post (nI M, nI F, nI pl, pa, cp, ps, wn, wd, wh, kd, pr, nm, ll, la, lx, fn, fr, fo, pt, pd) (nI j) R := by
  unfold wpX_refusalToUseDirectory
  exact xs_open (post := _) h hj hp e (br_f cs_10 (xs_nodir (post := _) h hj hp e z (br_t rfl k)))
theorem xs_ref_nocap {post : Int32 → Prop} {j p : Nat} {R : Int32} (h : cs_Inv M F pl kd pr ll lx ly fn) (hj : j < F) (hp : p < M) (e : fn j = nI p) (z : kd p = 1) (zr : fr j &&& R = 0) (k : post (-2)) : wpX_refusalToUseDirectory post (nI M, nI F, nI pl, pa, cp, ps, wn, wd, wh, kd, pr, nm, ll, la, lx, fn, fr, fo, pt, pd) (nI j) R := by
  unfold wpX_refusalToUseDirectory
  exact xs_open (post := _) h hj hp e (br_f cs_10 (xs_isdir (post := _) h hj hp e z (br_f cs_10 (xs_noright (post := _) h hj zr (br_t rfl k)))))
theorem xs_ref_ok {post : Int32 → Prop} {j p : Nat} {R : Int32} (h : cs_Inv M F pl kd pr ll lx ly fn) (hj : j < F) (hp : p < M) (e : fn j = nI p) (z : kd p = 1) (zr : ¬ fr j &&& R = 0) (k : post 0) : wpX_refusalToUseDirectory post (nI M, nI F, nI pl, pa, cp, ps, wn, wd, wh, kd, pr, nm, ll, la, lx, fn, fr, fo, pt, pd) (nI j) R := by
  unfold wpX_refusalToUseDirectory
  exact xs_open (post := _) h hj hp e (br_f cs_10 (xs_isdir (post := _) h hj hp e z (br_f cs_10 (xs_right (post := _) h hj zr (br_f cs_10 k)))))
end
