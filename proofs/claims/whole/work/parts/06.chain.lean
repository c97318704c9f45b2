section
variable {M F pl : Nat} {pa cp ps wn wd wh : Int32} {kd pr nm ll la lx ly fn fr fo pt pd py : Nat → Int32}
/-! rename: the reference's chain -/
theorem ys_anc1 {post : Int32 → SY → Prop} {t m s : Nat} {x4 : Int32} (hM : M ≤ 32) (ht : t < M) (h1 : 1 ≤ m) (hm : m < M) (h0 : pr 0 = 0) (hp : ∀ n, n < M → ∃ p, p < M ∧ pr n = nI p) (hs : s < M) (e : cs_ch pr t s = m) (k : post (-13) (nI M, nI F, cp, pa, nI pl, kd, pr, nm, ll, la, ly, fn, fr, fo, pt, py)) : ∀ q i, i + q = s → wY_rename_170 post x4 (nI t) (nI m) (nI M) (nI F) cp pa (nI pl) kd pr nm ll la ly fn fr fo pt py (q + 1) (nI (cs_ch pr t i)) (nI i) := by
  intro q
  induction q with
  | zero =>
    intro i hi
    have e2 : i = s := by omega
    subst e2
    exact br_f (nI_ge (b := 33) (by omega) (by decide)) (br_t (by rw [e]) k)
  | succ q ih =>
    intro i hi
    have hl := cs_ch_lt hM ht hp i
    have ne : ¬ nI (cs_ch pr t i) = 0 := fun e3 => by
      have e4 : cs_ch pr t i = 0 := cs_im (b := 0) (e3.trans nI_0.symm) (by omega) (by omega)
      have e5 := cs_ch_0 h0 e4 (q + 1)
      rw [hi, e] at e5
      omega
    refine br_f (nI_ge (b := 33) (by omega) (by decide)) (br_c (fun _ => k) (fun _ => br_f ne ⟨vp_in_nI (by omega) (by omega), nm_r ?_ (nm_r (nI_1 i) (ih (i + 1) (by omega)))⟩))
    rw [nI_clamp (by omega)]
    exact cs_ch_s hM ht hp i
theorem ys_anc0 {post : Int32 → SY → Prop} {t m : Nat} {x4 : Int32} (hM : M ≤ 32) (ht : t < M) (hm : m < M) (hp : ∀ n, n < M → ∃ p, p < M ∧ pr n = nI p) (hn : ∀ s, ¬ cs_ch pr t s = m) (k : wY_rename_210 post x4 (nI t) (nI m) (nI M) (nI F) cp pa (nI pl) kd pr nm ll la ly fn fr fo pt py) : ∀ q i, i + q = 33 → wY_rename_170 post x4 (nI t) (nI m) (nI M) (nI F) cp pa (nI pl) kd pr nm ll la ly fn fr fo pt py (q + 1) (nI (cs_ch pr t i)) (nI i) := by
  intro q
  induction q with
  | zero =>
    intro i hi
    exact br_t (nI_le (a := 33) (by omega) (by omega)) k
  | succ q ih =>
    intro i hi
    have hl := cs_ch_lt hM ht hp i
    refine br_f (nI_ge (b := 33) (by omega) (by decide)) (br_f (fun e => hn i (cs_im e (by omega) (by omega))) (br_c (fun _ => k) (fun _ => ⟨vp_in_nI (by omega) (by omega), nm_r ?_ (nm_r (nI_1 i) (ih (i + 1) (by omega)))⟩)))
    rw [nI_clamp (by omega)]
    exact cs_ch_s hM ht hp i
/-! create: the reference's walk downwards -/
theorem ys_none {post : Int32 → SY → Prop} {w x2 x3 x4 : Int32} (hM : M ≤ 32) (k : wY_create_116 post x2 x3 x4 (nI M) (nI F) cp pa (nI pl) kd pr nm ll la ly fn fr fo pt py (0 + 1) w (nI 0)) : ∀ i, i < M → (∀ t, 1 ≤ t → t ≤ i → ¬ kd t = 0) → wY_create_116 post x2 x3 x4 (nI M) (nI F) cp pa (nI pl) kd pr nm ll la ly fn fr fo pt py (i + 1) w (nI i) := by
  intro i
  induction i with
  | zero =>
    intro _ _
    exact k
  | succ i ih =>
    intro hi hz
    have zx : ¬ kd (nI (i + 1)).toNatClampNeg = 0 := by rw [nI_clamp (by omega)]; exact hz (i + 1) (by omega) (by omega)
    exact br_f (nI_nlt (b := 1) (by omega) (by omega)) ⟨vp_in_nI (by omega) (by omega), br_f zx (nm_r (pk_m1 i) (ih (by omega) (fun t h1 h2 => hz t h1 (by omega))))⟩
theorem ys_some {post : Int32 → SY → Prop} {x2 x3 x4 : Int32} {s : Nat} (hM : M ≤ 32) (h1 : 1 ≤ s) (z : kd s = 0) (hz : ∀ t, 1 ≤ t → t < s → ¬ kd t = 0) (k : wY_create_116 post x2 x3 x4 (nI M) (nI F) cp pa (nI pl) kd pr nm ll la ly fn fr fo pt py (0 + 1) (nI s) (nI 0)) : ∀ i (w : Int32), s ≤ i → i < M → wY_create_116 post x2 x3 x4 (nI M) (nI F) cp pa (nI pl) kd pr nm ll la ly fn fr fo pt py (i + 1) w (nI i) := by
  intro i
  induction i with
  | zero => intro w hs _; omega
  | succ i ih =>
    intro w hs hi
    have hv : vp_in (nI (i + 1)) 32 := vp_in_nI (by omega) (by omega)
    have hb : ¬ nI (i + 1) < 1 := nI_nlt (b := 1) (by omega) (by omega)
    by_cases e : s = i + 1
    · have zx : kd (nI (i + 1)).toNatClampNeg = 0 := by rw [nI_clamp (by omega), ← e]; exact z
      rw [e] at k hz
      exact br_f hb ⟨hv, br_t zx (nm_e (nm_r (pk_m1 i) (ys_none hM k i (by omega) (fun t h2 h3 => hz t h2 (by omega)))))⟩
    · exact br_f hb ⟨hv, br_c (fun _ => nm_e (nm_r (pk_m1 i) (ih _ (by omega) (by omega)))) (fun _ => nm_r (pk_m1 i) (ih _ (by omega) (by omega)))⟩
end
