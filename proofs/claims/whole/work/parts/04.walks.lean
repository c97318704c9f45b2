section
variable {M F pl : Nat} {pa cp ps wn wd wh : Int32} {kd pr nm ll la lx ly fn fr fo pt pd py : Nat → Int32}
/-! children by name, in lockstep -/
theorem cs_child0 (d c : Int32) (hM : M ≤ 32) : ∀ q i, i + q = M → ∃ r : Int32, (r = -1 ∨ ∃ n, i ≤ n ∧ n < M ∧ r = nI n ∧ ¬ kd n = 0 ∧ pr n = d ∧ nm n = c) ∧
    (∀ post : Int32 → Prop, post r → wX_childNamed_2 post d c (nI M) (nI F) (nI pl) pa cp ps wn wd wh kd pr nm ll la lx fn fr fo pt pd (q + 1) (nI i)) ∧ (∀ post : Int32 → Prop, post r → wY_findChild_2 post d c (nI M) (nI F) cp pa (nI pl) kd pr nm ll la ly fn fr fo pt py (q + 1) (nI i)) := by
  intro q
  induction q with
  | zero =>
    intro i hi
    have hc : nI M ≤ nI i := nI_le (by omega) (by omega)
    exact ⟨-1, Or.inl rfl, fun _ hp => br_t hc hp, fun _ hp => br_t hc hp⟩
  | succ q ih =>
    intro i hi
    have hc : ¬ nI M ≤ nI i := nI_ge (by omega) (by omega)
    have hv : vp_in (nI i) 32 := vp_in_nI (by omega) (by omega)
    have ci : (nI i).toNatClampNeg = i := nI_clamp (by omega)
    obtain ⟨r, hr, hX, hY⟩ := ih (i + 1) (by omega)
    have hr' : (r = -1 ∨ ∃ n, i ≤ n ∧ n < M ∧ r = nI n ∧ ¬ kd n = 0 ∧ pr n = d ∧ nm n = c) := by
      rcases hr with e | ⟨n, h1, h2⟩
      · exact Or.inl e
      · exact Or.inr ⟨n, by omega, h2⟩
    by_cases z1 : kd (nI i).toNatClampNeg = 0
    · exact ⟨r, hr', fun post hp => br_f hc ⟨hv, br_t z1 (br_t rfl (nm_r (nI_1 i) (hX post hp)))⟩, fun post hp => br_f hc ⟨hv, br_t z1 (nm_r (nI_1 i) (hY post hp))⟩⟩
    · by_cases z2 : pr (nI i).toNatClampNeg = d
      · by_cases z3 : nm (nI i).toNatClampNeg = c
        · refine ⟨nI i, Or.inr ⟨i, Nat.le_refl i, by omega, rfl, ?_, ?_, ?_⟩, fun post hp => br_f hc ⟨hv, br_f z1 ⟨hv, br_t z2 (br_f cs_10 ⟨hv, br_t z3 hp⟩)⟩⟩, fun post hp => br_f hc ⟨hv, br_f z1 ⟨hv, br_t z2 ⟨hv, br_t z3 hp⟩⟩⟩⟩
          · rw [ci] at z1; exact z1
          · rw [ci] at z2; exact z2
          · rw [ci] at z3; exact z3
        · exact ⟨r, hr', fun post hp => br_f hc ⟨hv, br_f z1 ⟨hv, br_t z2 (br_f cs_10 ⟨hv, br_f z3 (nm_r (nI_1 i) (hX post hp))⟩)⟩⟩, fun post hp => br_f hc ⟨hv, br_f z1 ⟨hv, br_t z2 ⟨hv, br_f z3 (nm_r (nI_1 i) (hY post hp))⟩⟩⟩⟩
      · exact ⟨r, hr', fun post hp => br_f hc ⟨hv, br_f z1 ⟨hv, br_f z2 (br_t rfl (nm_r (nI_1 i) (hX post hp)))⟩⟩, fun post hp => br_f hc ⟨hv, br_f z1 ⟨hv, br_f z2 (nm_r (nI_1 i) (hY post hp))⟩⟩⟩
theorem cs_child (h : cs_Inv M F pl kd pr ll lx ly fn) (d c : Int32) : ∃ r : Int32, (r = -1 ∨ ∃ n, 1 ≤ n ∧ n < M ∧ r = nI n ∧ ¬ kd n = 0 ∧ pr n = d ∧ nm n = c) ∧
    (∀ post : Int32 → Prop, post r → wpX_childNamed post (nI M, nI F, nI pl, pa, cp, ps, wn, wd, wh, kd, pr, nm, ll, la, lx, fn, fr, fo, pt, pd) d c) ∧ (∀ post : Int32 → Prop, post r → wpY_findChild post (nI M, nI F, cp, pa, nI pl, kd, pr, nm, ll, la, ly, fn, fr, fo, pt, py) d c) := by
  have hM := cs_iM h
  obtain ⟨r, hr, hX, hY⟩ := cs_child0 (M := M) (F := F) (pl := pl) (pa := pa) (cp := cp) (ps := ps) (wn := wn) (wd := wd) (wh := wh) (kd := kd) (pr := pr) (nm := nm) (ll := ll) (la := la) (lx := lx) (ly := ly) (fn := fn) (fr := fr) (fo := fo) (pt := pt) (pd := pd) (py := py) d c hM.2 (M - 1) 1 (by omega)
  exact ⟨r, hr, fun post hp => ⟨_, hX post hp⟩, fun post hp => ⟨_, hY post hp⟩⟩
/-! the lowest closed slot, in lockstep -/
theorem cs_slot0 (hF : F ≤ 16) (hn : ∀ s, s < F → fn s = -1 ∨ ∃ p, p < M ∧ fn s = nI p) (hM : M ≤ 32) : ∀ q i, i + q = F → ∃ r : Int32, (r = -1 ∨ ∃ s, s < F ∧ r = nI s ∧ fn s = -1) ∧
    (∀ post : Int32 → Prop, post r → wX_lowestClosedSlot_2 post (nI M) (nI F) (nI pl) pa cp ps wn wd wh kd pr nm ll la lx fn fr fo pt pd (q + 1) (nI i)) ∧ (∀ post : Int32 → Prop, post r → wY_freeSlot_2 post (nI M) (nI F) cp pa (nI pl) kd pr nm ll la ly fn fr fo pt py (q + 1) (nI i)) := by
  intro q
  induction q with
  | zero =>
    intro i hi
    have hc : nI F ≤ nI i := nI_le (by omega) (by omega)
    exact ⟨-1, Or.inl rfl, fun _ hp => br_t hc hp, fun _ hp => br_t hc hp⟩
  | succ q ih =>
    intro i hi
    have hc : ¬ nI F ≤ nI i := nI_ge (by omega) (by omega)
    have hv : vp_in (nI i) 16 := vp_in_nI (by omega) (by omega)
    have ci : (nI i).toNatClampNeg = i := nI_clamp (by omega)
    obtain ⟨r, hr, hX, hY⟩ := ih (i + 1) (by omega)
    rcases hn i (by omega) with e | ⟨p, hp, e⟩
    · have zx : fn (nI i).toNatClampNeg = -1 := by rw [ci, e]
      have zy : ¬ 0 ≤ fn (nI i).toNatClampNeg := by rw [ci, e]; exact cs_m1ge
      exact ⟨nI i, Or.inr ⟨i, by omega, rfl, e⟩, fun post hp => br_f hc ⟨hv, br_t zx hp⟩, fun post hp => br_f hc ⟨hv, br_f zy hp⟩⟩
    · have zx : ¬ fn (nI i).toNatClampNeg = -1 := by rw [ci, e]; exact cs_nm1 (by omega)
      have zy : 0 ≤ fn (nI i).toNatClampNeg := by rw [ci, e]; exact nI_pos' (by omega)
      exact ⟨r, hr, fun post hp => br_f hc ⟨hv, br_f zx (nm_r (nI_1 i) (hX post hp))⟩, fun post hp => br_f hc ⟨hv, br_t zy (nm_r (nI_1 i) (hY post hp))⟩⟩
theorem cs_slot (h : cs_Inv M F pl kd pr ll lx ly fn) : ∃ r : Int32, (r = -1 ∨ ∃ s, s < F ∧ r = nI s ∧ fn s = -1) ∧
    (∀ post : Int32 → Prop, post r → wpX_lowestClosedSlot post (nI M, nI F, nI pl, pa, cp, ps, wn, wd, wh, kd, pr, nm, ll, la, lx, fn, fr, fo, pt, pd)) ∧ (∀ post : Int32 → Prop, post r → wpY_freeSlot post (nI M, nI F, cp, pa, nI pl, kd, pr, nm, ll, la, ly, fn, fr, fo, pt, py)) := by
  have hM := cs_iM h
  have hF := cs_iF h
  obtain ⟨r, hr, hX, hY⟩ := cs_slot0 (M := M) (F := F) (pl := pl) (pa := pa) (cp := cp) (ps := ps) (wn := wn) (wd := wd) (wh := wh) (kd := kd) (pr := pr) (nm := nm) (ll := ll) (la := la) (lx := lx) (ly := ly) (fn := fn) (fr := fr) (fo := fo) (pt := pt) (pd := pd) (py := py) hF.2 (cs_ifn h) hM.2 F 0 (by omega)
  rw [nI_0] at hX hY
  exact ⟨r, hr, fun post hp => ⟨_, hX post hp⟩, fun post hp => ⟨_, hY post hp⟩⟩
/-! the counts of status, in lockstep -/
theorem cs_cntN (hM : M ≤ 32) : ∀ q i (c : Int32), i + q = M → ∃ r : Int32,
    (∀ post : Int32 → Prop, post r → wX_countUsedNodes_4 post (nI M) (nI F) (nI pl) pa cp ps wn wd wh kd pr nm ll la lx fn fr fo pt pd (q + 1) c (nI i)) ∧ (∀ post : Int32 → Prop, post r → wY_status_54 post (nI M) (nI F) cp pa (nI pl) kd pr nm ll la ly fn fr fo pt py (q + 1) c (nI i)) := by
  intro q
  induction q with
  | zero =>
    intro i c hi
    have hc : nI M ≤ nI i := nI_le (by omega) (by omega)
    exact ⟨c, fun _ hp => br_t hc hp, fun _ hp => br_t hc hp⟩
  | succ q ih =>
    intro i c hi
    have hc : ¬ nI M ≤ nI i := nI_ge (by omega) (by omega)
    have hv : vp_in (nI i) 32 := vp_in_nI (by omega) (by omega)
    by_cases z : kd (nI i).toNatClampNeg = 0
    · obtain ⟨r, hX, hY⟩ := ih (i + 1) c (by omega)
      exact ⟨r, fun post hp => br_f hc ⟨hv, br_t z (nm_r (nI_1 i) (hX post hp))⟩, fun post hp => br_f hc ⟨hv, br_t z (nm_r (nI_1 i) (hY post hp))⟩⟩
    · obtain ⟨r, hX, hY⟩ := ih (i + 1) (c + 1) (by omega)
      exact ⟨r, fun post hp => br_f hc ⟨hv, br_f z (nm_e (nm_r (nI_1 i) (hX post hp)))⟩, fun post hp => br_f hc ⟨hv, br_f z (nm_e (nm_r (nI_1 i) (hY post hp)))⟩⟩
theorem cs_cntF (hF : F ≤ 16) (hn : ∀ s, s < F → fn s = -1 ∨ ∃ p, p < M ∧ fn s = nI p) (hM : M ≤ 32) : ∀ q i (c : Int32), i + q = F → ∃ r : Int32,
    (∀ post : Int32 → Prop, post r → wX_countOpenSlots_4 post (nI M) (nI F) (nI pl) pa cp ps wn wd wh kd pr nm ll la lx fn fr fo pt pd (q + 1) c (nI i)) ∧ (∀ post : Int32 → Prop, post r → wY_status_91 post (nI M) (nI F) cp pa (nI pl) kd pr nm ll la ly fn fr fo pt py (q + 1) c (nI i)) := by
  intro q
  induction q with
  | zero =>
    intro i c hi
    have hc : nI F ≤ nI i := nI_le (by omega) (by omega)
    exact ⟨c, fun _ hp => br_t hc hp, fun _ hp => br_t hc hp⟩
  | succ q ih =>
    intro i c hi
    have hc : ¬ nI F ≤ nI i := nI_ge (by omega) (by omega)
    have hv : vp_in (nI i) 16 := vp_in_nI (by omega) (by omega)
    have ci : (nI i).toNatClampNeg = i := nI_clamp (by omega)
    rcases hn i (by omega) with e | ⟨p, hp, e⟩
    · have zx : fn (nI i).toNatClampNeg = -1 := by rw [ci, e]
      have zy : fn (nI i).toNatClampNeg < 0 := by rw [ci, e]; exact cs_m1lt
      obtain ⟨r, hX, hY⟩ := ih (i + 1) c (by omega)
      exact ⟨r, fun post hp => br_f hc ⟨hv, br_t zx (nm_r (nI_1 i) (hX post hp))⟩, fun post hp => br_f hc ⟨hv, br_t zy (nm_r (nI_1 i) (hY post hp))⟩⟩
    · have zx : ¬ fn (nI i).toNatClampNeg = -1 := by rw [ci, e]; exact cs_nm1 (by omega)
      have zy : ¬ fn (nI i).toNatClampNeg < 0 := by rw [ci, e]; exact nI_pos (by omega)
      obtain ⟨r, hX, hY⟩ := ih (i + 1) (c + 1) (by omega)
      exact ⟨r, fun post hp => br_f hc ⟨hv, br_f zx (nm_e (nm_r (nI_1 i) (hX post hp)))⟩, fun post hp => br_f hc ⟨hv, br_f zy (nm_e (nm_r (nI_1 i) (hY post hp)))⟩⟩
/-! create's lowest free node -/
theorem xs_free1 {post : Int32 → Prop} {s : Nat} (hM : M ≤ 32) (hs : s < M) (z : kd s = 0) (k : post (nI s)) : ∀ q i, i + q = s → (∀ t, i ≤ t → t < s → ¬ kd t = 0) → wX_lowestFreeNode_2 post (nI M) (nI F) (nI pl) pa cp ps wn wd wh kd pr nm ll la lx fn fr fo pt pd (q + 1) (nI i) := by
  intro q
  induction q with
  | zero =>
    intro i hi _
    have e : i = s := by omega
    subst e
    have zx : kd (nI i).toNatClampNeg = 0 := by rw [nI_clamp (by omega), z]
    exact br_f (nI_ge (by omega) (by omega)) ⟨vp_in_nI (by omega) (by omega), br_t zx k⟩
  | succ q ih =>
    intro i hi hz
    have zx : ¬ kd (nI i).toNatClampNeg = 0 := by rw [nI_clamp (by omega)]; exact hz i (by omega) (by omega)
    exact br_f (nI_ge (by omega) (by omega)) ⟨vp_in_nI (by omega) (by omega), br_f zx (nm_r (nI_1 i) (ih (i + 1) (by omega) (fun t h1 h2 => hz t (by omega) h2)))⟩
theorem xs_free0 {post : Int32 → Prop} (hM : M ≤ 32) (k : post (-1)) : ∀ q i, i + q = M → (∀ t, i ≤ t → t < M → ¬ kd t = 0) → wX_lowestFreeNode_2 post (nI M) (nI F) (nI pl) pa cp ps wn wd wh kd pr nm ll la lx fn fr fo pt pd (q + 1) (nI i) := by
  intro q
  induction q with
  | zero =>
    intro i hi _
    exact br_t (nI_le (by omega) (by omega)) k
  | succ q ih =>
    intro i hi hz
    have zx : ¬ kd (nI i).toNatClampNeg = 0 := by rw [nI_clamp (by omega)]; exact hz i (by omega) (by omega)
    exact br_f (nI_ge (by omega) (by omega)) ⟨vp_in_nI (by omega) (by omega), br_f zx (nm_r (nI_1 i) (ih (i + 1) (by omega) (fun t h1 h2 => hz t (by omega) h2)))⟩
/-! held open, children -/
theorem xs_held1 {post : Int32 → Prop} {s m : Nat} (hF : F ≤ 16) (hs : s < F) (z : fn s = nI m) (k : post 1) : ∀ q i, i + q = s → wX_isHeldOpen_2 post (nI m) (nI M) (nI F) (nI pl) pa cp ps wn wd wh kd pr nm ll la lx fn fr fo pt pd (q + 1) (nI i) := by
  intro q
  induction q with
  | zero =>
    intro i hi
    have e : i = s := by omega
    subst e
    have zx : fn (nI i).toNatClampNeg = nI m := by rw [nI_clamp (by omega), z]
    exact br_f (nI_ge (by omega) (by omega)) ⟨vp_in_nI (by omega) (by omega), br_t zx k⟩
  | succ q ih =>
    intro i hi
    exact br_f (nI_ge (by omega) (by omega)) ⟨vp_in_nI (by omega) (by omega), br_c (fun _ => k) (fun _ => nm_r (nI_1 i) (ih (i + 1) (by omega)))⟩
theorem xs_held0 {post : Int32 → Prop} {m : Nat} (hF : F ≤ 16) (hz : ∀ t, t < F → ¬ fn t = nI m) (k : post 0) : ∀ q i, i + q = F → wX_isHeldOpen_2 post (nI m) (nI M) (nI F) (nI pl) pa cp ps wn wd wh kd pr nm ll la lx fn fr fo pt pd (q + 1) (nI i) := by
  intro q
  induction q with
  | zero =>
    intro i hi
    exact br_t (nI_le (by omega) (by omega)) k
  | succ q ih =>
    intro i hi
    have zx : ¬ fn (nI i).toNatClampNeg = nI m := by rw [nI_clamp (by omega)]; exact hz i (by omega)
    exact br_f (nI_ge (by omega) (by omega)) ⟨vp_in_nI (by omega) (by omega), br_f zx (nm_r (nI_1 i) (ih (i + 1) (by omega)))⟩
theorem xs_kids1 {post : Int32 → Prop} {s m : Nat} (hM : M ≤ 32) (hs : s < M) (z1 : ¬ kd s = 0) (z2 : pr s = nI m) (k : post 1) : ∀ q i, i + q = s → wX_hasChildren_2 post (nI m) (nI M) (nI F) (nI pl) pa cp ps wn wd wh kd pr nm ll la lx fn fr fo pt pd (q + 1) (nI i) := by
  intro q
  induction q with
  | zero =>
    intro i hi
    have e : i = s := by omega
    subst e
    have hv : vp_in (nI i) 32 := vp_in_nI (by omega) (by omega)
    have x1 : ¬ kd (nI i).toNatClampNeg = 0 := by rw [nI_clamp (by omega)]; exact z1
    have x2 : pr (nI i).toNatClampNeg = nI m := by rw [nI_clamp (by omega), z2]
    exact br_f (nI_ge (by omega) (by omega)) ⟨hv, br_f x1 ⟨hv, br_t x2 (br_f cs_10 k)⟩⟩
  | succ q ih =>
    intro i hi
    have hv : vp_in (nI i) 32 := vp_in_nI (by omega) (by omega)
    have nx := ih (i + 1) (by omega)
    exact br_f (nI_ge (by omega) (by omega)) ⟨hv, br_c (fun _ => br_t rfl (nm_r (nI_1 i) nx)) (fun _ => ⟨hv, br_c (fun _ => br_f cs_10 k) (fun _ => br_t rfl (nm_r (nI_1 i) nx))⟩)⟩
theorem xs_kids0 {post : Int32 → Prop} {m : Nat} (hM : M ≤ 32) (hz : ∀ t, 1 ≤ t → t < M → ¬ kd t = 0 → ¬ pr t = nI m) (k : post 0) : ∀ q i, 1 ≤ i → i + q = M → wX_hasChildren_2 post (nI m) (nI M) (nI F) (nI pl) pa cp ps wn wd wh kd pr nm ll la lx fn fr fo pt pd (q + 1) (nI i) := by
  intro q
  induction q with
  | zero =>
    intro i h1 hi
    exact br_t (nI_le (by omega) (by omega)) k
  | succ q ih =>
    intro i h1 hi
    have hv : vp_in (nI i) 32 := vp_in_nI (by omega) (by omega)
    have ci : (nI i).toNatClampNeg = i := nI_clamp (by omega)
    have nx := ih (i + 1) (by omega) (by omega)
    refine br_f (nI_ge (by omega) (by omega)) ⟨hv, br_c (fun _ => br_t rfl (nm_r (nI_1 i) nx)) (fun x1 => ⟨hv, br_f ?_ (br_t rfl (nm_r (nI_1 i) nx))⟩)⟩
    rw [ci] at x1 ⊢
    exact hz i h1 (by omega) x1
/-! rename: the chain of parents -/
theorem xs_anc1 {post : Int32 → Prop} {t m s : Nat} (hM : M ≤ 32) (ht : t < M) (hm : m < M) (hp : ∀ n, n < M → ∃ p, p < M ∧ pr n = nI p) (hs : s < M) (e : cs_ch pr t s = m) (k : post 1) : ∀ q i, i + q = s → wX_isAtOrBelow_5 post (nI m) (nI M) (nI F) (nI pl) pa cp ps wn wd wh kd pr nm ll la lx fn fr fo pt pd (q + 1) (nI (cs_ch pr t i)) (nI i) := by
  intro q
  induction q with
  | zero =>
    intro i hi
    have e2 : i = s := by omega
    subst e2
    exact br_f (nI_ge (by omega) (by omega)) (br_t (by rw [e]) k)
  | succ q ih =>
    intro i hi
    have hl := cs_ch_lt hM ht hp i
    refine br_f (nI_ge (by omega) (by omega)) (br_c (fun _ => k) (fun _ => ⟨vp_in_nI (by omega) (by omega), nm_r ?_ (nm_r (nI_1 i) (ih (i + 1) (by omega)))⟩))
    rw [nI_clamp (by omega)]
    exact cs_ch_s hM ht hp i
theorem xs_anc0 {post : Int32 → Prop} {t m : Nat} (hM : M ≤ 32) (ht : t < M) (hm : m < M) (hp : ∀ n, n < M → ∃ p, p < M ∧ pr n = nI p) (hn : ∀ s, ¬ cs_ch pr t s = m) (k : post 0) : ∀ q i, i + q = M → wX_isAtOrBelow_5 post (nI m) (nI M) (nI F) (nI pl) pa cp ps wn wd wh kd pr nm ll la lx fn fr fo pt pd (q + 1) (nI (cs_ch pr t i)) (nI i) := by
  intro q
  induction q with
  | zero =>
    intro i hi
    exact br_t (nI_le (by omega) (by omega)) k
  | succ q ih =>
    intro i hi
    have hl := cs_ch_lt hM ht hp i
    refine br_f (nI_ge (by omega) (by omega)) (br_f (fun e => hn i (cs_im e (by omega) (by omega))) ⟨vp_in_nI (by omega) (by omega), nm_r ?_ (nm_r (nI_1 i) (ih (i + 1) (by omega)))⟩)
    rw [nI_clamp (by omega)]
    exact cs_ch_s hM ht hp i
end
