section
variable {M F pl : Nat} {pa cp ps wn wd wh : Int32} {kd pr nm ll la lx ly fn fr fo pt pd py : Nat → Int32}
theorem cs_walk0 {x2 x4 x5 : Int32} {i hops cur q : Nat} {dep : Int32} (hi : i ≤ 40) (hc : cur < M) :
    cs_Out M (fun a b c d f => (nI M, nI F, nI pl, pa, cp, a, b, c, d, kd, pr, nm, ll, la, lx, fn, fr, fo, pt, f)) (fun g => (nI M, nI F, cp, pa, nI pl, kd, pr, nm, ll, la, ly, fn, fr, fo, pt, g)) (fun post r g => wY_openAt_407 post x2 x4 x5 r (nI M) (nI F) cp pa (nI pl) kd pr nm ll la ly fn fr fo pt g)
      (fun post => wX_resolvePath_49 post (q + 1) (nI i) (nI M) (nI F) (nI pl) pa cp (nI (40 - 0)) (nI cur) dep (nI hops) kd pr nm ll la lx fn fr fo pt pd)
      (fun post => wY_openAt_160 post x2 x4 x5 (nI M) (nI F) cp pa (nI pl) (q + 1) (nI cur) dep (nI hops) (nI 0) (-1) (nI i) kd pr nm ll la ly fn fr fo pt py) := by
  have g40 : (40 : Int32) ≤ nI (40 - 0) := nI_le (a := 40) (by omega) (by omega)
  have y64 : ¬ (64 : Int32) ≤ nI i := nI_ge (b := 64) (by omega) (by decide)
  have z0 : nI 0 ≤ 0 := nI_le (b := 0) (by omega) (by omega)
  exact Or.inr ⟨cur, nI (40 - 0), nI cur, dep, nI hops, pd, py, hc, fun post hp => br_c (fun _ => hp) (fun _ => br_t g40 hp), fun post hp => br_f y64 (br_t z0 (br_f cs_m1ge hp))⟩
theorem cs_walk (h : cs_Inv M F pl kd pr ll lx ly fn) (x2 x4 x5 : Int32) : ∀ (q i pc hops cur : Nat) (dep : Int32) (pd py : Nat → Int32), i + q = 40 → i + pc ≤ 8 + 4 * hops → hops ≤ 8 → cur < M → cs_Pd pc pd py →
    cs_Out M (fun a b c d f => (nI M, nI F, nI pl, pa, cp, a, b, c, d, kd, pr, nm, ll, la, lx, fn, fr, fo, pt, f)) (fun g => (nI M, nI F, cp, pa, nI pl, kd, pr, nm, ll, la, ly, fn, fr, fo, pt, g)) (fun post r g => wY_openAt_407 post x2 x4 x5 r (nI M) (nI F) cp pa (nI pl) kd pr nm ll la ly fn fr fo pt g)
      (fun post => wX_resolvePath_49 post (q + 1) (nI i) (nI M) (nI F) (nI pl) pa cp (nI (40 - pc)) (nI cur) dep (nI hops) kd pr nm ll la lx fn fr fo pt pd)
      (fun post => wY_openAt_160 post x2 x4 x5 (nI M) (nI F) cp pa (nI pl) (q + 1) (nI cur) dep (nI hops) (nI pc) (-1) (nI i) kd pr nm ll la ly fn fr fo pt py) := by
  have hM := cs_iM h
  intro q
  induction q with
  | zero =>
    intro i pc hops cur dep pd py hi hb hh hc hP
    have e : pc = 0 := by omega
    subst e
    exact cs_walk0 (by omega) hc
  | succ q ih =>
    intro i pc hops cur dep pd py hi hb hh hc hP
    cases pc with
    | zero => exact cs_walk0 (by omega) hc
    | succ pc =>
      have i40 : ¬ (40 : Int32) ≤ nI i := nI_ge (b := 40) (by omega) (by decide)
      have p40 : ¬ (40 : Int32) ≤ nI (40 - (pc + 1)) := nI_ge (b := 40) (by omega) (by decide)
      have hv40 : vp_in (nI (40 - (pc + 1))) 40 := vp_in_nI (by omega) (by omega)
      have ep : nI (40 - (pc + 1)) + 1 = nI (40 - pc) := by rw [nI_1]; exact congrArg nI (by omega)
      have y64 : ¬ (64 : Int32) ≤ nI i := nI_ge (b := 64) (by omega) (by decide)
      have yp : ¬ nI (pc + 1) ≤ 0 := nI_nle (by omega) (by omega)
      have hv64 : vp_in (nI pc) 64 := vp_in_nI (by omega) (by omega)
      have hvc : vp_in (nI cur) 32 := vp_in_nI (by omega) (by omega)
      have hP1 := cs_Pd_pop (by omega) hP
      obtain ⟨c, ey, ec⟩ : ∃ c, py (nI pc).toNatClampNeg = c ∧ pd (nI (40 - (pc + 1))).toNatClampNeg = c := by
        refine ⟨py pc, by rw [nI_clamp (by omega)], ?_⟩
        rw [nI_clamp (by omega)]
        exact cs_Pd_top hP
      by_cases c16 : c = 16
      · subst c16
        obtain ⟨p, hp, epr⟩ := cs_ipr h cur hc
        have epr1 : pr (nI cur).toNatClampNeg = nI p := by rw [nI_clamp (by omega), epr]
        have ed : dep - 1 = dep + (-1) := Int32.sub_eq_add_neg dep 1
        have O := ih (i + 1) pc hops p (dep + (-1)) pd py (by omega) (by omega) hh hp hP1
        by_cases zc : cp = 0
        · exact cs_mono O (fun post hp => br_f i40 (br_f p40 ⟨hv40, nm_r ec (nm_r ep (br_f (by decide) (br_t rfl (br_t zc ⟨hvc, nm_r epr1 (nm_r ed (br_t rfl (nm_r (nI_1 i) hp)))⟩))))⟩)) (fun post hp => br_f y64 (br_f yp (br_f cs_m1ge (nm_r (pk_m1 _) ⟨hv64, nm_r ey (br_t rfl (br_t zc ⟨hvc, nm_r epr1 (nm_e (nm_r (nI_1 i) hp))⟩))⟩))))
        · by_cases zd : dep = 0
          · exact Or.inl ⟨-8, nI (40 - pc), nI cur, dep, nI hops, pd, py, by decide, fun post hp => br_f i40 (br_f p40 ⟨hv40, nm_r ec (nm_r ep (br_f (by decide) (br_t rfl (br_f zc (br_t zd (br_f (by decide) hp))))))⟩), fun post hp => br_f y64 (br_f yp (br_f cs_m1ge (nm_r (pk_m1 _) ⟨hv64, nm_r ey (br_t rfl (br_f zc (br_t zd hp)))⟩)))⟩
          · exact cs_mono O (fun post hp => br_f i40 (br_f p40 ⟨hv40, nm_r ec (nm_r ep (br_f (by decide) (br_t rfl (br_f zc (br_f zd ⟨hvc, nm_r epr1 (nm_r ed (br_t rfl (nm_r (nI_1 i) hp)))⟩)))))⟩)) (fun post hp => br_f y64 (br_f yp (br_f cs_m1ge (nm_r (pk_m1 _) ⟨hv64, nm_r ey (br_t rfl (br_f zc (br_f zd ⟨hvc, nm_r epr1 (nm_e (nm_r (nI_1 i) hp))⟩)))⟩))))
      by_cases c0 : c = 0
      · subst c0
        exact cs_mono (ih (i + 1) pc hops cur dep pd py (by omega) (by omega) hh hc hP1) (fun post hp => br_f i40 (br_f p40 ⟨hv40, nm_r ec (nm_r ep (br_t rfl (br_t rfl (nm_r (nI_1 i) hp))))⟩)) (fun post hp => br_f y64 (br_f yp (br_f cs_m1ge (nm_r (pk_m1 _) ⟨hv64, nm_r ey (br_f c16 (br_t rfl (nm_r (nI_1 i) hp)))⟩))))
      obtain ⟨r, hr, cX, cY⟩ := cs_child (pa := pa) (cp := cp) (ps := nI (40 - pc)) (wn := nI cur) (wd := dep) (wh := nI hops) (nm := nm) (la := la) (fr := fr) (fo := fo) (pt := pt) (pd := pd) (py := py) h (nI cur) c
      rcases hr with rfl | ⟨n, hn1, hn, rfl, zf, _⟩
      · exact Or.inl ⟨-5, nI (40 - pc), nI cur, dep, nI hops, pd, py, by decide, fun post hp => br_f i40 (br_f p40 ⟨hv40, nm_r ec (nm_r ep (br_f c0 (br_f c16 (cX _ (br_t rfl (br_f (by decide) hp))))))⟩), fun post hp => br_f y64 (br_f yp (br_f cs_m1ge (nm_r (pk_m1 _) ⟨hv64, nm_r ey (br_f c16 (br_f c0 (cY _ (br_f cs_m1ge hp))))⟩)))⟩
      have cn : (nI n).toNatClampNeg = n := nI_clamp (by omega)
      have hvn : vp_in (nI n) 32 := vp_in_nI (by omega) (by omega)
      have ge : (0 : Int32) ≤ nI n := nI_pos' (by omega)
      have nm1 : ¬ nI n = -1 := cs_nm1 (by omega)
      rcases cs_ikd h n hn with zk | zk | zk | zk
      · exact absurd zk zf
      · have k1 : kd (nI n).toNatClampNeg = 1 := by rw [cn, zk]
        have k3 : ¬ kd (nI n).toNatClampNeg = 3 := by rw [cn, zk]; decide
        exact cs_mono (ih (i + 1) pc hops n (dep + 1) pd py (by omega) (by omega) hh hn hP1) (fun post hp => br_f i40 (br_f p40 ⟨hv40, nm_r ec (nm_r ep (br_f c0 (br_f c16 (cX _ (br_f nm1 ⟨hvn, br_f k3 ⟨hvn, br_t k1 (nm_e (br_t rfl (nm_r (nI_1 i) hp)))⟩⟩)))))⟩)) (fun post hp => br_f y64 (br_f yp (br_f cs_m1ge (nm_r (pk_m1 _) ⟨hv64, nm_r ey (br_f c16 (br_f c0 (cY _ (br_t ge ⟨hvn, br_t k1 (nm_e (nm_r (nI_1 i) hp))⟩))))⟩))))
      · have k1 : ¬ kd (nI n).toNatClampNeg = 1 := by rw [cn, zk]; decide
        have k2 : kd (nI n).toNatClampNeg = 2 := by rw [cn, zk]
        have k3 : ¬ kd (nI n).toNatClampNeg = 3 := by rw [cn, zk]; decide
        cases pc with
        | zero =>
          have g40 : (40 : Int32) ≤ nI (40 - 0) := nI_le (a := 40) (by omega) (by omega)
          have z0 : nI 0 ≤ 0 := nI_le (b := 0) (by omega) (by omega)
          exact Or.inr ⟨n, nI (40 - 0), nI n, dep, nI hops, pd, py, hn, fun post hp => br_f i40 (br_f p40 ⟨hv40, nm_r ec (nm_r ep (br_f c0 (br_f c16 (cX _ (br_f nm1 ⟨hvn, br_f k3 ⟨hvn, br_f k1 (br_t g40 (br_t rfl (nm_r (nI_1 i) (br_c (fun _ => hp) (fun _ => br_t g40 hp)))))⟩⟩)))))⟩), fun post hp => br_f y64 (br_f yp (br_f cs_m1ge (nm_r (pk_m1 _) ⟨hv64, nm_r ey (br_f c16 (br_f c0 (cY _ (br_t ge ⟨hvn, br_f k1 ⟨hvn, br_t k2 (br_t z0 (nm_r (nI_1 i) (br_c (fun _ => br_t ge hp) (fun _ => br_t z0 (br_t ge hp)))))⟩⟩))))⟩)))⟩
        | succ pc =>
          have g40 : ¬ (40 : Int32) ≤ nI (40 - (pc + 1)) := nI_ge (b := 40) (by omega) (by decide)
          have z0 : ¬ nI (pc + 1) ≤ 0 := nI_nle (by omega) (by omega)
          exact Or.inl ⟨-4, nI (40 - (pc + 1)), nI cur, dep, nI hops, pd, py, by decide, fun post hp => br_f i40 (br_f p40 ⟨hv40, nm_r ec (nm_r ep (br_f c0 (br_f c16 (cX _ (br_f nm1 ⟨hvn, br_f k3 ⟨hvn, br_f k1 (br_f g40 (br_f (by decide) hp))⟩⟩)))))⟩), fun post hp => br_f y64 (br_f yp (br_f cs_m1ge (nm_r (pk_m1 _) ⟨hv64, nm_r ey (br_f c16 (br_f c0 (cY _ (br_t ge ⟨hvn, br_f k1 ⟨hvn, br_t k2 (br_f z0 hp)⟩⟩))))⟩)))⟩
      · have k1 : ¬ kd (nI n).toNatClampNeg = 1 := by rw [cn, zk]; decide
        have k2 : ¬ kd (nI n).toNatClampNeg = 2 := by rw [cn, zk]; decide
        have k3 : kd (nI n).toNatClampNeg = 3 := by rw [cn, zk]
        obtain ⟨l, hl, el, eq⟩ := cs_ill h n hn
        have el1 : ll (nI n).toNatClampNeg - 1 = nI l - 1 := by rw [cn, el]
        by_cases h8 : hops + 1 ≤ 8
        · have g8 : nI (hops + 1) ≤ 8 := nI_le (b := 8) h8 (by omega)
          have hPn := cs_Pd_push (l := l) (fx := fun j => lx (n * 4 + j)) (fy := fun j => ly (n * 4 + j)) (by omega) hP1 eq
          by_cases zl : la (nI n).toNatClampNeg = 0
          · refine cs_mono (ih (i + 1) (pc + l) (hops + 1) cur dep _ _ (by omega) (by omega) h8 hc hPn) (fun post hp => br_f i40 (br_f p40 ⟨hv40, nm_r ec (nm_r ep (br_f c0 (br_f c16 (cX _ (br_f nm1 ⟨hvn, br_t k3 (nm_r (nI_1 hops) (br_t g8 ⟨hvn, br_t zl (xs_fol (by omega) hl (by omega) el (br_t rfl (nm_r (nI_1 i) hp)))⟩))⟩)))))⟩)) (fun post hp => br_f y64 (br_f yp (br_f cs_m1ge (nm_r (pk_m1 _) ⟨hv64, nm_r ey (br_f c16 (br_f c0 (cY _ (br_t ge ⟨hvn, br_f k1 ⟨hvn, br_f k2 (nm_r (nI_1 hops) (br_t g8 ⟨hvn, br_t zl ⟨hvn, nm_r el1 ⟨l + 1, ?_⟩⟩⟩))⟩⟩))))⟩))))
            have z := ys_push (M := M) (F := F) (pl := pl) (pa := pa) (cp := cp) (post := post) (J := wY_openAt_160 post x2 x4 x5 (nI M) (nI F) cp pa (nI pl) (q + 1)) (x2 := x2) (x4 := x4) (x5 := x5) (x6 := nI cur) (x7 := dep) (x8 := nI (hops + 1)) (x10 := -1) (x11 := nI i) (n := n) (l := l) (pc := pc) (by omega) hl (by omega) (by rw [nI_1]; exact hp) l 0 (by omega)
            rw [cs_cp_0] at z
            exact z
          · by_cases zc : cp = 0
            · refine cs_mono (ih (i + 1) (pc + l) (hops + 1) 0 0 _ _ (by omega) (by omega) h8 (by omega) hPn) (fun post hp => br_f i40 (br_f p40 ⟨hv40, nm_r ec (nm_r ep (br_f c0 (br_f c16 (cX _ (br_f nm1 ⟨hvn, br_t k3 (nm_r (nI_1 hops) (br_t g8 ⟨hvn, br_f zl (br_t zc (xs_fol (by omega) hl (by omega) el (br_t rfl (nm_r (nI_1 i) hp))))⟩))⟩)))))⟩)) (fun post hp => br_f y64 (br_f yp (br_f cs_m1ge (nm_r (pk_m1 _) ⟨hv64, nm_r ey (br_f c16 (br_f c0 (cY _ (br_t ge ⟨hvn, br_f k1 ⟨hvn, br_f k2 (nm_r (nI_1 hops) (br_t g8 ⟨hvn, br_f zl (br_t zc ⟨hvn, nm_r el1 ⟨l + 1, ?_⟩⟩)⟩))⟩⟩))))⟩))))
              have z := ys_push (M := M) (F := F) (pl := pl) (pa := pa) (cp := cp) (post := post) (J := wY_openAt_160 post x2 x4 x5 (nI M) (nI F) cp pa (nI pl) (q + 1)) (x2 := x2) (x4 := x4) (x5 := x5) (x6 := nI 0) (x7 := 0) (x8 := nI (hops + 1)) (x10 := -1) (x11 := nI i) (n := n) (l := l) (pc := pc) (by omega) hl (by omega) (by rw [nI_1]; exact hp) l 0 (by omega)
              rw [cs_cp_0] at z
              exact z
            · exact Or.inl ⟨-8, nI (40 - pc), nI cur, dep, nI (hops + 1), pd, py, by decide, fun post hp => br_f i40 (br_f p40 ⟨hv40, nm_r ec (nm_r ep (br_f c0 (br_f c16 (cX _ (br_f nm1 ⟨hvn, br_t k3 (nm_r (nI_1 hops) (br_t g8 ⟨hvn, br_f zl (br_f zc (br_f (by decide) hp))⟩))⟩)))))⟩), fun post hp => br_f y64 (br_f yp (br_f cs_m1ge (nm_r (pk_m1 _) ⟨hv64, nm_r ey (br_f c16 (br_f c0 (cY _ (br_t ge ⟨hvn, br_f k1 ⟨hvn, br_f k2 (nm_r (nI_1 hops) (br_t g8 ⟨hvn, br_f zl (br_f zc hp)⟩))⟩⟩))))⟩)))⟩
        · have g8 : ¬ nI (hops + 1) ≤ 8 := nI_ge (a := 8) (by omega) (by omega)
          exact Or.inl ⟨-7, nI (40 - pc), nI cur, dep, nI (hops + 1), pd, py, by decide, fun post hp => br_f i40 (br_f p40 ⟨hv40, nm_r ec (nm_r ep (br_f c0 (br_f c16 (cX _ (br_f nm1 ⟨hvn, br_t k3 (nm_r (nI_1 hops) (br_f g8 (br_f (by decide) hp)))⟩)))))⟩), fun post hp => br_f y64 (br_f yp (br_f cs_m1ge (nm_r (pk_m1 _) ⟨hv64, nm_r ey (br_f c16 (br_f c0 (cY _ (br_t ge ⟨hvn, br_f k1 ⟨hvn, br_f k2 (nm_r (nI_1 hops) (br_f g8 hp))⟩⟩))))⟩)))⟩
end
