section
variable {M F pl : Nat} {pa cp ps wn wd wh : Int32} {kd pr nm ll la lx ly fn fr fo pt pd py : Nat → Int32}
theorem cs_res0 (h : cs_Inv M F pl kd pr ll lx ly fn) (x2 x4 x5 : Int32) {c : Nat} (hc : c < M) :
    cs_Out M (fun a b c d f => (nI M, nI F, nI pl, pa, cp, a, b, c, d, kd, pr, nm, ll, la, lx, fn, fr, fo, pt, f)) (fun g => (nI M, nI F, cp, pa, nI pl, kd, pr, nm, ll, la, ly, fn, fr, fo, pt, g)) (fun post r g => wY_openAt_407 post x2 x4 x5 r (nI M) (nI F) cp pa (nI pl) kd pr nm ll la ly fn fr fo pt g)
      (fun post => wX_resolvePath_30 post (nI c) (nI M) (nI F) (nI pl) pa cp ps wn wd wh kd pr nm ll la lx fn fr fo pt pd)
      (fun post => wY_openAt_109 post x2 x4 x5 (nI c) (nI M) (nI F) cp pa (nI pl) kd pr nm ll la ly fn fr fo pt py) := by
  have hpl := cs_ipl h
  have hP := cs_Pd_push (pc := 0) (l := pl) (fx := pt) (fy := pt) (by omega) (cs_Pd_0 pd py) (fun j _ => rfl)
  rw [Nat.zero_add] at hP
  have O := cs_walk (pa := pa) (cp := cp) (nm := nm) (la := la) (fr := fr) (fo := fo) (pt := pt) h x2 x4 x5 40 0 pl 0 c 0 _ _ (by omega) (by omega) (by omega) hc hP
  refine cs_mono O (fun post hp => ?_) (fun post hp => ?_)
  · unfold wX_resolvePath_30
    exact xs_load (post := _) hpl ⟨40 + 1, hp⟩
  · have z := ys_load (M := M) (F := F) (pl := pl) (pa := pa) (cp := cp) (kd := kd) (pr := pr) (nm := nm) (ll := ll) (la := la) (ly := ly) (fn := fn) (fr := fr) (fo := fo) (pt := pt) (py := py) (post := post) (x2 := x2) (x4 := x4) (x5 := x5) (x6 := nI c) (x7 := 0) (x8 := 0) hpl ⟨40 + 1, hp⟩ pl 0 (by omega)
    rw [cs_cp_0] at z
    exact nm_e ⟨pl + 1, z⟩
theorem cs_res (h : cs_Inv M F pl kd pr ll lx ly fn) (x2 x4 x5 : Int32) {s : Nat} (hs : s < M) :
    cs_Out M (fun a b c d f => (nI M, nI F, nI pl, pa, cp, a, b, c, d, kd, pr, nm, ll, la, lx, fn, fr, fo, pt, f)) (fun g => (nI M, nI F, cp, pa, nI pl, kd, pr, nm, ll, la, ly, fn, fr, fo, pt, g)) (fun post r g => wY_openAt_407 post x2 x4 x5 r (nI M) (nI F) cp pa (nI pl) kd pr nm ll la ly fn fr fo pt g)
      (fun post => wpX_resolvePath post (nI M, nI F, nI pl, pa, cp, ps, wn, wd, wh, kd, pr, nm, ll, la, lx, fn, fr, fo, pt, pd) (nI s))
      (fun post => wY_openAt_83 post x2 (nI s) x4 x5 (nI M) (nI F) cp pa (nI pl) kd pr nm ll la ly fn fr fo pt py) := by
  have hM := cs_iM h
  by_cases zp : pa = 0
  · exact cs_mono (cs_res0 h x2 x4 x5 hs) (fun post hp => br_t zp (br_t zp hp)) (fun post hp => br_t zp hp)
  · by_cases zc : cp = 0
    · exact cs_mono (cs_res0 (c := 0) h x2 x4 x5 (by omega)) (fun post hp => br_f zp (br_t zc (br_f zp hp))) (fun post hp => br_f zp (br_t zc hp))
    · exact Or.inl ⟨-8, ps, wn, wd, wh, pd, py, by decide, fun post hp => br_f zp (br_f zc hp), fun post hp => br_f zp (br_f zc hp)⟩
theorem cs_from {k : Nat} (h : cs_Inv M F pl kd pr ll lx ly fn) (x2 x4 x5 : Int32) {s : Nat} (hs : s < M) (W : (Int32 → SY → Prop) → Prop) (hW : ∀ post : Int32 → SY → Prop, wY_openAt_83 post x2 (nI s) x4 x5 (nI M) (nI F) cp pa (nI pl) kd pr nm ll la ly fn fr fo pt py → W post) :
    wpX_openFrom (fun r u' => W (fun r' v' => r' = r ∧ i_Rel (k + 5) u' v')) (nI M, nI F, nI pl, pa, cp, ps, wn, wd, wh, kd, pr, nm, ll, la, lx, fn, fr, fo, pt, pd) (nI s) (x2 &&& x4) x5 := by
  have hM := cs_iM h
  have hF := cs_iF h
  unfold wpX_openFrom
  rcases cs_res (pa := pa) (cp := cp) (ps := ps) (wn := wn) (wd := wd) (wh := wh) (nm := nm) (la := la) (fr := fr) (fo := fo) (pt := pt) (pd := pd) (py := py) h x2 x4 x5 hs with ⟨e, a, b, c, d, f, g, he, hX, hY⟩ | ⟨r, a, b, c, d, f, g, hr, hX, hY⟩
  · refine hX _ (br_f he ?_)
    exact hW _ (hY _ ⟨rfl, cs_rel _ h⟩)
  · obtain ⟨t, ht, sX, sY⟩ := cs_slot (pa := pa) (cp := cp) (ps := a) (wn := b) (wd := c) (wh := d) (nm := nm) (la := la) (fr := fr) (fo := fo) (pt := pt) (pd := f) (py := g) h
    refine hX _ (br_t (nI_pos' (by omega)) ?_)
    rcases ht with rfl | ⟨i, hi, rfl, z⟩
    · refine xs_oslot0 (post := _) sX ?_
      refine hW _ (hY _ ?_)
      unfold wY_openAt_407
      exact sY _ (br_f cs_m1ge ⟨rfl, cs_rel _ h⟩)
    · have hw : vp_in (nI i) 16 := vp_in_nI (by omega) (by omega)
      have es : (nI i).toNatClampNeg = i := nI_clamp (by omega)
      refine xs_oslot1 (post := _) (by omega) sX ?_
      refine hW _ (hY _ ?_)
      unfold wY_openAt_407
      refine sY _ (br_t (nI_pos' (by omega)) ⟨hw, nm_r (by rw [es]) ⟨hw, nm_r (by rw [es]) ⟨hw, nm_r (by rw [es]) ?_⟩⟩⟩)
      exact ⟨rfl, cs_rel _ (cs_vfn h (Or.inr ⟨r, hr, rfl⟩))⟩
end
theorem i_vc_openAt {k : Nat} {u : SX} {v : SY} (I : i_Rel k u v) (hk : k + 5 ≤ 2562) (v1 : Int32) (v2 : Int32) : wpX_openAt (fun r u' => wpY_openAt (fun r' v' => r' = r ∧ i_Rel (k + 5) u' v') v v1 v2) u v1 v2 := by
  obtain ⟨M, F, pl, pa, cp, ps, wn, wd, wh, kd, pr, nm, ll, la, lx, ly, fn, fr, fo, pt, pd, py, rfl, rfl, h⟩ := I
  have hM := cs_iM h
  have hF := cs_iF h
  by_cases g : v1 = -100
  · by_cases zc : cp = 0
    · refine br_t g (br_t zc ?_)
      exact cs_from (s := 0) h v2 63 (-1) (by omega) (fun post => wpY_openAt post (nI M, nI F, cp, pa, nI pl, kd, pr, nm, ll, la, ly, fn, fr, fo, pt, py) v1 v2) (fun post K => br_t g (br_t zc K))
    · exact br_t g (br_f zc (br_t g (br_f zc ⟨rfl, cs_rel _ h⟩)))
  · refine br_f g ?_
    rcases cs_ofd h v1 with ⟨j, p, hj, hp, rfl, e⟩ | hc
    · have hv : vp_in (nI j) 16 := vp_in_nI (by omega) (by omega)
      have hw : vp_in (nI p) 32 := vp_in_nI (by omega) (by omega)
      have cj : (nI j).toNatClampNeg = j := nI_clamp (by omega)
      have cpp : (nI p).toNatClampNeg = p := nI_clamp (by omega)
      have e1 : fn (nI j).toNatClampNeg = nI p := by rw [cj, e]
      by_cases zk : kd p = 1
      · have zk1 : kd (nI p).toNatClampNeg = 1 := by rw [cpp, zk]
        by_cases zr : fr j &&& 4 = 0
        · have zr1 : fr (nI j).toNatClampNeg &&& 4 = 0 := by rw [cj]; exact zr
          refine xs_ref_nocap (post := _) h hj hp e zk zr (br_f (by decide) ?_)
          exact br_f g (ys_open (post := _) h hj hp e (br_f cs_10 ⟨hv, nm_r e1 ⟨hw, br_t zk1 ⟨hv, br_t zr1 ⟨rfl, cs_rel _ h⟩⟩⟩⟩))
        · have zr1 : ¬ fr (nI j).toNatClampNeg &&& 4 = 0 := by rw [cj]; exact zr
          refine xs_ref_ok (post := _) h hj hp e zk zr (br_t rfl ⟨hv, hv, ?_⟩)
          rw [e1]
          exact cs_from h v2 (fr (nI j).toNatClampNeg) (nI j) hp (fun post => wpY_openAt post (nI M, nI F, cp, pa, nI pl, kd, pr, nm, ll, la, ly, fn, fr, fo, pt, py) (nI j) v2) (fun post K => br_f g (ys_open (post := _) h hj hp e (br_f cs_10 ⟨hv, nm_r e1 ⟨hw, br_t zk1 ⟨hv, br_f zr1 ⟨hv, nm_e K⟩⟩⟩⟩)))
      · have zk1 : ¬ kd (nI p).toNatClampNeg = 1 := by rw [cpp]; exact zk
        refine xs_ref_nodir (post := _) h hj hp e zk (br_f (by decide) ?_)
        exact br_f g (ys_open (post := _) h hj hp e (br_f cs_10 ⟨hv, nm_r e1 ⟨hw, br_f zk1 ⟨rfl, cs_rel _ h⟩⟩⟩))
    · refine xs_ref_shut (post := _) h hc (br_f (by decide) ?_)
      exact br_f g (ys_shut (post := _) h hc (br_t rfl ⟨rfl, cs_rel _ h⟩))
