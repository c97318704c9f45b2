section
variable {M F pl : Nat} {pa cp ps wn wd wh : Int32} {kd pr nm ll la lx ly fn fr fo pt pd py : Nat → Int32}
theorem xs_copy {post : SX → Prop} {n : Nat} (hn : n < 32) (hpl : pl ≤ 4) (k : post (nI M, nI F, nI pl, pa, cp, ps, wn, wd, wh, kd, pr, nm, upd ll n (nI pl), upd la n (vp_nar .boolean pa), cs_cp lx (n * 4) pl pt, fn, fr, fo, pt, pd)) : wpX_copyPathToLink post (nI M, nI F, nI pl, pa, cp, ps, wn, wd, wh, kd, pr, nm, ll, la, lx, fn, fr, fo, pt, pd) (nI n) := by
  have cs : (nI n).toNatClampNeg = n := nI_clamp (by omega)
  have hv : vp_in (nI n) 32 := vp_in_nI hn (by omega)
  have z := xs_copy1 (ll := upd ll n (nI pl)) (la := upd la n (vp_nar .boolean pa)) hn hpl k pl 0 (by omega)
  rw [cs_cp_0] at z
  exact ⟨hv, nm_r (by rw [cs]) ⟨hv, nm_r (by rw [cs]) ⟨pl + 1, z⟩⟩⟩
theorem ys_new3 {post : Int32 → SY → Prop} {n : Nat} {x2 x4 : Int32} (hn : n < 32) (hpl : pl ≤ 4)
    (k : post (nI n) (nI M, nI F, cp, pa, nI pl, upd kd n 3, upd pr n x4, upd nm n x2, upd (upd ll n 0) n (nI pl), upd (upd la n (vp_nar .boolean 0)) n (vp_nar .boolean pa), cs_cp ly (n * 4) pl pt, fn, fr, fo, pt, py)) : wY_create_116 post x2 3 x4 (nI M) (nI F) cp pa (nI pl) kd pr nm ll la ly fn fr fo pt py (0 + 1) (nI n) (nI 0) := by
  have cs : (nI n).toNatClampNeg = n := nI_clamp (by omega)
  have hv : vp_in (nI n) 32 := vp_in_nI hn (by omega)
  have z := ys_copy1 (kd := upd kd n 3) (pr := upd pr n x4) (nm := upd nm n x2) (ll := upd ll n 0) (la := upd (upd la n (vp_nar .boolean 0)) n (vp_nar .boolean pa)) hn hpl k pl 0 (by omega)
  rw [cs_cp_0] at z
  exact br_t (nI_lt (a := 0) (b := 1) (by omega) (by omega)) (br_t (nI_pos' (by omega)) ⟨hv, nm_r (by rw [cs]) ⟨hv, nm_r (by rw [cs]) ⟨hv, nm_r (by rw [cs]) ⟨hv, nm_r (by rw [cs]) ⟨hv, nm_r (by rw [cs]) (br_t rfl ⟨hv, nm_r (by rw [cs]) ⟨pl + 1, z⟩⟩)⟩⟩⟩⟩⟩)
theorem ys_newo {post : Int32 → SY → Prop} {n : Nat} {x2 x3 x4 : Int32} (hn : n < 32) (hk : ¬ x3 = 3)
    (k : post (nI n) (nI M, nI F, cp, pa, nI pl, upd kd n x3, upd pr n x4, upd nm n x2, upd ll n 0, upd la n (vp_nar .boolean 0), ly, fn, fr, fo, pt, py)) : wY_create_116 post x2 x3 x4 (nI M) (nI F) cp pa (nI pl) kd pr nm ll la ly fn fr fo pt py (0 + 1) (nI n) (nI 0) := by
  have cs : (nI n).toNatClampNeg = n := nI_clamp (by omega)
  have hv : vp_in (nI n) 32 := vp_in_nI hn (by omega)
  exact br_t (nI_lt (a := 0) (b := 1) (by omega) (by omega)) (br_t (nI_pos' (by omega)) ⟨hv, nm_r (by rw [cs]) ⟨hv, nm_r (by rw [cs]) ⟨hv, nm_r (by rw [cs]) ⟨hv, nm_r (by rw [cs]) ⟨hv, nm_r (by rw [cs]) (br_f hk k)⟩⟩⟩⟩⟩)
/-- create behind all its checks -/
theorem cs_make {k j p : Nat} {v2 v3 : Int32} (h : cs_Inv M F pl kd pr ll lx ly fn) (hj : j < F) (hp : p < M) (e : fn j = nI p) (zk : kd p = 1) (hkk : v3 = 1 ∨ v3 = 2 ∨ v3 = 3) (h4 : v3 = 3 → pl ≤ 4)
    (hX : ∀ post : Int32 → SX → Prop, wX_create_50 post (nI j) v2 v3 (nI M) (nI F) (nI pl) pa cp ps wn wd wh kd pr nm ll la lx fn fr fo pt pd → wpX_create post (nI M, nI F, nI pl, pa, cp, ps, wn, wd, wh, kd, pr, nm, ll, la, lx, fn, fr, fo, pt, pd) (nI j) v2 v3)
    (hY : ∀ post : Int32 → SY → Prop, wY_create_92 post v2 v3 (nI p) (nI M) (nI F) cp pa (nI pl) kd pr nm ll la ly fn fr fo pt py → wpY_create post (nI M, nI F, cp, pa, nI pl, kd, pr, nm, ll, la, ly, fn, fr, fo, pt, py) (nI j) v2 v3) :
    wpX_create (fun r u' => wpY_create (fun r' v' => r' = r ∧ i_Rel (k + 5) u' v') (nI M, nI F, cp, pa, nI pl, kd, pr, nm, ll, la, ly, fn, fr, fo, pt, py) (nI j) v2 v3) (nI M, nI F, nI pl, pa, cp, ps, wn, wd, wh, kd, pr, nm, ll, la, lx, fn, fr, fo, pt, pd) (nI j) v2 v3 := by
  have hM := cs_iM h
  have hF := cs_iF h
  have hv : vp_in (nI j) 16 := vp_in_nI (by omega) (by omega)
  have e1 : fn (nI j).toNatClampNeg = nI p := by rw [nI_clamp (by omega), e]
  obtain ⟨r, hr, cX, cY⟩ := cs_child (pa := pa) (cp := cp) (ps := ps) (wn := wn) (wd := wd) (wh := wh) (nm := nm) (la := la) (fr := fr) (fo := fo) (pt := pt) (pd := pd) (py := py) h (nI p) v2
  refine hX _ ⟨hv, nm_r e1 (cX _ ?_)⟩
  rcases hr with rfl | ⟨n, hn1, hn, rfl, _⟩
  · refine br_t rfl ?_
    have eM : nI M - 1 = nI (M - 1) := pk_sub (b := 1) (by omega)
    by_cases hfree : ∃ s, 1 ≤ s ∧ s < M ∧ kd s = 0
    · obtain ⟨s, ⟨hs1, hs, zs⟩, hl⟩ := pk_least (fun s => 1 ≤ s ∧ s < M ∧ kd s = 0) hfree
      have hz : ∀ t, 1 ≤ t → t < s → ¬ kd t = 0 := fun t h1 h2 h3 => hl t h2 ⟨h1, by omega, h3⟩
      refine xs_low1 (post := _) hM.2 hs1 hs zs hz ?_
      refine br_f (cs_nm1 (by omega)) ?_
      refine xs_setNode (post := _) (by omega) ?_
      by_cases h3 : v3 = 3
      · subst h3
        have hpl := h4 rfl
        refine br_t rfl ?_
        refine xs_copy (post := _) (by omega) hpl ?_
        refine hY _ (cY _ (br_t cs_m1lt (nm_r eM ⟨M - 1 + 1, ?_⟩)))
        refine ys_some hM.2 hs1 zs hz ?_ (M - 1) (-1) (by omega) (by omega)
        refine ys_new3 (by omega) hpl ⟨rfl, cs_rel _ ?_⟩
        refine cs_vnew (n := s) (d := p) (l := pl) (kk := 3) h hs1 hs zs hp zk (Or.inr (Or.inr rfl)) pk_us (fun q hq => pk_un hq) pk_us (fun q hq => pk_un hq) hpl pk_us (fun q hq => (pk_un hq).trans (pk_un hq)) (fun i hi => ?_) (fun q i hq hi => cs_cp_out (by omega)) (fun q i hq hi => cs_cp_out (by omega))
        rw [cs_cp_in hi, cs_cp_in hi]
      · refine br_f h3 ?_
        refine hY _ (cY _ (br_t cs_m1lt (nm_r eM ⟨M - 1 + 1, ?_⟩)))
        refine ys_some hM.2 hs1 zs hz ?_ (M - 1) (-1) (by omega) (by omega)
        refine ys_newo (by omega) h3 ⟨rfl, cs_rel _ ?_⟩
        exact cs_vnew (n := s) (d := p) (l := 0) (kk := v3) h hs1 hs zs hp zk hkk pk_us (fun q hq => pk_un hq) pk_us (fun q hq => pk_un hq) (by omega) pk_us (fun q hq => pk_un hq) (fun i hi => absurd hi (Nat.not_lt_zero _)) (fun q i hq hi => rfl) (fun q i hq hi => rfl)
    · have hz : ∀ t, 1 ≤ t → t < M → ¬ kd t = 0 := fun t h1 h2 h3 => hfree ⟨t, h1, h2, h3⟩
      refine xs_low0 (post := _) (by omega) hM.2 hz (br_t rfl ?_)
      refine hY _ (cY _ (br_t cs_m1lt (nm_r eM ⟨M - 1 + 1, ?_⟩)))
      refine ys_none hM.2 ?_ (M - 1) (by omega) (fun t h1 h2 => hz t h1 (by omega))
      exact br_t (nI_lt (a := 0) (b := 1) (by omega) (by omega)) (br_f cs_m1ge ⟨rfl, cs_rel _ h⟩)
  · exact br_f (cs_nm1 (by omega)) (hY _ (cY _ (br_f (nI_pos (by omega)) ⟨rfl, cs_rel _ h⟩)))
end
theorem i_vc_create {k : Nat} {u : SX} {v : SY} (I : i_Rel k u v) (hk : k + 5 ≤ 2562) (v1 : Int32) (v2 : Int32) (v3 : Int32) : wpX_create (fun r u' => wpY_create (fun r' v' => r' = r ∧ i_Rel (k + 5) u' v') v v1 v2 v3) u v1 v2 v3 := by
  obtain ⟨M, F, pl, pa, cp, ps, wn, wd, wh, kd, pr, nm, ll, la, lx, ly, fn, fr, fo, pt, pd, py, rfl, rfl, h⟩ := I
  have hM := cs_iM h
  have hF := cs_iF h
  have hpl8 := cs_ipl h
  by_cases hkk : v3 = 1 ∨ v3 = 2 ∨ v3 = 3
  · by_cases n1 : v2 < 1
    · unfold wpX_create
      exact xs_kd1 (post := _) hkk (br_f cs_10 (xs_nm0 (post := _) (Or.inl n1) (br_t rfl (ys_kd1 hkk (br_t n1 ⟨rfl, cs_rel _ h⟩)))))
    by_cases n2 : 15 < v2
    · have n3 : ¬ v2 ≤ 15 := Int32.not_le.mpr n2
      unfold wpX_create
      exact xs_kd1 (post := _) hkk (br_f cs_10 (xs_nm0 (post := _) (Or.inr n2) (br_t rfl (ys_kd1 hkk (br_f n1 (br_f n3 ⟨rfl, cs_rel _ h⟩))))))
    have n3 : v2 ≤ 15 := Int32.not_lt.mp n2
    rcases cs_ofd h v1 with ⟨j, p, hj, hp, rfl, e⟩ | hc
    · have hv : vp_in (nI j) 16 := vp_in_nI (by omega) (by omega)
      have hw : vp_in (nI p) 32 := vp_in_nI (by omega) (by omega)
      have cj : (nI j).toNatClampNeg = j := nI_clamp (by omega)
      have cpp : (nI p).toNatClampNeg = p := nI_clamp (by omega)
      have e1 : fn (nI j).toNatClampNeg = nI p := by rw [cj, e]
      by_cases zk : kd p = 1
      · have zk1 : kd (nI p).toNatClampNeg = 1 := by rw [cpp, zk]
        by_cases zr : fr j &&& 8 = 0
        · have zr1 : fr (nI j).toNatClampNeg &&& 8 = 0 := by rw [cj]; exact zr
          unfold wpX_create
          refine xs_kd1 (post := _) hkk (br_f cs_10 (xs_nm1 (post := _) n1 n2 (br_f cs_10 ?_)))
          refine xs_ref_nocap (post := _) h hj hp e zk zr (br_f (by decide) ?_)
          exact ys_kd1 hkk (br_f n1 (br_t n3 (ys_open (post := _) h hj hp e (br_f cs_10 ⟨hv, nm_r e1 ⟨hw, br_t zk1 ⟨hv, br_t zr1 ⟨rfl, cs_rel _ h⟩⟩⟩⟩))))
        · have zr1 : ¬ fr (nI j).toNatClampNeg &&& 8 = 0 := by rw [cj]; exact zr
          by_cases h3 : v3 = 3
          · by_cases h4 : pl ≤ 4
            · have g4 : nI pl ≤ 4 := nI_le (b := 4) h4 (by omega)
              refine cs_make h hj hp e zk hkk (fun _ => h4) (fun post K => ?_) (fun post K => ?_)
              · unfold wpX_create
                refine xs_kd1 (post := _) hkk (br_f cs_10 (xs_nm1 (post := _) n1 n2 (br_f cs_10 ?_)))
                exact xs_ref_ok (post := _) h hj hp e zk zr (br_t rfl (br_t h3 (br_t g4 K)))
              · exact ys_kd1 hkk (br_f n1 (br_t n3 (ys_open (post := _) h hj hp e (br_f cs_10 ⟨hv, nm_r e1 ⟨hw, br_t zk1 ⟨hv, br_f zr1 (br_t h3 (br_t g4 K))⟩⟩⟩))))
            · have g4 : ¬ nI pl ≤ 4 := nI_ge (a := 4) (by omega) (by omega)
              unfold wpX_create
              refine xs_kd1 (post := _) hkk (br_f cs_10 (xs_nm1 (post := _) n1 n2 (br_f cs_10 ?_)))
              refine xs_ref_ok (post := _) h hj hp e zk zr (br_t rfl (br_t h3 (br_f g4 ?_)))
              exact ys_kd1 hkk (br_f n1 (br_t n3 (ys_open (post := _) h hj hp e (br_f cs_10 ⟨hv, nm_r e1 ⟨hw, br_t zk1 ⟨hv, br_f zr1 (br_t h3 (br_f g4 ⟨rfl, cs_rel _ h⟩))⟩⟩⟩))))
          · refine cs_make h hj hp e zk hkk (fun z => absurd z h3) (fun post K => ?_) (fun post K => ?_)
            · unfold wpX_create
              refine xs_kd1 (post := _) hkk (br_f cs_10 (xs_nm1 (post := _) n1 n2 (br_f cs_10 ?_)))
              exact xs_ref_ok (post := _) h hj hp e zk zr (br_t rfl (br_f h3 K))
            · exact ys_kd1 hkk (br_f n1 (br_t n3 (ys_open (post := _) h hj hp e (br_f cs_10 ⟨hv, nm_r e1 ⟨hw, br_t zk1 ⟨hv, br_f zr1 (br_f h3 K)⟩⟩⟩))))
      · have zk1 : ¬ kd (nI p).toNatClampNeg = 1 := by rw [cpp]; exact zk
        unfold wpX_create
        refine xs_kd1 (post := _) hkk (br_f cs_10 (xs_nm1 (post := _) n1 n2 (br_f cs_10 ?_)))
        refine xs_ref_nodir (post := _) h hj hp e zk (br_f (by decide) ?_)
        exact ys_kd1 hkk (br_f n1 (br_t n3 (ys_open (post := _) h hj hp e (br_f cs_10 ⟨hv, nm_r e1 ⟨hw, br_f zk1 ⟨rfl, cs_rel _ h⟩⟩⟩))))
    · unfold wpX_create
      refine xs_kd1 (post := _) hkk (br_f cs_10 (xs_nm1 (post := _) n1 n2 (br_f cs_10 ?_)))
      refine xs_ref_shut (post := _) h hc (br_f (by decide) ?_)
      exact ys_kd1 hkk (br_f n1 (br_t n3 (ys_shut (post := _) h hc (br_t rfl ⟨rfl, cs_rel _ h⟩))))
  · have k1 : ¬ v3 = 1 := fun z => hkk (Or.inl z)
    have k2 : ¬ v3 = 2 := fun z => hkk (Or.inr (Or.inl z))
    have k3 : ¬ v3 = 3 := fun z => hkk (Or.inr (Or.inr z))
    unfold wpX_create wpX_isCreatableKind
    exact br_f k1 (br_f k2 (br_f k3 (br_t rfl (br_f k1 (br_f k2 (br_f k3 ⟨rfl, cs_rel _ h⟩))))))
theorem i_vc_rename {k : Nat} {u : SX} {v : SY} (I : i_Rel k u v) (hk : k + 5 ≤ 2562) (v1 : Int32) (v2 : Int32) (v3 : Int32) (v4 : Int32) : wpX_rename (fun r u' => wpY_rename (fun r' v' => r' = r ∧ i_Rel (k + 5) u' v') v v1 v2 v3 v4) u v1 v2 v3 v4 := by
  obtain ⟨M, F, pl, pa, cp, ps, wn, wd, wh, kd, pr, nm, ll, la, lx, ly, fn, fr, fo, pt, pd, py, rfl, rfl, h⟩ := I
  have hM := cs_iM h
  have hF := cs_iF h
  unfold wpX_rename
  by_cases a1 : v2 < 1
  · exact xs_nm0 (post := _) (Or.inl a1) (br_t rfl (br_t a1 ⟨rfl, cs_rel _ h⟩))
  by_cases a2 : 15 < v2
  · exact xs_nm0 (post := _) (Or.inr a2) (br_t rfl (br_f a1 (br_t a2 ⟨rfl, cs_rel _ h⟩)))
  refine xs_nm1 (post := _) a1 a2 (br_f cs_10 ?_)
  by_cases b1 : v4 < 1
  · exact xs_nm0 (post := _) (Or.inl b1) (br_t rfl (br_f a1 (br_f a2 (br_t b1 ⟨rfl, cs_rel _ h⟩))))
  by_cases b2 : 15 < v4
  · have b3 : ¬ v4 ≤ 15 := Int32.not_le.mpr b2
    exact xs_nm0 (post := _) (Or.inr b2) (br_t rfl (br_f a1 (br_f a2 (br_f b1 (br_f b3 ⟨rfl, cs_rel _ h⟩)))))
  have b3 : v4 ≤ 15 := Int32.not_lt.mp b2
  refine xs_nm1 (post := _) b1 b2 (br_f cs_10 ?_)
  rcases cs_ofd h v1 with ⟨i, p, hi, hp, rfl, e⟩ | hc
  · rcases cs_ofd h v3 with ⟨j, t, hj, ht, rfl, f⟩ | hc
    · have hvi : vp_in (nI i) 16 := vp_in_nI (by omega) (by omega)
      have hvj : vp_in (nI j) 16 := vp_in_nI (by omega) (by omega)
      have hwp : vp_in (nI p) 32 := vp_in_nI (by omega) (by omega)
      have hwt : vp_in (nI t) 32 := vp_in_nI (by omega) (by omega)
      have ci : (nI i).toNatClampNeg = i := nI_clamp (by omega)
      have cj : (nI j).toNatClampNeg = j := nI_clamp (by omega)
      have cpp : (nI p).toNatClampNeg = p := nI_clamp (by omega)
      have ct : (nI t).toNatClampNeg = t := nI_clamp (by omega)
      have e1 : fn (nI i).toNatClampNeg = nI p := by rw [ci, e]
      have f1 : fn (nI j).toNatClampNeg = nI t := by rw [cj, f]
      refine xs_open (post := _) h hi hp e (br_f cs_10 ?_)
      refine xs_open (post := _) h hj ht f (br_f cs_10 ?_)
      by_cases zp : kd p = 1
      · have zp1 : kd (nI p).toNatClampNeg = 1 := by rw [cpp, zp]
        refine xs_isdir (post := _) h hi hp e zp (br_f cs_10 ?_)
        by_cases zt : kd t = 1
        · have zt1 : kd (nI t).toNatClampNeg = 1 := by rw [ct, zt]
          refine xs_isdir (post := _) h hj ht f zt (br_f cs_10 ?_)
          by_cases ri : fr i &&& 16 = 0
          · have ri1 : fr (nI i).toNatClampNeg &&& 16 = 0 := by rw [ci]; exact ri
            refine xs_noright (post := _) h hi ri (br_t rfl ?_)
            exact br_f a1 (br_f a2 (br_f b1 (br_t b3 (ys_open (post := _) h hi hp e (br_f cs_10 (ys_open (post := _) h hj ht f (br_f cs_10 ⟨hvi, nm_r e1 ⟨hvj, nm_r f1 ⟨hwp, br_t zp1 ⟨hwt, br_t zt1 ⟨hvi, br_t ri1 ⟨rfl, cs_rel _ h⟩⟩⟩⟩⟩⟩)))))))
          have ri1 : ¬ fr (nI i).toNatClampNeg &&& 16 = 0 := by rw [ci]; exact ri
          refine xs_right (post := _) h hi ri (br_f cs_10 ?_)
          by_cases rj : fr j &&& 16 = 0
          · have rj1 : fr (nI j).toNatClampNeg &&& 16 = 0 := by rw [cj]; exact rj
            refine xs_noright (post := _) h hj rj (br_t rfl ?_)
            exact br_f a1 (br_f a2 (br_f b1 (br_t b3 (ys_open (post := _) h hi hp e (br_f cs_10 (ys_open (post := _) h hj ht f (br_f cs_10 ⟨hvi, nm_r e1 ⟨hvj, nm_r f1 ⟨hwp, br_t zp1 ⟨hwt, br_t zt1 ⟨hvi, br_f ri1 ⟨hvj, br_t rj1 ⟨rfl, cs_rel _ h⟩⟩⟩⟩⟩⟩⟩)))))))
          have rj1 : ¬ fr (nI j).toNatClampNeg &&& 16 = 0 := by rw [cj]; exact rj
          refine xs_right (post := _) h hj rj (br_f cs_10 ?_)
          obtain ⟨r, hr, cX, cY⟩ := cs_child (pa := pa) (cp := cp) (ps := ps) (wn := wn) (wd := wd) (wh := wh) (nm := nm) (la := la) (fr := fr) (fo := fo) (pt := pt) (pd := pd) (py := py) h (nI p) v2
          obtain ⟨r2, hr2, dX, dY⟩ := cs_child (pa := pa) (cp := cp) (ps := ps) (wn := wn) (wd := wd) (wh := wh) (nm := nm) (la := la) (fr := fr) (fo := fo) (pt := pt) (pd := pd) (py := py) h (nI t) v4
          have hY : ∀ post : Int32 → SY → Prop, (wpY_findChild (fun r_53 => (((0 ≤ r_53 → (wpY_findChild (fun r_71 => (((r_71 < 0 → (vp_in r_53 32 ∧ ((((kd r_53.toNatClampNeg) = 1 → (∃ n170 : Nat, wY_rename_170 post v4 (nI t) r_53 (nI M) (nI F) cp pa (nI pl) kd pr nm ll la ly fn fr fo pt py n170 (nI t) 0)) ∧ (¬ (kd r_53.toNatClampNeg) = 1 → (wY_rename_210 post v4 (nI t) r_53 (nI M) (nI F) cp pa (nI pl) kd pr nm ll la ly fn fr fo pt py)))))) ∧ (¬ r_71 < 0 → (post (-6) (nI M, nI F, cp, pa, nI pl, kd, pr, nm, ll, la, ly, fn, fr, fo, pt, py)))))) (nI M, nI F, cp, pa, nI pl, kd, pr, nm, ll, la, ly, fn, fr, fo, pt, py) (nI t) v4)) ∧ (¬ 0 ≤ r_53 → (post (-5) (nI M, nI F, cp, pa, nI pl, kd, pr, nm, ll, la, ly, fn, fr, fo, pt, py)))))) (nI M, nI F, cp, pa, nI pl, kd, pr, nm, ll, la, ly, fn, fr, fo, pt, py) (nI p) v2) → wpY_rename post (nI M, nI F, cp, pa, nI pl, kd, pr, nm, ll, la, ly, fn, fr, fo, pt, py) (nI i) v2 (nI j) v4 := by
            intro post K
            exact br_f a1 (br_f a2 (br_f b1 (br_t b3 (ys_open (post := _) h hi hp e (br_f cs_10 (ys_open (post := _) h hj ht f (br_f cs_10 ⟨hvi, nm_r e1 ⟨hvj, nm_r f1 ⟨hwp, br_t zp1 ⟨hwt, br_t zt1 ⟨hvi, br_f ri1 ⟨hvj, br_f rj1 K⟩⟩⟩⟩⟩⟩)))))))
          have cX' := cX
          rw [← e1] at cX'
          refine ⟨hvi, cX' _ ?_⟩
          rcases hr with rfl | ⟨m, hm1, hm, rfl, zf, zpp, zn⟩
          · exact br_t rfl (hY _ (cY _ (br_f cs_m1ge ⟨rfl, cs_rel _ h⟩)))
          have cm : (nI m).toNatClampNeg = m := nI_clamp (by omega)
          have hvm : vp_in (nI m) 32 := vp_in_nI (by omega) (by omega)
          have ge : (0 : Int32) ≤ nI m := nI_pos' (by omega)
          refine br_f (cs_nm1 (by omega)) ⟨hvj, nm_r f1 (dX _ ?_)⟩
          rcases hr2 with rfl | ⟨m2, hm21, hm2, rfl, _⟩
          · refine br_t rfl ⟨hvm, ?_⟩
            have V := cs_vmov h hm1 ht zt
            by_cases zm : kd (nI m).toNatClampNeg = 1
            · refine br_t zm ?_
              by_cases hit : ∃ s, cs_ch pr t s = m
              · obtain ⟨s, hs, es⟩ := cs_ch_hit hM.2 ht (cs_ipr h) hit
                refine xs_below1 (post := _) hM.2 ht hm (cs_ipr h) hs es (br_f cs_10 ?_)
                refine hY _ (cY _ (br_t ge (dY _ (br_t cs_m1lt ⟨hvm, br_t zm ⟨s + 1, ?_⟩⟩))))
                exact ys_anc1 hM.2 ht hm1 hm (cs_ip0 h) (cs_ipr h) hs es ⟨rfl, cs_rel _ h⟩ s 0 (by omega)
              · have hn : ∀ s, ¬ cs_ch pr t s = m := fun s es => hit ⟨s, es⟩
                refine xs_below0 (post := _) hM.2 ht hm (cs_ipr h) hn (br_t rfl ?_)
                refine ⟨hvm, nm_r (by rw [cm]) ⟨hvm, nm_r (by rw [cm]) ?_⟩⟩
                refine hY _ (cY _ (br_t ge (dY _ (br_t cs_m1lt ⟨hvm, br_t zm ⟨33 + 1, ?_⟩⟩))))
                exact ys_anc0 hM.2 ht hm (cs_ipr h) hn ⟨hvm, nm_r (by rw [cm]) ⟨hvm, nm_r (by rw [cm]) ⟨rfl, cs_rel _ V⟩⟩⟩ 33 0 (by omega)
            · refine br_f zm ?_
              refine ⟨hvm, nm_r (by rw [cm]) ⟨hvm, nm_r (by rw [cm]) ?_⟩⟩
              refine hY _ (cY _ (br_t ge (dY _ (br_t cs_m1lt ⟨hvm, br_f zm ?_⟩))))
              exact ⟨hvm, nm_r (by rw [cm]) ⟨hvm, nm_r (by rw [cm]) ⟨rfl, cs_rel _ V⟩⟩⟩
          · refine br_f (cs_nm1 (by omega)) ?_
            exact hY _ (cY _ (br_t ge (dY _ (br_f (nI_pos (by omega)) ⟨rfl, cs_rel _ h⟩))))
        · have zt1 : ¬ kd (nI t).toNatClampNeg = 1 := by rw [ct]; exact zt
          refine xs_nodir (post := _) h hj ht f zt (br_t rfl ?_)
          exact br_f a1 (br_f a2 (br_f b1 (br_t b3 (ys_open (post := _) h hi hp e (br_f cs_10 (ys_open (post := _) h hj ht f (br_f cs_10 ⟨hvi, nm_r e1 ⟨hvj, nm_r f1 ⟨hwp, br_t zp1 ⟨hwt, br_f zt1 ⟨rfl, cs_rel _ h⟩⟩⟩⟩⟩)))))))
      · have zp1 : ¬ kd (nI p).toNatClampNeg = 1 := by rw [cpp]; exact zp
        refine xs_nodir (post := _) h hi hp e zp (br_t rfl ?_)
        exact br_f a1 (br_f a2 (br_f b1 (br_t b3 (ys_open (post := _) h hi hp e (br_f cs_10 (ys_open (post := _) h hj ht f (br_f cs_10 ⟨hvi, nm_r e1 ⟨hvj, nm_r f1 ⟨hwp, br_f zp1 ⟨rfl, cs_rel _ h⟩⟩⟩⟩)))))))
    · refine xs_open (post := _) h hi hp e (br_f cs_10 ?_)
      refine xs_shut (post := _) h hc (br_t rfl ?_)
      exact br_f a1 (br_f a2 (br_f b1 (br_t b3 (ys_open (post := _) h hi hp e (br_f cs_10 (ys_shut (post := _) h hc (br_t rfl ⟨rfl, cs_rel _ h⟩)))))))
  · refine xs_shut (post := _) h hc (br_t rfl ?_)
    exact br_f a1 (br_f a2 (br_f b1 (br_t b3 (ys_shut (post := _) h hc (br_t rfl ⟨rfl, cs_rel _ h⟩)))))
