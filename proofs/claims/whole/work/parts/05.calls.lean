section
variable {M F pl : Nat} {pa cp ps wn wd wh : Int32} {kd pr nm ll la lx ly fn fr fo pt pd py : Nat → Int32}
theorem xs_setSlot {post : SX → Prop} {s : Nat} {a b c : Int32} (hs : s < 16) (k : post (nI M, nI F, nI pl, pa, cp, ps, wn, wd, wh, kd, pr, nm, ll, la, lx, upd fn s a, upd fr s b, upd fo s c, pt, pd)) : wpX_setSlot post (nI M, nI F, nI pl, pa, cp, ps, wn, wd, wh, kd, pr, nm, ll, la, lx, fn, fr, fo, pt, pd) (nI s) a b c := by
  have cs : (nI s).toNatClampNeg = s := nI_clamp (by omega)
  have hv : vp_in (nI s) 16 := vp_in_nI hs (by omega)
  exact ⟨hv, nm_r (by rw [cs]) ⟨hv, nm_r (by rw [cs]) ⟨hv, nm_r (by rw [cs]) k⟩⟩⟩
theorem xs_oslot0 {post : Int32 → SX → Prop} {a b c : Int32} (hX : ∀ post : Int32 → Prop, post (-1) → wpX_lowestClosedSlot post (nI M, nI F, nI pl, pa, cp, ps, wn, wd, wh, kd, pr, nm, ll, la, lx, fn, fr, fo, pt, pd)) (k : post (-9) (nI M, nI F, nI pl, pa, cp, ps, wn, wd, wh, kd, pr, nm, ll, la, lx, fn, fr, fo, pt, pd)) : wpX_openSlot post (nI M, nI F, nI pl, pa, cp, ps, wn, wd, wh, kd, pr, nm, ll, la, lx, fn, fr, fo, pt, pd) a b c := by
  unfold wpX_openSlot
  exact hX _ (br_t rfl k)
theorem xs_oslot1 {post : Int32 → SX → Prop} {s : Nat} {a b c : Int32} (hs : s < 16) (hX : ∀ post : Int32 → Prop, post (nI s) → wpX_lowestClosedSlot post (nI M, nI F, nI pl, pa, cp, ps, wn, wd, wh, kd, pr, nm, ll, la, lx, fn, fr, fo, pt, pd)) (k : post (nI s) (nI M, nI F, nI pl, pa, cp, ps, wn, wd, wh, kd, pr, nm, ll, la, lx, upd fn s a, upd fr s b, upd fo s c, pt, pd)) : wpX_openSlot post (nI M, nI F, nI pl, pa, cp, ps, wn, wd, wh, kd, pr, nm, ll, la, lx, fn, fr, fo, pt, pd) a b c := by
  unfold wpX_openSlot
  exact hX _ (br_f (cs_nm1 (by omega)) (xs_setSlot (post := _) hs k))
end
theorem i_vc_pathPush {k : Nat} {u : SX} {v : SY} (I : i_Rel k u v) (hk : k + 5 ≤ 2562) (v1 : Int32) : wpX_pathPush (fun r u' => wpY_pathPush (fun r' v' => r' = r ∧ i_Rel (k + 5) u' v') v v1) u v1 := by
  obtain ⟨M, F, pl, pa, cp, ps, wn, wd, wh, kd, pr, nm, ll, la, lx, ly, fn, fr, fo, pt, pd, py, rfl, rfl, h⟩ := I
  have hpl := cs_ipl h
  by_cases c0 : v1 < 0
  · exact br_t c0 (br_t c0 ⟨rfl, cs_rel _ h⟩)
  · by_cases c1 : v1 ≤ 16
    · by_cases c2 : pl < 8
      · have e : nI pl < 8 := nI_lt (b := 8) c2 (by decide)
        have hv : vp_in (nI pl) 8 := vp_in_nI c2 (by omega)
        refine br_f c0 (br_t c1 (br_t e ⟨hv, nm_e (nm_r (nI_1 pl) ?_)⟩))
        refine br_f c0 (br_t c1 (br_t e ⟨hv, nm_e (nm_r (nI_1 pl) ?_)⟩))
        exact ⟨rfl, cs_rel _ (cs_vpl h (by omega))⟩
      · have e : ¬ nI pl < 8 := nI_nlt (b := 8) (by omega) (by omega)
        exact br_f c0 (br_t c1 (br_f e (br_f c0 (br_t c1 (br_f e ⟨rfl, cs_rel _ h⟩)))))
    · exact br_f c0 (br_f c1 (br_f c0 (br_f c1 ⟨rfl, cs_rel _ h⟩)))
theorem i_vc_enterCapMode {k : Nat} {u : SX} {v : SY} (I : i_Rel k u v) (hk : k + 5 ≤ 2562) : wpX_enterCapMode (fun u' => wpY_enterCapMode (fun v' => i_Rel (k + 5) u' v') v) u := by
  obtain ⟨M, F, pl, pa, cp, ps, wn, wd, wh, kd, pr, nm, ll, la, lx, ly, fn, fr, fo, pt, pd, py, rfl, rfl, h⟩ := I
  unfold wpX_enterCapMode wpY_enterCapMode
  exact cs_rel (k + 5) h
theorem i_vc_derive {k : Nat} {u : SX} {v : SY} (I : i_Rel k u v) (hk : k + 5 ≤ 2562) (v1 : Int32) (v2 : Int32) : wpX_derive (fun r u' => wpY_derive (fun r' v' => r' = r ∧ i_Rel (k + 5) u' v') v v1 v2) u v1 v2 := by
  obtain ⟨M, F, pl, pa, cp, ps, wn, wd, wh, kd, pr, nm, ll, la, lx, ly, fn, fr, fo, pt, pd, py, rfl, rfl, h⟩ := I
  have hM := cs_iM h
  have hF := cs_iF h
  unfold wpX_derive wpY_derive
  rcases cs_ofd h v1 with ⟨j, p, hj, hp, rfl, e⟩ | hc
  · have hv : vp_in (nI j) 16 := vp_in_nI (by omega) (by omega)
    have e1 : fn (nI j).toNatClampNeg = nI p := by rw [nI_clamp (by omega), e]
    obtain ⟨r, hr, sX, sY⟩ := cs_slot (pa := pa) (cp := cp) (ps := ps) (wn := wn) (wd := wd) (wh := wh) (nm := nm) (la := la) (fr := fr) (fo := fo) (pt := pt) (pd := pd) (py := py) h
    rcases hr with rfl | ⟨s, hs, rfl, z⟩
    · refine xs_open (post := _) h hj hp e (br_f cs_10 ⟨hv, hv, xs_oslot0 (post := _) sX ?_⟩)
      exact ys_open (post := _) h hj hp e (br_f cs_10 (sY _ (br_f cs_m1ge ⟨rfl, cs_rel _ h⟩)))
    · have hw : vp_in (nI s) 16 := vp_in_nI (by omega) (by omega)
      have es : (nI s).toNatClampNeg = s := nI_clamp (by omega)
      refine xs_open (post := _) h hj hp e (br_f cs_10 ⟨hv, hv, xs_oslot1 (post := _) (by omega) sX ?_⟩)
      refine ys_open (post := _) h hj hp e (br_f cs_10 (sY _ (br_t (nI_pos' (by omega)) ⟨hv, hw, nm_r (by rw [es]) ⟨hv, hw, nm_r (by rw [es]) ⟨hw, nm_r (by rw [es]) ?_⟩⟩⟩)))
      exact ⟨rfl, cs_rel _ (cs_vfn h (Or.inr ⟨p, hp, e1⟩))⟩
  · exact xs_shut (post := _) h hc (br_t rfl (ys_shut (post := _) h hc (br_t rfl ⟨rfl, cs_rel _ h⟩)))
theorem i_vc_limit {k : Nat} {u : SX} {v : SY} (I : i_Rel k u v) (hk : k + 5 ≤ 2562) (v1 : Int32) (v2 : Int32) : wpX_limit (fun r u' => wpY_limit (fun r' v' => r' = r ∧ i_Rel (k + 5) u' v') v v1 v2) u v1 v2 := by
  obtain ⟨M, F, pl, pa, cp, ps, wn, wd, wh, kd, pr, nm, ll, la, lx, ly, fn, fr, fo, pt, pd, py, rfl, rfl, h⟩ := I
  have hM := cs_iM h
  have hF := cs_iF h
  unfold wpX_limit wpY_limit
  rcases cs_ofd h v1 with ⟨j, p, hj, hp, rfl, e⟩ | hc
  · have hv : vp_in (nI j) 16 := vp_in_nI (by omega) (by omega)
    refine xs_open (post := _) h hj hp e (br_f cs_10 ⟨hv, hv, nm_e ⟨hv, ?_⟩⟩)
    exact ys_open (post := _) h hj hp e (br_f cs_10 ⟨hv, hv, nm_e ⟨hv, ⟨rfl, cs_rel _ h⟩⟩⟩)
  · exact xs_shut (post := _) h hc (br_t rfl (ys_shut (post := _) h hc (br_t rfl ⟨rfl, cs_rel _ h⟩)))
theorem i_vc_close {k : Nat} {u : SX} {v : SY} (I : i_Rel k u v) (hk : k + 5 ≤ 2562) (v1 : Int32) : wpX_close (fun r u' => wpY_close (fun r' v' => r' = r ∧ i_Rel (k + 5) u' v') v v1) u v1 := by
  obtain ⟨M, F, pl, pa, cp, ps, wn, wd, wh, kd, pr, nm, ll, la, lx, ly, fn, fr, fo, pt, pd, py, rfl, rfl, h⟩ := I
  have hM := cs_iM h
  have hF := cs_iF h
  unfold wpX_close wpY_close
  rcases cs_ofd h v1 with ⟨j, p, hj, hp, rfl, e⟩ | hc
  · have hv : vp_in (nI j) 16 := vp_in_nI (by omega) (by omega)
    have es : (nI j).toNatClampNeg = j := nI_clamp (by omega)
    refine xs_open (post := _) h hj hp e (br_f cs_10 (xs_setSlot (post := _) (by omega) ?_))
    refine ys_open (post := _) h hj hp e (br_f cs_10 ⟨hv, nm_r (by rw [es]) ⟨hv, nm_r (by rw [es]) ⟨hv, nm_r (by rw [es]) ?_⟩⟩⟩)
    exact ⟨rfl, cs_rel _ (cs_vfn h (Or.inl rfl))⟩
  · exact xs_shut (post := _) h hc (br_t rfl (ys_shut (post := _) h hc (br_t rfl ⟨rfl, cs_rel _ h⟩)))
theorem i_vc_pathReset {k : Nat} {u : SX} {v : SY} (I : i_Rel k u v) (hk : k + 5 ≤ 2562) (v1 : Int32) : wpX_pathReset (fun u' => wpY_pathReset (fun v' => i_Rel (k + 5) u' v') v (lw_bz v1)) u (lw_bz v1) := by
  obtain ⟨M, F, pl, pa, cp, ps, wn, wd, wh, kd, pr, nm, ll, la, lx, ly, fn, fr, fo, pt, pd, py, rfl, rfl, h⟩ := I
  have e1 := lw_bz_n v1
  have e2 : fits .boolean (.int (lw_bz v1)) = true := by
    rcases lw_bz_01 v1 with e | e
    · rw [e]; decide
    · rw [e]; decide
  unfold wpX_pathReset wpY_pathReset
  refine ⟨e1, e2, e1, e2, ?_⟩
  exact cs_rel (pl := 0) (k + 5) (cs_vpl h (by omega))
theorem i_vc_fdInfo {k : Nat} {u : SX} {v : SY} (I : i_Rel k u v) (hk : k + 5 ≤ 2562) (v1 : Int32) (v2 : Int32) : wpX_fdInfo (fun r => wpY_fdInfo (fun r' => r' = r ∧ i_Rel (k + 5) u v) v v1 v2) u v1 v2 := by
  have J : i_Rel (k + 5) u v := I
  obtain ⟨M, F, pl, pa, cp, ps, wn, wd, wh, kd, pr, nm, ll, la, lx, ly, fn, fr, fo, pt, pd, py, rfl, rfl, h⟩ := I
  have hF := cs_iF h
  rcases pk_ix v1 (n := F) (by omega) with c0 | c1 | ⟨j, hj, rfl⟩
  · exact br_t c0 (br_t c0 ⟨rfl, J⟩)
  · by_cases c0 : v1 < 0
    · exact br_t c0 (br_t c0 ⟨rfl, J⟩)
    · have c2 : ¬ v1 < nI F := Int32.not_lt.mpr c1
      exact br_f c0 (br_f c2 (br_f c0 (br_f c2 ⟨rfl, J⟩)))
  · have hv : vp_in (nI j) 16 := vp_in_nI (by omega) (by omega)
    have c0 : ¬ nI j < 0 := nI_pos (by omega)
    have c2 : nI j < nI F := nI_lt hj (by omega)
    by_cases a0 : v2 = 0
    · subst a0
      exact br_f c0 (br_t c2 (br_f (by decide) (br_f (by decide) (br_t rfl ⟨hv, br_f c0 (br_t c2 (br_t rfl ⟨hv, rfl, J⟩))⟩))))
    by_cases a1 : v2 = 1
    · subst a1
      exact br_f c0 (br_t c2 (br_f (by decide) (br_f (by decide) (br_f (by decide) (br_t rfl ⟨hv, br_f c0 (br_t c2 (br_f (by decide) (br_t rfl ⟨hv, rfl, J⟩)))⟩)))))
    by_cases a2 : v2 = 2
    · subst a2
      exact br_f c0 (br_t c2 (br_f (by decide) (br_f (by decide) (br_f (by decide) (br_f (by decide) (br_t rfl ⟨hv, br_f c0 (br_t c2 (br_f (by decide) (br_f (by decide) (br_t rfl ⟨hv, rfl, J⟩))))⟩))))))
    exact br_f c0 (br_t c2 (br_c (fun _ => br_f c0 (br_t c2 (br_f a0 (br_f a1 (br_f a2 ⟨rfl, J⟩))))) (fun _ => br_c (fun _ => br_f c0 (br_t c2 (br_f a0 (br_f a1 (br_f a2 ⟨rfl, J⟩))))) (fun _ => br_f a0 (br_f a1 (br_f a2 trivial))))))
theorem cs_8a (a : Nat) : (8 : Int32) + nI a = nI (8 + a) := nI_add 8 a
theorem cs_8s {a : Nat} (h : 8 ≤ a) : nI a - 8 = nI (a - 8) := pk_sub (b := 8) h
theorem cs_ge8 {x : Int32} (h : ¬ x < 8) : ∃ j, 8 ≤ j ∧ j < 2 ^ 31 ∧ x = nI j := by
  have h0 : ¬ x < 0 := fun c => h (Int32.lt_trans c (by decide))
  obtain ⟨j, hj, rfl⟩ := nI_of h0
  refine ⟨j, ?_, hj, rfl⟩
  by_cases c : 8 ≤ j
  · exact c
  · exact absurd (nI_lt (b := 8) (by omega) (by omega)) h
theorem i_vc_status {k : Nat} {u : SX} {v : SY} (I : i_Rel k u v) (hk : k + 5 ≤ 2562) (v1 : Int32) : wpX_status (fun r => wpY_status (fun r' => r' = r ∧ i_Rel (k + 5) u v) v v1) u v1 := by
  have J : i_Rel (k + 5) u v := I
  obtain ⟨M, F, pl, pa, cp, ps, wn, wd, wh, kd, pr, nm, ll, la, lx, ly, fn, fr, fo, pt, pd, py, rfl, rfl, h⟩ := I
  have hM := cs_iM h
  have hF := cs_iF h
  have hpl := cs_ipl h
  by_cases a0 : v1 = 0
  · subst a0
    refine br_f (by decide) (br_f (by decide) (br_t rfl ?_))
    by_cases z : cp = 0
    · exact br_t z (br_t rfl (br_t z ⟨rfl, J⟩))
    · exact br_f z (br_t rfl (br_f z ⟨rfl, J⟩))
  by_cases a1 : v1 = 1
  · subst a1
    exact br_f (by decide) (br_f (by decide) (br_f (by decide) (br_t rfl (br_f (by decide) (br_t rfl ⟨rfl, J⟩)))))
  by_cases a2 : v1 = 2
  · subst a2
    refine br_f (by decide) (br_f (by decide) (br_f (by decide) (br_f (by decide) (br_t rfl ?_))))
    by_cases z : pa = 0
    · exact br_t z (br_f (by decide) (br_f (by decide) (br_t rfl (br_t z ⟨rfl, J⟩))))
    · exact br_f z (br_f (by decide) (br_f (by decide) (br_t rfl (br_f z ⟨rfl, J⟩))))
  by_cases a3 : v1 = 3
  · subst a3
    obtain ⟨r, hX, hY⟩ := cs_cntN (M := M) (F := F) (pl := pl) (pa := pa) (cp := cp) (ps := ps) (wn := wn) (wd := wd) (wh := wh) (kd := kd) (pr := pr) (nm := nm) (ll := ll) (la := la) (lx := lx) (ly := ly) (fn := fn) (fr := fr) (fo := fo) (pt := pt) (pd := pd) (py := py) hM.2 M 0 0 (by omega)
    refine br_f (by decide) (br_f (by decide) (br_f (by decide) (br_f (by decide) (br_f (by decide) (br_t rfl ?_)))))
    refine ⟨M + 1, hX _ ?_⟩
    exact br_f (by decide) (br_f (by decide) (br_f (by decide) (br_t rfl ⟨M + 1, hY _ ⟨rfl, J⟩⟩)))
  by_cases a4 : v1 = 4
  · subst a4
    obtain ⟨r, hX, hY⟩ := cs_cntF (M := M) (F := F) (pl := pl) (pa := pa) (cp := cp) (ps := ps) (wn := wn) (wd := wd) (wh := wh) (kd := kd) (pr := pr) (nm := nm) (ll := ll) (la := la) (lx := lx) (ly := ly) (fn := fn) (fr := fr) (fo := fo) (pt := pt) (pd := pd) (py := py) hF.2 (cs_ifn h) hM.2 F 0 0 (by omega)
    refine br_f (by decide) (br_f (by decide) (br_f (by decide) (br_f (by decide) (br_f (by decide) (br_f (by decide) (br_t rfl ?_))))))
    refine ⟨F + 1, hX _ ?_⟩
    exact br_f (by decide) (br_f (by decide) (br_f (by decide) (br_f (by decide) (br_t rfl ⟨F + 1, hY _ ⟨rfl, J⟩⟩))))
  by_cases a5 : v1 = 5
  · subst a5
    exact br_f (by decide) (br_f (by decide) (br_f (by decide) (br_f (by decide) (br_f (by decide) (br_f (by decide) (br_f (by decide) (br_t rfl (br_f (by decide) (br_f (by decide) (br_f (by decide) (br_f (by decide) (br_f (by decide) (br_t rfl ⟨rfl, J⟩)))))))))))))
  by_cases a6 : v1 = 6
  · subst a6
    exact br_f (by decide) (br_f (by decide) (br_f (by decide) (br_f (by decide) (br_f (by decide) (br_f (by decide) (br_f (by decide) (br_f (by decide) (br_t rfl (br_f (by decide) (br_f (by decide) (br_f (by decide) (br_f (by decide) (br_f (by decide) (br_f (by decide) (br_t rfl ⟨rfl, J⟩)))))))))))))))
  by_cases c8 : v1 < 8
  · have Y : wpY_status (fun r' => r' = (-10 : Int32) ∧ i_Rel (k + 5) (nI M, nI F, nI pl, pa, cp, ps, wn, wd, wh, kd, pr, nm, ll, la, lx, fn, fr, fo, pt, pd) (nI M, nI F, cp, pa, nI pl, kd, pr, nm, ll, la, ly, fn, fr, fo, pt, py)) (nI M, nI F, cp, pa, nI pl, kd, pr, nm, ll, la, ly, fn, fr, fo, pt, py) v1 :=
      br_f a0 (br_f a1 (br_f a2 (br_f a3 (br_f a4 (br_f a5 (br_f a6 (br_t c8 ⟨rfl, J⟩)))))))
    exact br_c (fun _ => br_t c8 Y) (fun _ => br_c (fun _ => br_t c8 Y) (fun _ => br_f a0 (br_f a1 (br_f a2 (br_f a3 (br_f a4 (br_f a5 (br_f a6 trivial))))))))
  · obtain ⟨j, hj8, hj, rfl⟩ := cs_ge8 c8
    by_cases cj : j < 8 + pl
    · have cx : nI j < 8 + nI pl := by rw [cs_8a]; exact nI_lt cj (by omega)
      have cy : ¬ nI pl ≤ nI j - 8 := by rw [cs_8s hj8]; exact nI_ge (by omega) (by omega)
      have hv : vp_in (nI j - 8) 8 := by rw [cs_8s hj8]; exact vp_in_nI (by omega) (by omega)
      have Y : wpY_status (fun r' => r' = pt (nI j - 8).toNatClampNeg ∧ i_Rel (k + 5) (nI M, nI F, nI pl, pa, cp, ps, wn, wd, wh, kd, pr, nm, ll, la, lx, fn, fr, fo, pt, pd) (nI M, nI F, cp, pa, nI pl, kd, pr, nm, ll, la, ly, fn, fr, fo, pt, py)) (nI M, nI F, cp, pa, nI pl, kd, pr, nm, ll, la, ly, fn, fr, fo, pt, py) (nI j) :=
        br_f a0 (br_f a1 (br_f a2 (br_f a3 (br_f a4 (br_f a5 (br_f a6 (br_f c8 (br_f cy ⟨hv, rfl, J⟩))))))))
      exact br_c (fun _ => br_f c8 (br_t cx ⟨hv, Y⟩)) (fun _ => br_c (fun _ => br_f c8 (br_t cx ⟨hv, Y⟩)) (fun _ => br_f a0 (br_f a1 (br_f a2 (br_f a3 (br_f a4 (br_f a5 (br_f a6 trivial))))))))
    · have cx : ¬ nI j < 8 + nI pl := by rw [cs_8a]; exact nI_nlt (by omega) (by omega)
      have cy : nI pl ≤ nI j - 8 := by rw [cs_8s hj8]; exact nI_le (by omega) (by omega)
      have Y : wpY_status (fun r' => r' = (-10 : Int32) ∧ i_Rel (k + 5) (nI M, nI F, nI pl, pa, cp, ps, wn, wd, wh, kd, pr, nm, ll, la, lx, fn, fr, fo, pt, pd) (nI M, nI F, cp, pa, nI pl, kd, pr, nm, ll, la, ly, fn, fr, fo, pt, py)) (nI M, nI F, cp, pa, nI pl, kd, pr, nm, ll, la, ly, fn, fr, fo, pt, py) (nI j) :=
        br_f a0 (br_f a1 (br_f a2 (br_f a3 (br_f a4 (br_f a5 (br_f a6 (br_f c8 (br_t cy ⟨rfl, J⟩))))))))
      exact br_c (fun _ => br_f c8 (br_f cx Y)) (fun _ => br_c (fun _ => br_f c8 (br_f cx Y)) (fun _ => br_f a0 (br_f a1 (br_f a2 (br_f a3 (br_f a4 (br_f a5 (br_f a6 trivial))))))))
theorem i_vc_nodeInfo {k : Nat} {u : SX} {v : SY} (I : i_Rel k u v) (hk : k + 5 ≤ 2562) (v1 : Int32) (v2 : Int32) : wpX_nodeInfo (fun r => wpY_nodeInfo (fun r' => r' = r ∧ i_Rel (k + 5) u v) v v1 v2) u v1 v2 := by
  have J : i_Rel (k + 5) u v := I
  obtain ⟨M, F, pl, pa, cp, ps, wn, wd, wh, kd, pr, nm, ll, la, lx, ly, fn, fr, fo, pt, pd, py, rfl, rfl, h⟩ := I
  have hM := cs_iM h
  rcases pk_ix v1 (n := M) (by omega) with c0 | c1 | ⟨n, hn, rfl⟩
  · exact br_t c0 (br_t c0 ⟨rfl, J⟩)
  · by_cases c0 : v1 < 0
    · exact br_t c0 (br_t c0 ⟨rfl, J⟩)
    · have c2 : ¬ v1 < nI M := Int32.not_lt.mpr c1
      exact br_f c0 (br_f c2 (br_f c0 (br_f c2 ⟨rfl, J⟩)))
  · have hv : vp_in (nI n) 32 := vp_in_nI (by omega) (by omega)
    have cn : (nI n).toNatClampNeg = n := nI_clamp (by omega)
    have c0 : ¬ nI n < 0 := nI_pos (by omega)
    have c2 : nI n < nI M := nI_lt hn (by omega)
    refine br_f c0 (br_t c2 ?_)
    by_cases a0 : v2 = 0
    · subst a0
      exact br_f (by decide) (br_f (by decide) (br_t rfl ⟨hv, br_f c0 (br_t c2 (br_t rfl ⟨hv, rfl, J⟩))⟩))
    by_cases a1 : v2 = 1
    · subst a1
      exact br_f (by decide) (br_f (by decide) (br_f (by decide) (br_t rfl ⟨hv, br_f c0 (br_t c2 (br_f (by decide) (br_t rfl ⟨hv, rfl, J⟩)))⟩)))
    by_cases a2 : v2 = 2
    · subst a2
      exact br_f (by decide) (br_f (by decide) (br_f (by decide) (br_f (by decide) (br_t rfl ⟨hv, br_f c0 (br_t c2 (br_f (by decide) (br_f (by decide) (br_t rfl ⟨hv, rfl, J⟩))))⟩))))
    by_cases a3 : v2 = 3
    · subst a3
      exact br_f (by decide) (br_f (by decide) (br_f (by decide) (br_f (by decide) (br_f (by decide) (br_t rfl ⟨hv, br_f c0 (br_t c2 (br_f (by decide) (br_f (by decide) (br_f (by decide) (br_t rfl ⟨hv, rfl, J⟩)))))⟩)))))
    by_cases a4 : v2 = 4
    · subst a4
      refine br_f (by decide) (br_f (by decide) (br_f (by decide) (br_f (by decide) (br_f (by decide) (br_f (by decide) (br_t rfl ⟨hv, ?_⟩))))))
      by_cases z : la (nI n).toNatClampNeg = 0
      · exact br_t z (br_f c0 (br_t c2 (br_f (by decide) (br_f (by decide) (br_f (by decide) (br_f (by decide) (br_t rfl ⟨hv, br_t z ⟨rfl, J⟩⟩)))))))
      · exact br_f z (br_f c0 (br_t c2 (br_f (by decide) (br_f (by decide) (br_f (by decide) (br_f (by decide) (br_t rfl ⟨hv, br_f z ⟨rfl, J⟩⟩)))))))
    by_cases c8 : v2 < 8
    · have Y : wpY_nodeInfo (fun r' => r' = (-10 : Int32) ∧ i_Rel (k + 5) (nI M, nI F, nI pl, pa, cp, ps, wn, wd, wh, kd, pr, nm, ll, la, lx, fn, fr, fo, pt, pd) (nI M, nI F, cp, pa, nI pl, kd, pr, nm, ll, la, ly, fn, fr, fo, pt, py)) (nI M, nI F, cp, pa, nI pl, kd, pr, nm, ll, la, ly, fn, fr, fo, pt, py) (nI n) v2 :=
        br_f c0 (br_t c2 (br_f a0 (br_f a1 (br_f a2 (br_f a3 (br_f a4 (br_t c8 ⟨rfl, J⟩)))))))
      exact br_c (fun _ => br_t c8 Y) (fun _ => br_c (fun _ => br_t c8 Y) (fun _ => br_f a0 (br_f a1 (br_f a2 (br_f a3 (br_f a4 trivial))))))
    · obtain ⟨j, hj8, hj, rfl⟩ := cs_ge8 c8
      obtain ⟨l, hl, el, ec⟩ := cs_ill h n hn
      by_cases cj : j < 8 + l
      · have cx : nI j < 8 + ll (nI n).toNatClampNeg := by rw [cn, el, cs_8a]; exact nI_lt cj (by omega)
        have cy : ¬ ll (nI n).toNatClampNeg ≤ nI j - 8 := by rw [cn, el, cs_8s hj8]; exact nI_ge (by omega) (by omega)
        have ix : nI n * 4 + nI j - 8 = nI (n * 4 + (j - 8)) := by
          rw [show nI n * 4 = nI (n * 4) from pk_mul n 4, nI_add, cs_8s (by omega)]
          exact congrArg nI (by omega)
        have iy : nI n * 4 + (nI j - 8) = nI (n * 4 + (j - 8)) := by
          rw [show nI n * 4 = nI (n * 4) from pk_mul n 4, cs_8s hj8, nI_add]
        have hx : vp_in (nI n * 4 + nI j - 8) 128 := by rw [ix]; exact vp_in_nI (by omega) (by omega)
        have hy : vp_in (nI n * 4 + (nI j - 8)) 128 := by rw [iy]; exact vp_in_nI (by omega) (by omega)
        have e : ly (nI n * 4 + (nI j - 8)).toNatClampNeg = lx (nI n * 4 + nI j - 8).toNatClampNeg := by
          rw [ix, iy, nI_clamp (by omega)]
          exact (ec (j - 8) (by omega)).symm
        have Y : wpY_nodeInfo (fun r' => r' = lx (nI n * 4 + nI j - 8).toNatClampNeg ∧ i_Rel (k + 5) (nI M, nI F, nI pl, pa, cp, ps, wn, wd, wh, kd, pr, nm, ll, la, lx, fn, fr, fo, pt, pd) (nI M, nI F, cp, pa, nI pl, kd, pr, nm, ll, la, ly, fn, fr, fo, pt, py)) (nI M, nI F, cp, pa, nI pl, kd, pr, nm, ll, la, ly, fn, fr, fo, pt, py) (nI n) (nI j) :=
          br_f c0 (br_t c2 (br_f a0 (br_f a1 (br_f a2 (br_f a3 (br_f a4 (br_f c8 ⟨hv, br_f cy ⟨hy, e, J⟩⟩)))))))
        exact br_c (fun _ => br_f c8 ⟨hv, br_t cx ⟨hx, Y⟩⟩) (fun _ => br_c (fun _ => br_f c8 ⟨hv, br_t cx ⟨hx, Y⟩⟩) (fun _ => br_f a0 (br_f a1 (br_f a2 (br_f a3 (br_f a4 trivial))))))
      · have cx : ¬ nI j < 8 + ll (nI n).toNatClampNeg := by rw [cn, el, cs_8a]; exact nI_nlt (by omega) (by omega)
        have cy : ll (nI n).toNatClampNeg ≤ nI j - 8 := by rw [cn, el, cs_8s hj8]; exact nI_le (by omega) (by omega)
        have Y : wpY_nodeInfo (fun r' => r' = (-10 : Int32) ∧ i_Rel (k + 5) (nI M, nI F, nI pl, pa, cp, ps, wn, wd, wh, kd, pr, nm, ll, la, lx, fn, fr, fo, pt, pd) (nI M, nI F, cp, pa, nI pl, kd, pr, nm, ll, la, ly, fn, fr, fo, pt, py)) (nI M, nI F, cp, pa, nI pl, kd, pr, nm, ll, la, ly, fn, fr, fo, pt, py) (nI n) (nI j) :=
          br_f c0 (br_t c2 (br_f a0 (br_f a1 (br_f a2 (br_f a3 (br_f a4 (br_f c8 ⟨hv, br_t cy ⟨rfl, J⟩⟩)))))))
        exact br_c (fun _ => br_f c8 ⟨hv, br_f cx Y⟩) (fun _ => br_c (fun _ => br_f c8 ⟨hv, br_f cx Y⟩) (fun _ => br_f a0 (br_f a1 (br_f a2 (br_f a3 (br_f a4 trivial))))))
