section
variable {M F pl : Nat} {pa cp ps wn wd wh : Int32} {kd pr nm ll la lx ly fn fr fo pt pd py : Nat → Int32}
theorem xs_setSlot {post : SX → Prop} {s : Nat} {a b c : Int32} (hs : s < 16) (k : post (nI M, nI F, nI pl, pa, cp, ps, wn, wd, wh, kd, pr, nm, ll, la, lx, upd fn s a, upd fr s b, upd fo s c, pt, pd)) : wpX_setSlot post (nI M, nI F, nI pl, pa, cp, ps, wn, wd, wh, kd, pr, nm, ll, la, lx, fn, fr, fo, pt, pd) (nI s) a b c := by
  have cs : (nI s).toNatClampNeg = s := nI_clamp (by omega)
  have hv : vp_in (nI s) 16 := vp_in_nI hs (by omega)
  exact ⟨hv, nm_r (by rw [cs]) ⟨hv, nm_r (by rw [cs]) ⟨hv, nm_r (by rw [cs]) k⟩⟩⟩
theorem xs_oslot0 {post : Int32 → SX → Prop} {a b c : Int32} (hX : ∀ post : Int32 → Prop, post (-1) → wpX_lowestClosedSlot post (nI M, nI F, nI pl, pa, cp, ps, wn, wd, wh, kd, pr, nm, ll, la, lx, fn, fr, fo, pt, pd)) (k : post (-9) (nI M, nI F, nI pl, pa, cp, ps, wn, wd, wh, kd, pr, nm, ll, la, lx, fn, fr, fo, pt, pd)) : wpX_openSlot post (nI M, nI F, nI pl, pa, cp, ps, wn, wd, wh, kd, pr, nm, ll, la, lx, fn, fr, fo, pt, pd) a b c := by
  unfold wpX_openSlot
  exact hX _ (br_t rfl k)
theorem xs_oslot1 {post : Int32 → SX → Prop} {s : Nat} {a b c : Int32} (hs : s < 16) (hX : ∀ post : Int32 → Prop, post (nI s) → wpX_lowestClosedSlot post (nI M, nI F, nI pl, pa, cp, ps, wn, wd, wh, kd, pr, nm, ll, la, lx, fn, fr, fo, pt, pd)) (k : post (nI s) (nI M, nI F, nI pl, pa, cp, ps, wn, wd, wh, kd, pr, nm, ll, la, lx, upd fn s a, upd fr s b, upd fo s c, pt, pd)) : wpX_openSlot post (nI M, nI F, nI pl, pa, cp, ps, wn, wd, wh, kd, pr, nm, ll, la, lx, fn, fr, fo, pt, pd) a b c := by
  unfold wpX_openSlot
  exact hX _ (br_f (cs_nm1 (by omega)) (xs_setSlot (post := _) hs k))
end
theorem i_vc_pathPush {k : Nat} {u : SX} {v : SY} (I : i_Rel k u v) (hk : k + 5 ≤ 2562) (v1 : Int32) : wpX_pathPush (fun r u' => wpY_pathPush (fun r' v' => r' = r ∧ i_Rel (k + 5) u' v') v v1) u v1 := by
  obtain ⟨M, F, pl, pa, cp, ps, wn, wd, wh, kd, pr, nm, ll, la, lx, ly, fn, fr, fo, pt, pd, py, rfl, rfl, h⟩ := I
  have hpl := cs_ipl h
  by_cases c0 : v1 < 0
  · exact br_t c0 (br_t c0 ⟨rfl, cs_rel _ h⟩)
  · by_cases c1 : v1 ≤ 16
    · by_cases c2 : pl < 8
      · have e : nI pl < 8 := nI_lt (b := 8) c2 (by decide)
        have hv : vp_in (nI pl) 8 := vp_in_nI c2 (by omega)
        refine br_f c0 (br_t c1 (br_t e ⟨hv, nm_e (nm_r (nI_1 pl) ?_)⟩))
        refine br_f c0 (br_t c1 (br_t e ⟨hv, nm_e (nm_r (nI_1 pl) ?_)⟩))
        exact ⟨rfl, cs_rel _ (cs_vpl h (by omega))⟩
      · have e : ¬ nI pl < 8 := nI_nlt (b := 8) (by omega) (by omega)
        exact br_f c0 (br_t c1 (br_f e (br_f c0 (br_t c1 (br_f e ⟨rfl, cs_rel _ h⟩)))))
    · exact br_f c0 (br_f c1 (br_f c0 (br_f c1 ⟨rfl, cs_rel _ h⟩)))
theorem i_vc_enterCapMode {k : Nat} {u : SX} {v : SY} (I : i_Rel k u v) (hk : k + 5 ≤ 2562) : wpX_enterCapMode (fun u' => wpY_enterCapMode (fun v' => i_Rel (k + 5) u' v') v) u := by
  obtain ⟨M, F, pl, pa, cp, ps, wn, wd, wh, kd, pr, nm, ll, la, lx, ly, fn, fr, fo, pt, pd, py, rfl, rfl, h⟩ := I
  exact cs_rel _ h
theorem i_vc_derive {k : Nat} {u : SX} {v : SY} (I : i_Rel k u v) (hk : k + 5 ≤ 2562) (v1 : Int32) (v2 : Int32) : wpX_derive (fun r u' => wpY_derive (fun r' v' => r' = r ∧ i_Rel (k + 5) u' v') v v1 v2) u v1 v2 := by
  obtain ⟨M, F, pl, pa, cp, ps, wn, wd, wh, kd, pr, nm, ll, la, lx, ly, fn, fr, fo, pt, pd, py, rfl, rfl, h⟩ := I
  have hM := cs_iM h
  have hF := cs_iF h
  unfold wpX_derive wpY_derive
  rcases cs_ofd h v1 with ⟨j, p, hj, hp, rfl, e⟩ | hc
  · have hv : vp_in (nI j) 16 := vp_in_nI (by omega) (by omega)
    have e1 : fn (nI j).toNatClampNeg = nI p := by rw [nI_clamp (by omega), e]
    obtain ⟨r, hr, sX, sY⟩ := cs_slot (pa := pa) (cp := cp) (ps := ps) (wn := wn) (wd := wd) (wh := wh) (nm := nm) (la := la) (fr := fr) (fo := fo) (pt := pt) (pd := pd) (py := py) h
    rcases hr with rfl | ⟨s, hs, rfl, z⟩
    · refine xs_open (post := _) h hj hp e (br_f cs_10 ⟨hv, hv, xs_oslot0 (post := _) sX ?_⟩)
      exact ys_open (post := _) h hj hp e (br_f cs_10 (sY _ (br_f cs_m1ge ⟨rfl, cs_rel _ h⟩)))
    · have hw : vp_in (nI s) 16 := vp_in_nI (by omega) (by omega)
      have es : (nI s).toNatClampNeg = s := nI_clamp (by omega)
      refine xs_open (post := _) h hj hp e (br_f cs_10 ⟨hv, hv, xs_oslot1 (post := _) (by omega) sX ?_⟩)
      refine ys_open (post := _) h hj hp e (br_f cs_10 (sY _ (br_t (nI_pos' (by omega)) ⟨hv, hw, nm_r (by rw [es]) ⟨hv, hw, nm_r (by rw [es]) ⟨hw, nm_r (by rw [es]) ?_⟩⟩⟩)))
      exact ⟨rfl, cs_rel _ (cs_vfn h (Or.inr ⟨p, hp, e1⟩))⟩
  · exact xs_shut (post := _) h hc (br_t rfl (ys_shut (post := _) h hc (br_t rfl ⟨rfl, cs_rel _ h⟩)))
theorem i_vc_limit {k : Nat} {u : SX} {v : SY} (I : i_Rel k u v) (hk : k + 5 ≤ 2562) (v1 : Int32) (v2 : Int32) : wpX_limit (fun r u' => wpY_limit (fun r' v' => r' = r ∧ i_Rel (k + 5) u' v') v v1 v2) u v1 v2 := by
  obtain ⟨M, F, pl, pa, cp, ps, wn, wd, wh, kd, pr, nm, ll, la, lx, ly, fn, fr, fo, pt, pd, py, rfl, rfl, h⟩ := I
  have hM := cs_iM h
  have hF := cs_iF h
  unfold wpX_limit wpY_limit
  rcases cs_ofd h v1 with ⟨j, p, hj, hp, rfl, e⟩ | hc
  · have hv : vp_in (nI j) 16 := vp_in_nI (by omega) (by omega)
    refine xs_open (post := _) h hj hp e (br_f cs_10 ⟨hv, hv, nm_e ⟨hv, ?_⟩⟩)
    exact ys_open (post := _) h hj hp e (br_f cs_10 ⟨hv, hv, nm_e ⟨hv, ⟨rfl, cs_rel _ h⟩⟩⟩)
  · exact xs_shut (post := _) h hc (br_t rfl (ys_shut (post := _) h hc (br_t rfl ⟨rfl, cs_rel _ h⟩)))
theorem i_vc_close {k : Nat} {u : SX} {v : SY} (I : i_Rel k u v) (hk : k + 5 ≤ 2562) (v1 : Int32) : wpX_close (fun r u' => wpY_close (fun r' v' => r' = r ∧ i_Rel (k + 5) u' v') v v1) u v1 := by
  obtain ⟨M, F, pl, pa, cp, ps, wn, wd, wh, kd, pr, nm, ll, la, lx, ly, fn, fr, fo, pt, pd, py, rfl, rfl, h⟩ := I
  have hM := cs_iM h
  have hF := cs_iF h
  unfold wpX_close wpY_close
  rcases cs_ofd h v1 with ⟨j, p, hj, hp, rfl, e⟩ | hc
  · have hv : vp_in (nI j) 16 := vp_in_nI (by omega) (by omega)
    have es : (nI j).toNatClampNeg = j := nI_clamp (by omega)
    refine xs_open (post := _) h hj hp e (br_f cs_10 (xs_setSlot (post := _) (by omega) ?_))
    refine ys_open (post := _) h hj hp e (br_f cs_10 ⟨hv, nm_r (by rw [es]) ⟨hv, nm_r (by rw [es]) ⟨hv, nm_r (by rw [es]) ?_⟩⟩⟩)
    exact ⟨rfl, cs_rel _ (cs_vfn h (Or.inl rfl))⟩
  · exact xs_shut (post := _) h hc (br_t rfl (ys_shut (post := _) h hc (br_t rfl ⟨rfl, cs_rel _ h⟩)))
theorem i_vc_fdInfo {k : Nat} {u : SX} {v : SY} (I : i_Rel k u v) (hk : k + 5 ≤ 2562) (v1 : Int32) (v2 : Int32) : wpX_fdInfo (fun r => wpY_fdInfo (fun r' => r' = r ∧ i_Rel (k + 5) u v) v v1 v2) u v1 v2 := by
  have J := I
  obtain ⟨M, F, pl, pa, cp, ps, wn, wd, wh, kd, pr, nm, ll, la, lx, ly, fn, fr, fo, pt, pd, py, rfl, rfl, h⟩ := I
  have hF := cs_iF h
  rcases pk_ix v1 (n := F) (by omega) with c0 | c1 | ⟨j, hj, rfl⟩
  · exact br_t c0 (br_t c0 ⟨rfl, J⟩)
  · by_cases c0 : v1 < 0
    · exact br_t c0 (br_t c0 ⟨rfl, J⟩)
    · have c2 : ¬ v1 < nI F := Int32.not_lt.mpr c1
      exact br_f c0 (br_f c2 (br_f c0 (br_f c2 ⟨rfl, J⟩)))
  · have hv : vp_in (nI j) 16 := vp_in_nI (by omega) (by omega)
    have c0 : ¬ nI j < 0 := nI_pos (by omega)
    have c2 : nI j < nI F := nI_lt hj (by omega)
    sorry
