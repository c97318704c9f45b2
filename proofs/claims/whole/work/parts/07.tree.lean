section
variable {M F pl : Nat} {pa cp ps wn wd wh : Int32} {kd pr nm ll la lx ly fn fr fo pt pd py : Nat → Int32}
theorem xs_isHeld1 {post : Int32 → Prop} {s m : Nat} (hF : F ≤ 16) (hs : s < F) (z : fn s = nI m) (k : post 1) : wpX_isHeldOpen post (nI M, nI F, nI pl, pa, cp, ps, wn, wd, wh, kd, pr, nm, ll, la, lx, fn, fr, fo, pt, pd) (nI m) :=
  ⟨s + 1, xs_held1 hF hs z k s 0 (by omega)⟩
theorem xs_isHeld0 {post : Int32 → Prop} {m : Nat} (hF : F ≤ 16) (hz : ∀ t, t < F → ¬ fn t = nI m) (k : post 0) : wpX_isHeldOpen post (nI M, nI F, nI pl, pa, cp, ps, wn, wd, wh, kd, pr, nm, ll, la, lx, fn, fr, fo, pt, pd) (nI m) :=
  ⟨F + 1, xs_held0 hF hz k F 0 (by omega)⟩
theorem xs_hasKids1 {post : Int32 → Prop} {s m : Nat} (hM : M ≤ 32) (h1 : 1 ≤ s) (hs : s < M) (z1 : ¬ kd s = 0) (z2 : pr s = nI m) (k : post 1) : wpX_hasChildren post (nI M, nI F, nI pl, pa, cp, ps, wn, wd, wh, kd, pr, nm, ll, la, lx, fn, fr, fo, pt, pd) (nI m) :=
  ⟨s - 1 + 1, xs_kids1 hM hs z1 z2 k (s - 1) 1 (by omega)⟩
theorem xs_hasKids0 {post : Int32 → Prop} {m : Nat} (h1 : 1 ≤ M) (hM : M ≤ 32) (hz : ∀ t, 1 ≤ t → t < M → ¬ kd t = 0 → ¬ pr t = nI m) (k : post 0) : wpX_hasChildren post (nI M, nI F, nI pl, pa, cp, ps, wn, wd, wh, kd, pr, nm, ll, la, lx, fn, fr, fo, pt, pd) (nI m) :=
  ⟨M - 1 + 1, xs_kids0 hM hz k (M - 1) 1 (by omega) (by omega)⟩
theorem xs_below1 {post : Int32 → Prop} {t m s : Nat} (hM : M ≤ 32) (ht : t < M) (hm : m < M) (hp : ∀ n, n < M → ∃ p, p < M ∧ pr n = nI p) (hs : s < M) (e : cs_ch pr t s = m) (k : post 1) : wpX_isAtOrBelow post (nI M, nI F, nI pl, pa, cp, ps, wn, wd, wh, kd, pr, nm, ll, la, lx, fn, fr, fo, pt, pd) (nI t) (nI m) :=
  ⟨s + 1, xs_anc1 hM ht hm hp hs e k s 0 (by omega)⟩
theorem xs_below0 {post : Int32 → Prop} {t m : Nat} (hM : M ≤ 32) (ht : t < M) (hm : m < M) (hp : ∀ n, n < M → ∃ p, p < M ∧ pr n = nI p) (hn : ∀ s, ¬ cs_ch pr t s = m) (k : post 0) : wpX_isAtOrBelow post (nI M, nI F, nI pl, pa, cp, ps, wn, wd, wh, kd, pr, nm, ll, la, lx, fn, fr, fo, pt, pd) (nI t) (nI m) :=
  ⟨M + 1, xs_anc0 hM ht hm hp hn k M 0 (by omega)⟩
theorem xs_low1 {post : Int32 → Prop} {s : Nat} (hM : M ≤ 32) (h1 : 1 ≤ s) (hs : s < M) (z : kd s = 0) (hz : ∀ t, 1 ≤ t → t < s → ¬ kd t = 0) (k : post (nI s)) : wpX_lowestFreeNode post (nI M, nI F, nI pl, pa, cp, ps, wn, wd, wh, kd, pr, nm, ll, la, lx, fn, fr, fo, pt, pd) :=
  ⟨s - 1 + 1, xs_free1 hM hs z k (s - 1) 1 (by omega) hz⟩
theorem xs_low0 {post : Int32 → Prop} (h1 : 1 ≤ M) (hM : M ≤ 32) (hz : ∀ t, 1 ≤ t → t < M → ¬ kd t = 0) (k : post (-1)) : wpX_lowestFreeNode post (nI M, nI F, nI pl, pa, cp, ps, wn, wd, wh, kd, pr, nm, ll, la, lx, fn, fr, fo, pt, pd) :=
  ⟨M - 1 + 1, xs_free0 hM k (M - 1) 1 (by omega) hz⟩
theorem ys_del {post : Int32 → SY → Prop} {m : Nat} (hm : m < 32) (k : post 0 (nI M, nI F, cp, pa, nI pl, upd kd m 0, upd pr m 0, upd nm m 0, upd ll m 0, upd la m (vp_nar .boolean 0), cs_cp ly (m * 4) 4 (fun _ => 0), fn, fr, fo, pt, py)) : wY_unlink_162 post (nI m) (nI M) (nI F) cp pa (nI pl) kd pr nm ll la ly fn fr fo pt py := by
  have cs : (nI m).toNatClampNeg = m := nI_clamp (by omega)
  have hv : vp_in (nI m) 32 := vp_in_nI hm (by omega)
  have z := ys_zero (kd := upd kd m 0) (pr := upd pr m 0) (nm := upd nm m 0) (ll := upd ll m 0) (la := upd la m (vp_nar .boolean 0)) hm k 4 0 (by omega)
  rw [cs_cp_0] at z
  exact ⟨hv, nm_r (by rw [cs]) ⟨hv, nm_r (by rw [cs]) ⟨hv, nm_r (by rw [cs]) ⟨hv, nm_r (by rw [cs]) ⟨hv, nm_r (by rw [cs]) ⟨4 + 1, z⟩⟩⟩⟩⟩⟩
end
theorem i_vc_unlink {k : Nat} {u : SX} {v : SY} (I : i_Rel k u v) (hk : k + 5 ≤ 2562) (v1 : Int32) (v2 : Int32) : wpX_unlink (fun r u' => wpY_unlink (fun r' v' => r' = r ∧ i_Rel (k + 5) u' v') v v1 v2) u v1 v2 := by
  obtain ⟨M, F, pl, pa, cp, ps, wn, wd, wh, kd, pr, nm, ll, la, lx, ly, fn, fr, fo, pt, pd, py, rfl, rfl, h⟩ := I
  have hM := cs_iM h
  have hF := cs_iF h
  unfold wpX_unlink wpY_unlink
  by_cases n1 : v2 < 1
  · exact xs_nm0 (post := _) (Or.inl n1) (br_t rfl (br_t n1 ⟨rfl, cs_rel _ h⟩))
  by_cases n2 : 15 < v2
  · have n3 : ¬ v2 ≤ 15 := Int32.not_le.mpr n2
    exact xs_nm0 (post := _) (Or.inr n2) (br_t rfl (br_f n1 (br_f n3 ⟨rfl, cs_rel _ h⟩)))
  have n3 : v2 ≤ 15 := Int32.not_lt.mp n2
  refine xs_nm1 (post := _) n1 n2 (br_f cs_10 ?_)
  rcases cs_ofd h v1 with ⟨j, p, hj, hp, rfl, e⟩ | hc
  · have hv : vp_in (nI j) 16 := vp_in_nI (by omega) (by omega)
    have hw : vp_in (nI p) 32 := vp_in_nI (by omega) (by omega)
    have cj : (nI j).toNatClampNeg = j := nI_clamp (by omega)
    have cpp : (nI p).toNatClampNeg = p := nI_clamp (by omega)
    have e1 : fn (nI j).toNatClampNeg = nI p := by rw [cj, e]
    by_cases zk : kd p = 1
    · have zk1 : kd (nI p).toNatClampNeg = 1 := by rw [cpp, zk]
      by_cases zr : fr j &&& 32 = 0
      · have zr1 : fr (nI j).toNatClampNeg &&& 32 = 0 := by rw [cj]; exact zr
        refine xs_ref_nocap (post := _) h hj hp e zk zr (br_f (by decide) ?_)
        exact br_f n1 (br_t n3 (ys_open (post := _) h hj hp e (br_f cs_10 ⟨hv, nm_r e1 ⟨hw, br_t zk1 ⟨hv, br_t zr1 ⟨rfl, cs_rel _ h⟩⟩⟩⟩)))
      · have zr1 : ¬ fr (nI j).toNatClampNeg &&& 32 = 0 := by rw [cj]; exact zr
        obtain ⟨r, hr, cX, cY⟩ := cs_child (pa := pa) (cp := cp) (ps := ps) (wn := wn) (wd := wd) (wh := wh) (nm := nm) (la := la) (fr := fr) (fo := fo) (pt := pt) (pd := pd) (py := py) h (nI p) v2
        rw [← e1] at cX
        refine xs_ref_ok (post := _) h hj hp e zk zr (br_t rfl ⟨hv, cX _ ?_⟩)
        rcases hr with rfl | ⟨m, hm1, hm, rfl, zf, zp, zn⟩
        · refine br_t rfl ?_
          exact br_f n1 (br_t n3 (ys_open (post := _) h hj hp e (br_f cs_10 ⟨hv, nm_r e1 ⟨hw, br_t zk1 ⟨hv, br_f zr1 (cY _ (br_f cs_m1ge ⟨rfl, cs_rel _ h⟩))⟩⟩⟩)))
        · have cm : (nI m).toNatClampNeg = m := nI_clamp (by omega)
          have hvm : vp_in (nI m) 32 := vp_in_nI (by omega) (by omega)
          have ge : (0 : Int32) ≤ nI m := nI_pos' (by omega)
          refine br_f (cs_nm1 (by omega)) ?_
          by_cases ho : ∃ s, s < F ∧ fn s = nI m
          · obtain ⟨s, hs, zs⟩ := ho
            refine xs_isHeld1 (post := _) hF.2 hs zs (br_f cs_10 ?_)
            refine br_f n1 (br_t n3 (ys_open (post := _) h hj hp e (br_f cs_10 ⟨hv, nm_r e1 ⟨hw, br_t zk1 ⟨hv, br_f zr1 (cY _ (br_t ge ⟨s + 1, ?_⟩))⟩⟩⟩)))
            exact ys_held1 hF.2 hs zs ⟨rfl, cs_rel _ h⟩ s 0 (by omega)
          · have ho' : ∀ t, t < F → ¬ fn t = nI m := fun t ht e3 => ho ⟨t, ht, e3⟩
            refine xs_isHeld0 (post := _) hF.2 ho' (br_t rfl ?_)
            by_cases hc : ∃ s, 1 ≤ s ∧ s < M ∧ ¬ kd s = 0 ∧ pr s = nI m
            · obtain ⟨s, hs1, hs, z1, z2⟩ := hc
              have zd : kd (nI m).toNatClampNeg = 1 := by rw [cm]; exact cs_idir h s m hs1 hs z1 hm z2
              refine xs_hasKids1 (post := _) hM.2 hs1 hs z1 z2 (br_f cs_10 ?_)
              refine br_f n1 (br_t n3 (ys_open (post := _) h hj hp e (br_f cs_10 ⟨hv, nm_r e1 ⟨hw, br_t zk1 ⟨hv, br_f zr1 (cY _ (br_t ge ⟨F + 1, ?_⟩))⟩⟩⟩)))
              refine ys_held0 hF.2 ho' ?_ F 0 (by omega)
              refine br_t (nI_le (Nat.le_refl F) (by omega)) ⟨hvm, br_t zd ⟨s - 1 + 1, ?_⟩⟩
              exact ys_kids1 hM.2 hs z1 z2 ⟨rfl, cs_rel _ h⟩ (s - 1) 1 (by omega)
            · have hc' : ∀ t, 1 ≤ t → t < M → ¬ kd t = 0 → ¬ pr t = nI m := fun t h1 h2 h3 h4 => hc ⟨t, h1, h2, h3, h4⟩
              refine xs_hasKids0 (post := _) (by omega) hM.2 hc' (br_t rfl ?_)
              refine xs_setNode (post := _) (by omega) ?_
              refine br_f n1 (br_t n3 (ys_open (post := _) h hj hp e (br_f cs_10 ⟨hv, nm_r e1 ⟨hw, br_t zk1 ⟨hv, br_f zr1 (cY _ (br_t ge ⟨F + 1, ?_⟩))⟩⟩⟩)))
              refine ys_held0 hF.2 ho' ?_ F 0 (by omega)
              have V := cs_vdel (ly' := cs_cp ly (m * 4) 4 (fun _ => 0)) h hm1 hc' (fun q i hq hi => cs_cp_out (by omega))
              refine br_t (nI_le (Nat.le_refl F) (by omega)) ⟨hvm, br_c (fun _ => ⟨M - 1 + 1, ?_⟩) (fun _ => ?_)⟩
              · exact ys_kids0 hM.2 hc' (ys_del (by omega) ⟨rfl, cs_rel _ V⟩) (M - 1) 1 (by omega) (by omega)
              · exact ys_del (by omega) ⟨rfl, cs_rel _ V⟩
    · have zk1 : ¬ kd (nI p).toNatClampNeg = 1 := by rw [cpp]; exact zk
      refine xs_ref_nodir (post := _) h hj hp e zk (br_f (by decide) ?_)
      exact br_f n1 (br_t n3 (ys_open (post := _) h hj hp e (br_f cs_10 ⟨hv, nm_r e1 ⟨hw, br_f zk1 ⟨rfl, cs_rel _ h⟩⟩⟩)))
  · refine xs_ref_shut (post := _) h hc (br_f (by decide) ?_)
    exact br_f n1 (br_t n3 (ys_shut (post := _) h hc (br_t rfl ⟨rfl, cs_rel _ h⟩)))
