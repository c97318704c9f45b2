theorem cs_cl (x : Int32) {lo hi : Nat} (h : lo ≤ hi) (hh : hi < 2 ^ 31) : ∃ m, lo ≤ m ∧ m ≤ hi ∧ ∀ P : Int32 → Prop, P (nI m) → (nI lo ≤ x → (x ≤ nI hi → P x) ∧ (¬ x ≤ nI hi → P (nI hi))) ∧ (¬ nI lo ≤ x → P (nI lo)) := by
  by_cases a : nI lo ≤ x
  · by_cases b : x ≤ nI hi
    · have x0 : ¬ x < 0 := Int32.not_lt.mpr (Int32.le_trans (nI_pos' (by omega)) a)
      obtain ⟨m, hm, rfl⟩ := nI_of x0
      exact ⟨m, (nI_leI (by omega) hm).mp a, (nI_leI hm hh).mp b, fun P p => br_t a (br_t b p)⟩
    · exact ⟨hi, h, Nat.le_refl _, fun P p => br_t a (br_f b p)⟩
  · exact ⟨lo, Nat.le_refl _, h, fun P p => br_f a p⟩
section
variable {M F pl : Nat} {pa cp ps wn wd wh : Int32} {kd pr nm ll la lx ly fn fr fo pt pd py : Nat → Int32}
theorem cs_cpi (a : Nat → Int32) (x : Int32) (i : Nat) : upd (cs_cp a 0 i (fun _ => x)) i x = cs_cp a 0 (i + 1) (fun _ => x) := by
  have e := cs_cp_s a 0 i (fun _ => x)
  rw [Nat.zero_add] at e
  exact e
theorem cs_fo0 (a : Nat → Int32) : upd (cs_cp a 0 16 (fun _ => -1)) 0 (-1) = cs_cp a 0 16 (fun _ => -1) := by
  funext j
  by_cases e : j = 0
  · subst e
    rw [pk_us]
    exact (cs_cp_in (s := 0) (j := 0) (f := fun _ => (-1 : Int32)) (by omega)).symm
  · rw [pk_un e]
theorem xs_init {post : SX → Prop} (k : post (nI M, nI F, nI pl, pa, cp, ps, wn, wd, wh, kd, pr, nm, ll, la, lx, upd (cs_cp fn 0 16 (fun _ => -1)) 0 0, upd (cs_cp fr 0 16 (fun _ => 0)) 0 63, cs_cp fo 0 16 (fun _ => -1), pt, pd)) : ∀ q i, i + q = 16 →
    wX_init_161 post (q + 1) (nI i) (nI M) (nI F) (nI pl) pa cp ps wn wd wh kd pr nm ll la lx (cs_cp fn 0 i (fun _ => -1)) (cs_cp fr 0 i (fun _ => 0)) (cs_cp fo 0 i (fun _ => -1)) pt pd := by
  intro q
  induction q with
  | zero =>
    intro i hi
    have e : i = 16 := by omega
    subst e
    rw [← cs_fo0 fo] at k
    exact br_t (nI_le (a := 16) (by omega) (by omega)) (xs_setSlot (s := 0) (post := _) (by omega) k)
  | succ q ih =>
    intro i hi
    refine br_f (nI_ge (b := 16) (by omega) (by decide)) ?_
    refine xs_setSlot (post := _) (by omega) ?_
    rw [cs_cpi, cs_cpi, cs_cpi]
    exact nm_r (nI_1 i) (ih (i + 1) (by omega))
theorem ys_init {post : SY → Prop} (k : post (nI M, nI F, cp, pa, nI pl, kd, pr, nm, ll, la, ly, upd (cs_cp fn 0 16 (fun _ => -1)) 0 0, upd (cs_cp fr 0 16 (fun _ => 0)) 0 63, cs_cp fo 0 16 (fun _ => -1), pt, py)) : ∀ q i, i + q = 16 →
    wY_init_154 post (nI M) (nI F) cp pa (nI pl) (q + 1) (nI i) kd pr nm ll la ly (cs_cp fn 0 i (fun _ => -1)) (cs_cp fr 0 i (fun _ => 0)) (cs_cp fo 0 i (fun _ => -1)) pt py := by
  intro q
  induction q with
  | zero =>
    intro i hi
    have e : i = 16 := by omega
    subst e
    exact br_t (nI_le (a := 16) (by omega) (by omega)) (nm_e (nm_e k))
  | succ q ih =>
    intro i hi
    have hv : vp_in (nI i) 16 := vp_in_nI (by omega) (by omega)
    have es : (nI i).toNatClampNeg = i := nI_clamp (by omega)
    exact br_f (nI_ge (b := 16) (by omega) (by decide)) ⟨hv, nm_r (by rw [es, cs_cpi]) ⟨hv, nm_r (by rw [es, cs_cpi]) ⟨hv, nm_r (by rw [es, cs_cpi]) (nm_r (nI_1 i) (ih (i + 1) (by omega)))⟩⟩⟩
theorem cs_inv0 (h1 : 8 ≤ M) (h2 : M ≤ 32) (h3 : 4 ≤ F) (h4 : F ≤ 16) : cs_Inv M F 0 (upd (fun _ => 0) 0 1) (fun _ => 0) (fun _ => 0) (fun _ => 0) (fun _ => 0) (upd (cs_cp (fun _ => 0) 0 16 (fun _ => -1)) 0 0) := by
  refine ⟨⟨h1, h2⟩, ⟨h3, h4⟩, by omega, pk_us, rfl, fun n hn => ?_, fun n hn => ⟨0, by omega, nI_0.symm⟩, fun n p hn1 hn hk hp hpp => ?_, fun n hn => ⟨0, by omega, nI_0.symm, fun j hj => rfl⟩, fun s hs => ?_⟩
  · by_cases e : n = 0
    · rw [e, pk_us]; exact Or.inr (Or.inl rfl)
    · rw [pk_un e]; exact Or.inl rfl
  · rw [pk_un (by omega)] at hk
    exact absurd rfl hk
  · by_cases e : s = 0
    · rw [e, pk_us]; exact Or.inr ⟨0, by omega, nI_0.symm⟩
    · rw [pk_un e]
      have z := cs_cp_in (a := fun _ => 0) (s := 0) (l := 16) (j := s) (f := fun _ => (-1 : Int32)) (by omega)
      rw [Nat.zero_add] at z
      exact Or.inl z
end
theorem i_vc0 (k0 : Int32) (k1 : Int32) : wpX_init (fun u => wpY_init (fun v => i_Rel 2 u v) k0 k1) k0 k1 := by
  obtain ⟨M, h1, h2, cM⟩ := cs_cl k0 (lo := 8) (hi := 32) (by omega) (by omega)
  obtain ⟨F, h3, h4, cF⟩ := cs_cl k1 (lo := 4) (hi := 16) (by omega) (by omega)
  have V := cs_inv0 h1 h2 h3 h4
  have hX : ∀ post : SX → Prop, post (nI M, nI F, nI 0, 0, 0, 40, 0, 0, 0, upd (fun _ => 0) 0 1, (fun _ => 0), (fun _ => 0), (fun _ => 0), (fun _ => 0), (fun _ => 0), upd (cs_cp (fun _ => 0) 0 16 (fun _ => -1)) 0 0, upd (cs_cp (fun _ => 0) 0 16 (fun _ => 0)) 0 63, cs_cp (fun _ => 0) 0 16 (fun _ => -1), (fun _ => 0), (fun _ => 0)) → wpX_init post k0 k1 := by
    intro post K
    have z := xs_init (pl := 0) K 16 0 (by omega)
    simp only [cs_cp_0] at z
    exact cM (fun r1 => wpX_clamp (fun r2 => ∀ a : Nat → Int32, a = upd (fun _ => 0) 0 1 → ∃ n161 : Nat, wX_init_161 post n161 0 r1 r2 0 0 0 40 0 0 0 a (fun _ => 0) (fun _ => 0) (fun _ => 0) (fun _ => 0) (fun _ => 0) (fun _ => 0) (fun _ => 0) (fun _ => 0) (fun _ => 0) (fun _ => 0)) k1 4 16) (cF (fun r2 => ∀ a : Nat → Int32, a = upd (fun _ => 0) 0 1 → ∃ n161 : Nat, wX_init_161 post n161 0 (nI M) r2 0 0 0 40 0 0 0 a (fun _ => 0) (fun _ => 0) (fun _ => 0) (fun _ => 0) (fun _ => 0) (fun _ => 0) (fun _ => 0) (fun _ => 0) (fun _ => 0) (fun _ => 0)) (nm_e ⟨16 + 1, z⟩))
  have hY : ∀ post : SY → Prop, post (nI M, nI F, 0, 0, nI 0, upd (fun _ => 0) 0 1, (fun _ => 0), (fun _ => 0), (fun _ => 0), (fun _ => 0), (fun _ => 0), upd (cs_cp (fun _ => 0) 0 16 (fun _ => -1)) 0 0, upd (cs_cp (fun _ => 0) 0 16 (fun _ => 0)) 0 63, cs_cp (fun _ => 0) 0 16 (fun _ => -1), (fun _ => 0), (fun _ => 0)) → wpY_init post k0 k1 := by
    intro post K
    have z := ys_init (pl := 0) K 16 0 (by omega)
    simp only [cs_cp_0] at z
    have K2 : wY_init_142 post (nI F) (nI M) 0 0 0 0 (fun _ => 0) (fun _ => 0) (fun _ => 0) (fun _ => 0) (fun _ => 0) (fun _ => 0) (fun _ => 0) (fun _ => 0) (fun _ => 0) (fun _ => 0) (fun _ => 0) := nm_e ⟨16 + 1, z⟩
    exact cM (fun w => wY_init_117 post k1 w 0 0 0 0 0 (fun _ => 0) (fun _ => 0) (fun _ => 0) (fun _ => 0) (fun _ => 0) (fun _ => 0) (fun _ => 0) (fun _ => 0) (fun _ => 0) (fun _ => 0) (fun _ => 0)) (cF (fun w => wY_init_142 post w (nI M) 0 0 0 0 (fun _ => 0) (fun _ => 0) (fun _ => 0) (fun _ => 0) (fun _ => 0) (fun _ => 0) (fun _ => 0) (fun _ => 0) (fun _ => 0) (fun _ => 0) (fun _ => 0)) K2)
  exact hX _ (hY _ (cs_rel (pl := 0) 2 V))
