/-- what holds of the state between two calls -/
def cs_Inv (M F pl : Nat) (kd pr ll lx ly fn : Nat → Int32) : Prop :=
  (8 ≤ M ∧ M ≤ 32) ∧ (4 ≤ F ∧ F ≤ 16) ∧ pl ≤ 8 ∧ kd 0 = 1 ∧ pr 0 = 0 ∧
  (∀ n, n < M → kd n = 0 ∨ kd n = 1 ∨ kd n = 2 ∨ kd n = 3) ∧
  (∀ n, n < M → ∃ p, p < M ∧ pr n = nI p) ∧
  (∀ n p, 1 ≤ n → n < M → ¬ kd n = 0 → p < M → pr n = nI p → kd p = 1) ∧
  (∀ n, n < M → ∃ l, l ≤ 4 ∧ ll n = nI l ∧ ∀ j, j < l → lx (n * 4 + j) = ly (n * 4 + j)) ∧
  (∀ s, s < F → fn s = -1 ∨ ∃ p, p < M ∧ fn s = nI p)
/-- the two states show the same; the walk's own fields and stale link components are free -/
def i_Rel (_ : Nat) (u : SX) (v : SY) : Prop :=
  ∃ (M F pl : Nat) (pa cp ps wn wd wh : Int32) (kd pr nm ll la lx ly fn fr fo pt pd py : Nat → Int32),
    u = (nI M, nI F, nI pl, pa, cp, ps, wn, wd, wh, kd, pr, nm, ll, la, lx, fn, fr, fo, pt, pd) ∧ v = (nI M, nI F, cp, pa, nI pl, kd, pr, nm, ll, la, ly, fn, fr, fo, pt, py) ∧ cs_Inv M F pl kd pr ll lx ly fn
theorem i_up {k : Nat} {u : SX} {v : SY} (h : i_Rel k u v) : i_Rel (k + 5) u v := h
section
variable {M F pl : Nat} {pa cp ps wn wd wh : Int32} {kd pr nm ll la lx ly fn fr fo pt pd py : Nat → Int32}
theorem cs_rel (k : Nat) (h : cs_Inv M F pl kd pr ll lx ly fn) : i_Rel k (nI M, nI F, nI pl, pa, cp, ps, wn, wd, wh, kd, pr, nm, ll, la, lx, fn, fr, fo, pt, pd) (nI M, nI F, cp, pa, nI pl, kd, pr, nm, ll, la, ly, fn, fr, fo, pt, py) :=
  ⟨M, F, pl, pa, cp, ps, wn, wd, wh, kd, pr, nm, ll, la, lx, ly, fn, fr, fo, pt, pd, py, rfl, rfl, h⟩
theorem cs_iM (h : cs_Inv M F pl kd pr ll lx ly fn) : 8 ≤ M ∧ M ≤ 32 := h.1
theorem cs_iF (h : cs_Inv M F pl kd pr ll lx ly fn) : 4 ≤ F ∧ F ≤ 16 := h.2.1
theorem cs_ipl (h : cs_Inv M F pl kd pr ll lx ly fn) : pl ≤ 8 := h.2.2.1
theorem cs_ik0 (h : cs_Inv M F pl kd pr ll lx ly fn) : kd 0 = 1 := h.2.2.2.1
theorem cs_ip0 (h : cs_Inv M F pl kd pr ll lx ly fn) : pr 0 = 0 := h.2.2.2.2.1
theorem cs_ikd (h : cs_Inv M F pl kd pr ll lx ly fn) : ∀ n, n < M → kd n = 0 ∨ kd n = 1 ∨ kd n = 2 ∨ kd n = 3 := h.2.2.2.2.2.1
theorem cs_ipr (h : cs_Inv M F pl kd pr ll lx ly fn) : ∀ n, n < M → ∃ p, p < M ∧ pr n = nI p := h.2.2.2.2.2.2.1
theorem cs_idir (h : cs_Inv M F pl kd pr ll lx ly fn) : ∀ n p, 1 ≤ n → n < M → ¬ kd n = 0 → p < M → pr n = nI p → kd p = 1 := h.2.2.2.2.2.2.2.1
theorem cs_ill (h : cs_Inv M F pl kd pr ll lx ly fn) : ∀ n, n < M → ∃ l, l ≤ 4 ∧ ll n = nI l ∧ ∀ j, j < l → lx (n * 4 + j) = ly (n * 4 + j) := h.2.2.2.2.2.2.2.2.1
theorem cs_ifn (h : cs_Inv M F pl kd pr ll lx ly fn) : ∀ s, s < F → fn s = -1 ∨ ∃ p, p < M ∧ fn s = nI p := h.2.2.2.2.2.2.2.2.2
theorem cs_vpl {pl' : Nat} (h : cs_Inv M F pl kd pr ll lx ly fn) (hp : pl' ≤ 8) : cs_Inv M F pl' kd pr ll lx ly fn :=
  ⟨h.1, h.2.1, hp, h.2.2.2⟩
theorem cs_vfn {s : Nat} {w : Int32} (h : cs_Inv M F pl kd pr ll lx ly fn) (hw : w = -1 ∨ ∃ p, p < M ∧ w = nI p) : cs_Inv M F pl kd pr ll lx ly (upd fn s w) := by
  refine ⟨cs_iM h, cs_iF h, cs_ipl h, cs_ik0 h, cs_ip0 h, cs_ikd h, cs_ipr h, cs_idir h, cs_ill h, fun q hq => ?_⟩
  by_cases e : q = s
  · rw [e, pk_us]; exact hw
  · rw [pk_un e]; exact cs_ifn h q hq
theorem cs_vnew {n d l : Nat} {kk : Int32} {kd' pr' ll' lx' ly' : Nat → Int32} (h : cs_Inv M F pl kd pr ll lx ly fn) (h1 : 1 ≤ n) (hn : n < M) (hf : kd n = 0) (hd : d < M) (hdd : kd d = 1)
    (hk : kk = 1 ∨ kk = 2 ∨ kk = 3) (ek : kd' n = kk) (ek' : ∀ q, q ≠ n → kd' q = kd q) (ep : pr' n = nI d) (ep' : ∀ q, q ≠ n → pr' q = pr q)
    (hl : l ≤ 4) (el : ll' n = nI l) (el' : ∀ q, q ≠ n → ll' q = ll q) (ec : ∀ j, j < l → lx' (n * 4 + j) = ly' (n * 4 + j))
    (ecx : ∀ q j, q ≠ n → j < 4 → lx' (q * 4 + j) = lx (q * 4 + j)) (ecy : ∀ q j, q ≠ n → j < 4 → ly' (q * 4 + j) = ly (q * 4 + j)) :
    cs_Inv M F pl kd' pr' ll' lx' ly' fn := by
  refine ⟨cs_iM h, cs_iF h, cs_ipl h, ?_, ?_, fun q hq => ?_, fun q hq => ?_, fun q p hq1 hq hkq hp hpq => ?_, fun q hq => ?_, cs_ifn h⟩
  · rw [ek' 0 (by omega)]; exact cs_ik0 h
  · rw [ep' 0 (by omega)]; exact cs_ip0 h
  · by_cases e : q = n
    · rw [e, ek]; exact Or.inr hk
    · rw [ek' q e]; exact cs_ikd h q hq
  · by_cases e : q = n
    · rw [e, ep]; exact ⟨d, hd, rfl⟩
    · rw [ep' q e]; exact cs_ipr h q hq
  · have hM := cs_iM h
    have hdn : d ≠ n := fun e => by
      rw [e, hf] at hdd
      exact absurd hdd (by decide)
    by_cases e : q = n
    · rw [e, ep] at hpq
      have := cs_im hpq (by omega) (by omega)
      rw [← this, ek' d hdn]; exact hdd
    · rw [ek' q e] at hkq
      rw [ep' q e] at hpq
      have hp1 := cs_idir h q p hq1 hq hkq hp hpq
      have hpn : p ≠ n := fun e2 => by
        rw [e2, hf] at hp1
        exact absurd hp1 (by decide)
      rw [ek' p hpn]; exact hp1
  · by_cases e : q = n
    · rw [e]; exact ⟨l, hl, el, ec⟩
    · obtain ⟨l2, hl2, el2, ec2⟩ := cs_ill h q hq
      refine ⟨l2, hl2, (el' q e).trans el2, fun j hj => ?_⟩
      rw [ecx q j e (by omega), ecy q j e (by omega)]
      exact ec2 j hj
theorem cs_vmov {m t : Nat} (h : cs_Inv M F pl kd pr ll lx ly fn) (h1 : 1 ≤ m) (ht : t < M) (hk : kd t = 1) : cs_Inv M F pl kd (upd pr m (nI t)) ll lx ly fn := by
  refine ⟨cs_iM h, cs_iF h, cs_ipl h, cs_ik0 h, ?_, cs_ikd h, fun q hq => ?_, fun q p hq1 hq hkq hp hpq => ?_, cs_ill h, cs_ifn h⟩
  · rw [pk_un (by omega)]; exact cs_ip0 h
  · by_cases e : q = m
    · rw [e, pk_us]; exact ⟨t, ht, rfl⟩
    · rw [pk_un e]; exact cs_ipr h q hq
  · have hM := cs_iM h
    by_cases e : q = m
    · rw [e, pk_us] at hpq
      have := cs_im hpq (by omega) (by omega)
      rw [← this]; exact hk
    · rw [pk_un e] at hpq
      exact cs_idir h q p hq1 hq hkq hp hpq
theorem cs_vdel {m : Nat} {ly' : Nat → Int32} (h : cs_Inv M F pl kd pr ll lx ly fn) (h1 : 1 ≤ m)
    (hc : ∀ n, 1 ≤ n → n < M → ¬ kd n = 0 → ¬ pr n = nI m)
    (ecy : ∀ q j, q ≠ m → j < 4 → ly' (q * 4 + j) = ly (q * 4 + j)) : cs_Inv M F pl (upd kd m 0) (upd pr m 0) (upd ll m 0) lx ly' fn := by
  refine ⟨cs_iM h, cs_iF h, cs_ipl h, ?_, ?_, fun q hq => ?_, fun q hq => ?_, fun q p hq1 hq hkq hp hpq => ?_, fun q hq => ?_, cs_ifn h⟩
  · rw [pk_un (by omega)]; exact cs_ik0 h
  · rw [pk_un (by omega)]; exact cs_ip0 h
  · by_cases e : q = m
    · rw [e, pk_us]; exact Or.inl rfl
    · rw [pk_un e]; exact cs_ikd h q hq
  · by_cases e : q = m
    · rw [e, pk_us]; exact ⟨0, by omega, nI_0.symm⟩
    · rw [pk_un e]; exact cs_ipr h q hq
  · by_cases e : q = m
    · rw [e, pk_us] at hkq
      exact absurd rfl hkq
    · rw [pk_un e] at hkq hpq
      have hpm : p ≠ m := fun e2 => hc q hq1 hq hkq (by rw [hpq, e2])
      rw [pk_un hpm]
      exact cs_idir h q p hq1 hq hkq hp hpq
  · by_cases e : q = m
    · rw [e, pk_us]; exact ⟨0, by omega, nI_0.symm, fun j hj => absurd hj (Nat.not_lt_zero _)⟩
    · obtain ⟨l2, hl2, el2, ec2⟩ := cs_ill h q hq
      refine ⟨l2, hl2, (pk_un e).trans el2, fun j hj => ?_⟩
      rw [ecy q j e (by omega)]
      exact ec2 j hj
end
