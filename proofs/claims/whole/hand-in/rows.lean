section
theorem pk_us {f : Nat → Int32} {k : Nat} {x : Int32} : upd f k x k = x := if_pos rfl
theorem pk_un {f : Nat → Int32} {k j : Nat} {x : Int32} (h : j ≠ k) : upd f k x j = f j := if_neg h
theorem pk_sub {a b : Nat} (h : b ≤ a) : nI a - nI b = nI (a - b) := by
  obtain ⟨c, rfl⟩ : ∃ c, a = c + b := ⟨a - b, by omega⟩
  rw [← nI_add, Int32.add_sub_cancel, Nat.add_sub_cancel]
theorem pk_m1 (n : Nat) : nI (n + 1) + (-1) = nI n := by
  rw [← nI_1, Int32.add_assoc, show (1 : Int32) + (-1) = 0 from rfl, Int32.add_zero]
theorem pk_mul (a b : Nat) : nI a * nI b = nI (a * b) := (Int32.ofNat_mul a b).symm
theorem pk_ix (x : Int32) {n : Nat} (hn : n < 2 ^ 31) : x < 0 ∨ nI n ≤ x ∨ ∃ j : Nat, j < n ∧ x = nI j := by
  by_cases h : x < 0
  · exact Or.inl h
  · obtain ⟨j, hj, rfl⟩ := nI_of h
    by_cases h2 : j < n
    · exact Or.inr (Or.inr ⟨j, h2, rfl⟩)
    · exact Or.inr (Or.inl (nI_le (by omega) hj))
theorem pk_le {x y : Int32} {A B : Prop} (a b : Nat) (f : a ≤ b → A) (g : b < a → B) (hx : x = nI a := by rfl) (hy : y = nI b := by rfl) (ha : a < 2 ^ 31 := by omega) (hb : b < 2 ^ 31 := by omega) : (x ≤ y → A) ∧ (¬ x ≤ y → B) := by
  subst hx hy
  rw [nI_leI ha hb]
  exact ⟨f, fun z => g (by omega)⟩
theorem pk_lt {x y : Int32} {A B : Prop} (a b : Nat) (f : a < b → A) (g : b ≤ a → B) (hx : x = nI a := by rfl) (hy : y = nI b := by rfl) (ha : a < 2 ^ 31 := by omega) (hb : b < 2 ^ 31 := by omega) : (x < y → A) ∧ (¬ x < y → B) := by
  subst hx hy
  rw [nI_ltI ha hb]
  exact ⟨f, fun z => g (by omega)⟩
theorem pk_eq {x y : Int32} {A B : Prop} (a b : Nat) (f : a = b → A) (g : a ≠ b → B) (hx : x = nI a := by rfl) (hy : y = nI b := by rfl) (ha : a < 2 ^ 31 := by omega) (hb : b < 2 ^ 31 := by omega) : (x = y → A) ∧ (¬ x = y → B) := by
  subst hx hy
  rw [nI_eq ha hb]
  exact ⟨f, g⟩
theorem pk_in {x : Int32} (n N : Nat) (h : n < N) (hx : x = nI n := by rfl) (hN : N < 2 ^ 31 := by omega) : vp_in x N := by
  subst hx
  exact vp_in_nI h hN
theorem pk_cl {x : Int32} (n : Nat) (hx : x = nI n := by rfl) (h : n < 2 ^ 31 := by omega) : x.toNatClampNeg = n := by
  subst hx
  exact nI_clamp h
theorem pk_least (P : Nat → Prop) (h : ∃ k, P k) : ∃ k, P k ∧ ∀ j, j < k → ¬ P j := by
  obtain ⟨k, hk⟩ := h
  induction k using Nat.strongRecOn with
  | ind k ih =>
    by_cases e : ∃ j, j < k ∧ P j
    · obtain ⟨j, hj, pj⟩ := e
      exact ih j hj pj
    · exact ⟨k, hk, fun j hj pj => e ⟨j, hj, pj⟩⟩
end
section
/-! numbers -/
theorem cs_nm1 {n : Nat} (h : n < 2 ^ 31) : ¬ nI n = -1 := fun e => nI_pos h (by rw [e]; decide)
theorem cs_m1lt : (-1 : Int32) < 0 := by decide
theorem cs_m1ge : ¬ (0 : Int32) ≤ -1 := by decide
theorem cs_im {a b : Nat} (h : nI a = nI b) (ha : a < 2 ^ 31) (hb : b < 2 ^ 31) : a = b := (nI_eq ha hb).mp h
/-! pigeonhole -/
theorem cs_pig : ∀ (M : Nat) (f : Nat → Nat), (∀ i, i ≤ M → f i < M) → ∃ a b, a < b ∧ b ≤ M ∧ f a = f b := by
  intro M
  induction M with
  | zero =>
    intro f h
    exact absurd (h 0 (Nat.le_refl 0)) (Nat.not_lt_zero _)
  | succ M ih =>
    intro f h
    by_cases hv : ∃ a, a ≤ M ∧ f a = f (M + 1)
    · obtain ⟨a, ha, e⟩ := hv
      exact ⟨a, M + 1, by omega, by omega, e⟩
    · have hn : ∀ a, a ≤ M → f a ≠ f (M + 1) := fun a ha e => hv ⟨a, ha, e⟩
      have hl := h (M + 1) (Nat.le_refl _)
      obtain ⟨a, b, hab, hb, e⟩ := ih (fun i => if f i = M then f (M + 1) else f i) (by
        intro i hi
        have h1 := h i (by omega)
        have h2 := hn i hi
        by_cases hc : f i = M
        · rw [if_pos hc]; omega
        · rw [if_neg hc]; omega)
      have na := hn a (by omega)
      have nb := hn b (by omega)
      by_cases ca : f a = M
      · by_cases cb : f b = M
        · exact ⟨a, b, hab, by omega, by omega⟩
        · rw [if_pos ca, if_neg cb] at e
          exact absurd e.symm nb
      · by_cases cb : f b = M
        · rw [if_neg ca, if_pos cb] at e
          exact absurd e na
        · rw [if_neg ca, if_neg cb] at e
          exact ⟨a, b, hab, by omega, e⟩
/-- the chain of parents from t on -/
def cs_ch (pr : Nat → Int32) (t : Nat) : Nat → Nat
  | 0 => t
  | i + 1 => (pr (cs_ch pr t i)).toNatClampNeg
theorem cs_ch_add (pr : Nat → Int32) (t a : Nat) : ∀ c, cs_ch pr t (a + c) = cs_ch pr (cs_ch pr t a) c := by
  intro c
  induction c with
  | zero => rfl
  | succ c ih =>
    show (pr (cs_ch pr t (a + c))).toNatClampNeg = (pr (cs_ch pr (cs_ch pr t a) c)).toNatClampNeg
    rw [ih]
theorem cs_ch_lt {pr : Nat → Int32} {t M : Nat} (hM : M ≤ 32) (ht : t < M) (hp : ∀ n, n < M → ∃ p, p < M ∧ pr n = nI p) : ∀ i, cs_ch pr t i < M := by
  intro i
  induction i with
  | zero => exact ht
  | succ i ih =>
    obtain ⟨p, hp1, e⟩ := hp _ ih
    show (pr (cs_ch pr t i)).toNatClampNeg < M
    rw [e, nI_clamp (by omega)]
    exact hp1
theorem cs_ch_s {pr : Nat → Int32} {t M : Nat} (hM : M ≤ 32) (ht : t < M) (hp : ∀ n, n < M → ∃ p, p < M ∧ pr n = nI p) (i : Nat) : pr (cs_ch pr t i) = nI (cs_ch pr t (i + 1)) := by
  obtain ⟨p, hp1, e⟩ := hp _ (cs_ch_lt hM ht hp i)
  show pr (cs_ch pr t i) = nI (pr (cs_ch pr t i)).toNatClampNeg
  rw [e, nI_clamp (by omega)]
theorem cs_ch_0 {pr : Nat → Int32} {t i : Nat} (h0 : pr 0 = 0) (hi : cs_ch pr t i = 0) : ∀ c, cs_ch pr t (i + c) = 0 := by
  intro c
  induction c with
  | zero => exact hi
  | succ c ih =>
    show (pr (cs_ch pr t (i + c))).toNatClampNeg = 0
    rw [ih, h0]
    rfl
theorem cs_ch_hit {pr : Nat → Int32} {t M m : Nat} (hM : M ≤ 32) (ht : t < M) (hp : ∀ n, n < M → ∃ p, p < M ∧ pr n = nI p) (h : ∃ s, cs_ch pr t s = m) : ∃ s, s < M ∧ cs_ch pr t s = m := by
  obtain ⟨s, hs, hl⟩ := pk_least (fun s => cs_ch pr t s = m) h
  by_cases hc : s < M
  · exact ⟨s, hc, hs⟩
  · obtain ⟨a, b, hab, hb, e⟩ := cs_pig M (cs_ch pr t) (fun i _ => cs_ch_lt hM ht hp i)
    refine absurd ?_ (hl (a + (s - b)) (by omega))
    rw [cs_ch_add, e, ← cs_ch_add, show b + (s - b) = s by omega]
    exact hs
/-! an array with a stretch written over -/
def cs_cp (a : Nat → Int32) (s l : Nat) (f : Nat → Int32) : Nat → Int32 := fun j => if s ≤ j ∧ j < s + l then f (j - s) else a j
theorem cs_cp_0 (a : Nat → Int32) (s : Nat) (f : Nat → Int32) : cs_cp a s 0 f = a := funext fun j => if_neg (by omega)
theorem cs_cp_in {a : Nat → Int32} {s l : Nat} {f : Nat → Int32} {j : Nat} (h : j < l) : cs_cp a s l f (s + j) = f j := by
  show (if s ≤ s + j ∧ s + j < s + l then f (s + j - s) else a (s + j)) = f j
  rw [if_pos (by omega), Nat.add_sub_cancel_left]
theorem cs_cp_out {a : Nat → Int32} {s l : Nat} {f : Nat → Int32} {j : Nat} (h : j < s ∨ s + l ≤ j) : cs_cp a s l f j = a j := if_neg (by omega)
theorem cs_cp_s (a : Nat → Int32) (s l : Nat) (f : Nat → Int32) : upd (cs_cp a s l f) (s + l) (f l) = cs_cp a s (l + 1) f := by
  funext j
  by_cases e : j = s + l
  · rw [e, pk_us, cs_cp_in (by omega)]
  · rw [pk_un e]
    show (if s ≤ j ∧ j < s + l then f (j - s) else a j) = (if s ≤ j ∧ j < s + (l + 1) then f (j - s) else a j)
    by_cases c : s ≤ j ∧ j < s + l
    · rw [if_pos c, if_pos (by omega)]
    · rw [if_neg c, if_neg (by omega)]
/-! pending components: the class keeps them at the end of 40, the reference on a stack -/
def cs_Pd (pc : Nat) (pd py : Nat → Int32) : Prop := ∀ i, i < pc → pd (40 - pc + i) = py (pc - 1 - i)
theorem cs_Pd_0 (pd py : Nat → Int32) : cs_Pd 0 pd py := fun _ h => absurd h (Nat.not_lt_zero _)
theorem cs_Pd_top {pc : Nat} {pd py : Nat → Int32} (h : cs_Pd (pc + 1) pd py) : pd (40 - (pc + 1)) = py pc := h 0 (by omega)
theorem cs_Pd_pop {pc : Nat} {pd py : Nat → Int32} (hc : pc + 1 ≤ 40) (h : cs_Pd (pc + 1) pd py) : cs_Pd pc pd py := by
  intro i hi
  have e := h (i + 1) (by omega)
  rw [show 40 - (pc + 1) + (i + 1) = 40 - pc + i by omega, show pc + 1 - 1 - (i + 1) = pc - 1 - i by omega] at e
  exact e
theorem cs_Pd_push {pc l : Nat} {pd py fx fy : Nat → Int32} (hc : pc + l ≤ 40) (h : cs_Pd pc pd py) (he : ∀ j, j < l → fx j = fy j) :
    cs_Pd (pc + l) (cs_cp pd (40 - (pc + l)) l fx) (cs_cp py pc l (fun j => fy (l - 1 - j))) := by
  intro i hi
  by_cases c : i < l
  · rw [cs_cp_in c, show pc + l - 1 - i = pc + (l - 1 - i) by omega, cs_cp_in (by omega), he i c]
    exact congrArg fy (by omega)
  · rw [cs_cp_out (by omega), cs_cp_out (by omega)]
    have e := h (i - l) (by omega)
    rw [show 40 - pc + (i - l) = 40 - (pc + l) + i by omega, show pc - 1 - (i - l) = pc + l - 1 - i by omega] at e
    exact e
end
section
/-- what holds of the state between two calls -/
def cs_Inv (M F pl : Nat) (kd pr ll lx ly fn : Nat → Int32) : Prop :=
  (8 ≤ M ∧ M ≤ 32) ∧ (4 ≤ F ∧ F ≤ 16) ∧ pl ≤ 8 ∧ kd 0 = 1 ∧ pr 0 = 0 ∧
  (∀ n, n < M → kd n = 0 ∨ kd n = 1 ∨ kd n = 2 ∨ kd n = 3) ∧
  (∀ n, n < M → ∃ p, p < M ∧ pr n = nI p) ∧
  (∀ n p, 1 ≤ n → n < M → ¬ kd n = 0 → p < M → pr n = nI p → kd p = 1) ∧
  (∀ n, n < M → ∃ l, l ≤ 4 ∧ ll n = nI l ∧ ∀ j, j < l → lx (n * 4 + j) = ly (n * 4 + j)) ∧
  (∀ s, s < F → fn s = -1 ∨ ∃ p, p < M ∧ fn s = nI p)
/-- the two states show the same; the walk's own fields and stale link components are free -/
def i_Rel (_ : Nat) (u : SX) (v : SY) : Prop :=
  ∃ (M F pl : Nat) (pa cp ps wn wd wh : Int32) (kd pr nm ll la lx ly fn fr fo pt pd py : Nat → Int32),
    u = (nI M, nI F, nI pl, pa, cp, ps, wn, wd, wh, kd, pr, nm, ll, la, lx, fn, fr, fo, pt, pd) ∧ v = (nI M, nI F, cp, pa, nI pl, kd, pr, nm, ll, la, ly, fn, fr, fo, pt, py) ∧ cs_Inv M F pl kd pr ll lx ly fn
theorem i_up {k : Nat} {u : SX} {v : SY} (h : i_Rel k u v) : i_Rel (k + 5) u v := h
section
variable {M F pl : Nat} {pa cp ps wn wd wh : Int32} {kd pr nm ll la lx ly fn fr fo pt pd py : Nat → Int32}
theorem cs_rel (k : Nat) (h : cs_Inv M F pl kd pr ll lx ly fn) : i_Rel k (nI M, nI F, nI pl, pa, cp, ps, wn, wd, wh, kd, pr, nm, ll, la, lx, fn, fr, fo, pt, pd) (nI M, nI F, cp, pa, nI pl, kd, pr, nm, ll, la, ly, fn, fr, fo, pt, py) :=
  ⟨M, F, pl, pa, cp, ps, wn, wd, wh, kd, pr, nm, ll, la, lx, ly, fn, fr, fo, pt, pd, py, rfl, rfl, h⟩
theorem cs_iM (h : cs_Inv M F pl kd pr ll lx ly fn) : 8 ≤ M ∧ M ≤ 32 := h.1
theorem cs_iF (h : cs_Inv M F pl kd pr ll lx ly fn) : 4 ≤ F ∧ F ≤ 16 := h.2.1
theorem cs_ipl (h : cs_Inv M F pl kd pr ll lx ly fn) : pl ≤ 8 := h.2.2.1
theorem cs_ik0 (h : cs_Inv M F pl kd pr ll lx ly fn) : kd 0 = 1 := h.2.2.2.1
theorem cs_ip0 (h : cs_Inv M F pl kd pr ll lx ly fn) : pr 0 = 0 := h.2.2.2.2.1
theorem cs_ikd (h : cs_Inv M F pl kd pr ll lx ly fn) : ∀ n, n < M → kd n = 0 ∨ kd n = 1 ∨ kd n = 2 ∨ kd n = 3 := h.2.2.2.2.2.1
theorem cs_ipr (h : cs_Inv M F pl kd pr ll lx ly fn) : ∀ n, n < M → ∃ p, p < M ∧ pr n = nI p := h.2.2.2.2.2.2.1
theorem cs_idir (h : cs_Inv M F pl kd pr ll lx ly fn) : ∀ n p, 1 ≤ n → n < M → ¬ kd n = 0 → p < M → pr n = nI p → kd p = 1 := h.2.2.2.2.2.2.2.1
theorem cs_ill (h : cs_Inv M F pl kd pr ll lx ly fn) : ∀ n, n < M → ∃ l, l ≤ 4 ∧ ll n = nI l ∧ ∀ j, j < l → lx (n * 4 + j) = ly (n * 4 + j) := h.2.2.2.2.2.2.2.2.1
theorem cs_ifn (h : cs_Inv M F pl kd pr ll lx ly fn) : ∀ s, s < F → fn s = -1 ∨ ∃ p, p < M ∧ fn s = nI p := h.2.2.2.2.2.2.2.2.2
theorem cs_vpl {pl' : Nat} (h : cs_Inv M F pl kd pr ll lx ly fn) (hp : pl' ≤ 8) : cs_Inv M F pl' kd pr ll lx ly fn :=
  ⟨h.1, h.2.1, hp, h.2.2.2⟩
theorem cs_vfn {s : Nat} {w : Int32} (h : cs_Inv M F pl kd pr ll lx ly fn) (hw : w = -1 ∨ ∃ p, p < M ∧ w = nI p) : cs_Inv M F pl kd pr ll lx ly (upd fn s w) := by
  refine ⟨cs_iM h, cs_iF h, cs_ipl h, cs_ik0 h, cs_ip0 h, cs_ikd h, cs_ipr h, cs_idir h, cs_ill h, fun q hq => ?_⟩
  by_cases e : q = s
  · rw [e, pk_us]; exact hw
  · rw [pk_un e]; exact cs_ifn h q hq
theorem cs_vnew {n d l : Nat} {kk : Int32} {kd' pr' ll' lx' ly' : Nat → Int32} (h : cs_Inv M F pl kd pr ll lx ly fn) (h1 : 1 ≤ n) (hn : n < M) (hf : kd n = 0) (hd : d < M) (hdd : kd d = 1)
    (hk : kk = 1 ∨ kk = 2 ∨ kk = 3) (ek : kd' n = kk) (ek' : ∀ q, q ≠ n → kd' q = kd q) (ep : pr' n = nI d) (ep' : ∀ q, q ≠ n → pr' q = pr q)
    (hl : l ≤ 4) (el : ll' n = nI l) (el' : ∀ q, q ≠ n → ll' q = ll q) (ec : ∀ j, j < l → lx' (n * 4 + j) = ly' (n * 4 + j))
    (ecx : ∀ q j, q ≠ n → j < 4 → lx' (q * 4 + j) = lx (q * 4 + j)) (ecy : ∀ q j, q ≠ n → j < 4 → ly' (q * 4 + j) = ly (q * 4 + j)) :
    cs_Inv M F pl kd' pr' ll' lx' ly' fn := by
  refine ⟨cs_iM h, cs_iF h, cs_ipl h, ?_, ?_, fun q hq => ?_, fun q hq => ?_, fun q p hq1 hq hkq hp hpq => ?_, fun q hq => ?_, cs_ifn h⟩
  · rw [ek' 0 (by omega)]; exact cs_ik0 h
  · rw [ep' 0 (by omega)]; exact cs_ip0 h
  · by_cases e : q = n
    · rw [e, ek]; exact Or.inr hk
    · rw [ek' q e]; exact cs_ikd h q hq
  · by_cases e : q = n
    · rw [e, ep]; exact ⟨d, hd, rfl⟩
    · rw [ep' q e]; exact cs_ipr h q hq
  · have hM := cs_iM h
    have hdn : d ≠ n := fun e => by
      rw [e, hf] at hdd
      exact absurd hdd (by decide)
    by_cases e : q = n
    · rw [e, ep] at hpq
      have := cs_im hpq (by omega) (by omega)
      rw [← this, ek' d hdn]; exact hdd
    · rw [ek' q e] at hkq
      rw [ep' q e] at hpq
      have hp1 := cs_idir h q p hq1 hq hkq hp hpq
      have hpn : p ≠ n := fun e2 => by
        rw [e2, hf] at hp1
        exact absurd hp1 (by decide)
      rw [ek' p hpn]; exact hp1
  · by_cases e : q = n
    · rw [e]; exact ⟨l, hl, el, ec⟩
    · obtain ⟨l2, hl2, el2, ec2⟩ := cs_ill h q hq
      refine ⟨l2, hl2, (el' q e).trans el2, fun j hj => ?_⟩
      rw [ecx q j e (by omega), ecy q j e (by omega)]
      exact ec2 j hj
theorem cs_vmov {m t : Nat} (h : cs_Inv M F pl kd pr ll lx ly fn) (h1 : 1 ≤ m) (ht : t < M) (hk : kd t = 1) : cs_Inv M F pl kd (upd pr m (nI t)) ll lx ly fn := by
  refine ⟨cs_iM h, cs_iF h, cs_ipl h, cs_ik0 h, ?_, cs_ikd h, fun q hq => ?_, fun q p hq1 hq hkq hp hpq => ?_, cs_ill h, cs_ifn h⟩
  · rw [pk_un (by omega)]; exact cs_ip0 h
  · by_cases e : q = m
    · rw [e, pk_us]; exact ⟨t, ht, rfl⟩
    · rw [pk_un e]; exact cs_ipr h q hq
  · have hM := cs_iM h
    by_cases e : q = m
    · rw [e, pk_us] at hpq
      have := cs_im hpq (by omega) (by omega)
      rw [← this]; exact hk
    · rw [pk_un e] at hpq
      exact cs_idir h q p hq1 hq hkq hp hpq
theorem cs_vdel {m : Nat} {ly' : Nat → Int32} (h : cs_Inv M F pl kd pr ll lx ly fn) (h1 : 1 ≤ m)
    (hc : ∀ n, 1 ≤ n → n < M → ¬ kd n = 0 → ¬ pr n = nI m)
    (ecy : ∀ q j, q ≠ m → j < 4 → ly' (q * 4 + j) = ly (q * 4 + j)) : cs_Inv M F pl (upd kd m 0) (upd pr m 0) (upd ll m 0) lx ly' fn := by
  refine ⟨cs_iM h, cs_iF h, cs_ipl h, ?_, ?_, fun q hq => ?_, fun q hq => ?_, fun q p hq1 hq hkq hp hpq => ?_, fun q hq => ?_, cs_ifn h⟩
  · rw [pk_un (by omega)]; exact cs_ik0 h
  · rw [pk_un (by omega)]; exact cs_ip0 h
  · by_cases e : q = m
    · rw [e, pk_us]; exact Or.inl rfl
    · rw [pk_un e]; exact cs_ikd h q hq
  · by_cases e : q = m
    · rw [e, pk_us]; exact ⟨0, by omega, nI_0.symm⟩
    · rw [pk_un e]; exact cs_ipr h q hq
  · by_cases e : q = m
    · rw [e, pk_us] at hkq
      exact absurd rfl hkq
    · rw [pk_un e] at hkq hpq
      have hpm : p ≠ m := fun e2 => hc q hq1 hq hkq (by rw [hpq, e2])
      rw [pk_un hpm]
      exact cs_idir h q p hq1 hq hkq hp hpq
  · by_cases e : q = m
    · rw [e, pk_us]; exact ⟨0, by omega, nI_0.symm, fun j hj => absurd hj (Nat.not_lt_zero _)⟩
    · obtain ⟨l2, hl2, el2, ec2⟩ := cs_ill h q hq
      refine ⟨l2, hl2, (pk_un e).trans el2, fun j hj => ?_⟩
      rw [ecy q j e (by omega)]
      exact ec2 j hj
end
end
section
/-- descriptor fd is closed, or no descriptor -/
def cs_shut (F : Nat) (fn : Nat → Int32) (fd : Int32) : Prop := fd < 0 ∨ nI F ≤ fd ∨ ∃ j, j < F ∧ fd = nI j ∧ fn j = -1
section
variable {M F pl : Nat} {pa cp ps wn wd wh : Int32} {kd pr nm ll la lx ly fn fr fo pt pd py : Nat → Int32}
theorem cs_ofd (h : cs_Inv M F pl kd pr ll lx ly fn) (fd : Int32) : (∃ j p, j < F ∧ p < M ∧ fd = nI j ∧ fn j = nI p) ∨ cs_shut F fn fd := by
  have hF := cs_iF h
  rcases pk_ix fd (n := F) (by omega) with c | c | ⟨j, hj, e⟩
  · exact Or.inr (Or.inl c)
  · exact Or.inr (Or.inr (Or.inl c))
  · rcases cs_ifn h j hj with z | ⟨p, hp, z⟩
    · exact Or.inr (Or.inr (Or.inr ⟨j, hj, e, z⟩))
    · exact Or.inl ⟨j, p, hj, hp, e, z⟩
theorem xs_open {post : Int32 → Prop} {j p : Nat} (h : cs_Inv M F pl kd pr ll lx ly fn) (hj : j < F) (hp : p < M) (e : fn j = nI p) (k : post 1) : wpX_isOpen post (nI M, nI F, nI pl, pa, cp, ps, wn, wd, wh, kd, pr, nm, ll, la, lx, fn, fr, fo, pt, pd) (nI j) := by
  have hM := cs_iM h
  have hF := cs_iF h
  have ne : ¬ fn (nI j).toNatClampNeg = -1 := by rw [nI_clamp (by omega), e]; exact cs_nm1 (by omega)
  exact br_f (nI_pos (by omega)) (br_f (nI_ge hj (by omega)) ⟨vp_in_nI (by omega) (by omega), br_f ne k⟩)
theorem ys_open {post : Int32 → Prop} {j p : Nat} (h : cs_Inv M F pl kd pr ll lx ly fn) (hj : j < F) (hp : p < M) (e : fn j = nI p) (k : post 1) : wpY_isOpen post (nI M, nI F, cp, pa, nI pl, kd, pr, nm, ll, la, ly, fn, fr, fo, pt, py) (nI j) := by
  have hM := cs_iM h
  have hF := cs_iF h
  have ne : ¬ fn (nI j).toNatClampNeg < 0 := by rw [nI_clamp (by omega), e]; exact nI_pos (by omega)
  exact br_f (nI_pos (by omega)) (br_f (nI_ge hj (by omega)) ⟨vp_in_nI (by omega) (by omega), br_f ne k⟩)
theorem xs_shut {post : Int32 → Prop} {fd : Int32} (h : cs_Inv M F pl kd pr ll lx ly fn) (hc : cs_shut F fn fd) (k : post 0) : wpX_isOpen post (nI M, nI F, nI pl, pa, cp, ps, wn, wd, wh, kd, pr, nm, ll, la, lx, fn, fr, fo, pt, pd) fd := by
  have hF := cs_iF h
  by_cases c0 : fd < 0
  · exact br_t c0 k
  · rcases hc with c | c | ⟨j, hj, rfl, e⟩
    · exact br_t c k
    · exact br_f c0 (br_t c k)
    · have ne : fn (nI j).toNatClampNeg = -1 := by rw [nI_clamp (by omega), e]
      exact br_f c0 (br_f (nI_ge hj (by omega)) ⟨vp_in_nI (by omega) (by omega), br_t ne k⟩)
theorem ys_shut {post : Int32 → Prop} {fd : Int32} (h : cs_Inv M F pl kd pr ll lx ly fn) (hc : cs_shut F fn fd) (k : post 0) : wpY_isOpen post (nI M, nI F, cp, pa, nI pl, kd, pr, nm, ll, la, ly, fn, fr, fo, pt, py) fd := by
  have hF := cs_iF h
  by_cases c0 : fd < 0
  · exact br_t c0 k
  · rcases hc with c | c | ⟨j, hj, rfl, e⟩
    · exact br_t c k
    · exact br_f c0 (br_t c k)
    · have ne : fn (nI j).toNatClampNeg < 0 := by rw [nI_clamp (by omega), e]; exact cs_m1lt
      exact br_f c0 (br_f (nI_ge hj (by omega)) ⟨vp_in_nI (by omega) (by omega), br_t ne k⟩)
/-! the directory check of the class: four answers -/
theorem xs_ref_shut {post : Int32 → Prop} {fd R : Int32} (h : cs_Inv M F pl kd pr ll lx ly fn) (hc : cs_shut F fn fd) (k : post (-1)) : wpX_refusalToUseDirectory post (nI M, nI F, nI pl, pa, cp, ps, wn, wd, wh, kd, pr, nm, ll, la, lx, fn, fr, fo, pt, pd) fd R := by
  unfold wpX_refusalToUseDirectory
  exact xs_shut (post := _) h hc (br_t rfl k)
theorem xs_isdir {post : Int32 → Prop} {j p : Nat} (h : cs_Inv M F pl kd pr ll lx ly fn) (hj : j < F) (hp : p < M) (e : fn j = nI p) (z : kd p = 1) (k : post 1) : wpX_isDirectoryFd post (nI M, nI F, nI pl, pa, cp, ps, wn, wd, wh, kd, pr, nm, ll, la, lx, fn, fr, fo, pt, pd) (nI j) := by
  have hM := cs_iM h
  have hF := cs_iF h
  have e1 : fn (nI j).toNatClampNeg = nI p := by rw [nI_clamp (by omega), e]
  have hv : vp_in (fn (nI j).toNatClampNeg) 32 := by rw [e1]; exact vp_in_nI (by omega) (by omega)
  have z1 : kd (fn (nI j).toNatClampNeg).toNatClampNeg = 1 := by rw [e1, nI_clamp (by omega), z]
  exact ⟨vp_in_nI (by omega) (by omega), hv, br_t z1 k⟩
theorem xs_nodir {post : Int32 → Prop} {j p : Nat} (h : cs_Inv M F pl kd pr ll lx ly fn) (hj : j < F) (hp : p < M) (e : fn j = nI p) (z : ¬ kd p = 1) (k : post 0) : wpX_isDirectoryFd post (nI M, nI F, nI pl, pa, cp, ps, wn, wd, wh, kd, pr, nm, ll, la, lx, fn, fr, fo, pt, pd) (nI j) := by
  have hM := cs_iM h
  have hF := cs_iF h
  have e1 : fn (nI j).toNatClampNeg = nI p := by rw [nI_clamp (by omega), e]
  have hv : vp_in (fn (nI j).toNatClampNeg) 32 := by rw [e1]; exact vp_in_nI (by omega) (by omega)
  have z1 : ¬ kd (fn (nI j).toNatClampNeg).toNatClampNeg = 1 := by rw [e1, nI_clamp (by omega)]; exact z
  exact ⟨vp_in_nI (by omega) (by omega), hv, br_f z1 k⟩
theorem xs_right {post : Int32 → Prop} {j : Nat} {R : Int32} (h : cs_Inv M F pl kd pr ll lx ly fn) (hj : j < F) (z : ¬ fr j &&& R = 0) (k : post 1) : wpX_hasRight post (nI M, nI F, nI pl, pa, cp, ps, wn, wd, wh, kd, pr, nm, ll, la, lx, fn, fr, fo, pt, pd) (nI j) R := by
  have hF := cs_iF h
  have z1 : ¬ fr (nI j).toNatClampNeg &&& R = 0 := by rw [nI_clamp (by omega)]; exact z
  exact ⟨vp_in_nI (by omega) (by omega), br_f z1 k⟩
theorem xs_noright {post : Int32 → Prop} {j : Nat} {R : Int32} (h : cs_Inv M F pl kd pr ll lx ly fn) (hj : j < F) (z : fr j &&& R = 0) (k : post 0) : wpX_hasRight post (nI M, nI F, nI pl, pa, cp, ps, wn, wd, wh, kd, pr, nm, ll, la, lx, fn, fr, fo, pt, pd) (nI j) R := by
  have hF := cs_iF h
  have z1 : fr (nI j).toNatClampNeg &&& R = 0 := by rw [nI_clamp (by omega)]; exact z
  exact ⟨vp_in_nI (by omega) (by omega), br_t z1 k⟩
theorem cs_10 : ¬ (1 : Int32) = 0 := by decide
theorem xs_ref_nodir {post : Int32 → Prop} {j p : Nat} {R : Int32} (h : cs_Inv M F pl kd pr ll lx ly fn) (hj : j < F) (hp : p < M) (e : fn j = nI p) (z : ¬ kd p = 1) (k : post (-4)) : wpX_refusalToUseDirectory post (nI M, nI F, nI pl, pa, cp, ps, wn, wd, wh, kd, pr, nm, ll, la, lx, fn, fr, fo, pt, pd) (nI j) R := by
  unfold wpX_refusalToUseDirectory
  exact xs_open (post := _) h hj hp e (br_f cs_10 (xs_nodir (post := _) h hj hp e z (br_t rfl k)))
theorem xs_ref_nocap {post : Int32 → Prop} {j p : Nat} {R : Int32} (h : cs_Inv M F pl kd pr ll lx ly fn) (hj : j < F) (hp : p < M) (e : fn j = nI p) (z : kd p = 1) (zr : fr j &&& R = 0) (k : post (-2)) : wpX_refusalToUseDirectory post (nI M, nI F, nI pl, pa, cp, ps, wn, wd, wh, kd, pr, nm, ll, la, lx, fn, fr, fo, pt, pd) (nI j) R := by
  unfold wpX_refusalToUseDirectory
  exact xs_open (post := _) h hj hp e (br_f cs_10 (xs_isdir (post := _) h hj hp e z (br_f cs_10 (xs_noright (post := _) h hj zr (br_t rfl k)))))
theorem xs_ref_ok {post : Int32 → Prop} {j p : Nat} {R : Int32} (h : cs_Inv M F pl kd pr ll lx ly fn) (hj : j < F) (hp : p < M) (e : fn j = nI p) (z : kd p = 1) (zr : ¬ fr j &&& R = 0) (k : post 0) : wpX_refusalToUseDirectory post (nI M, nI F, nI pl, pa, cp, ps, wn, wd, wh, kd, pr, nm, ll, la, lx, fn, fr, fo, pt, pd) (nI j) R := by
  unfold wpX_refusalToUseDirectory
  exact xs_open (post := _) h hj hp e (br_f cs_10 (xs_isdir (post := _) h hj hp e z (br_f cs_10 (xs_right (post := _) h hj zr (br_f cs_10 k)))))
end
end
section
section
variable {M F pl : Nat} {pa cp ps wn wd wh : Int32} {kd pr nm ll la lx ly fn fr fo pt pd py : Nat → Int32}
/-! children by name, in lockstep -/
theorem cs_child0 (d c : Int32) (hM : M ≤ 32) : ∀ q i, i + q = M → ∃ r : Int32, (r = -1 ∨ ∃ n, i ≤ n ∧ n < M ∧ r = nI n ∧ ¬ kd n = 0 ∧ pr n = d ∧ nm n = c) ∧
    (∀ post : Int32 → Prop, post r → wX_childNamed_2 post d c (nI M) (nI F) (nI pl) pa cp ps wn wd wh kd pr nm ll la lx fn fr fo pt pd (q + 1) (nI i)) ∧ (∀ post : Int32 → Prop, post r → wY_findChild_2 post d c (nI M) (nI F) cp pa (nI pl) kd pr nm ll la ly fn fr fo pt py (q + 1) (nI i)) := by
  intro q
  induction q with
  | zero =>
    intro i hi
    have hc : nI M ≤ nI i := nI_le (by omega) (by omega)
    exact ⟨-1, Or.inl rfl, fun _ hp => br_t hc hp, fun _ hp => br_t hc hp⟩
  | succ q ih =>
    intro i hi
    have hc : ¬ nI M ≤ nI i := nI_ge (by omega) (by omega)
    have hv : vp_in (nI i) 32 := vp_in_nI (by omega) (by omega)
    have ci : (nI i).toNatClampNeg = i := nI_clamp (by omega)
    obtain ⟨r, hr, hX, hY⟩ := ih (i + 1) (by omega)
    have hr' : (r = -1 ∨ ∃ n, i ≤ n ∧ n < M ∧ r = nI n ∧ ¬ kd n = 0 ∧ pr n = d ∧ nm n = c) := by
      rcases hr with e | ⟨n, h1, h2⟩
      · exact Or.inl e
      · exact Or.inr ⟨n, by omega, h2⟩
    by_cases z1 : kd (nI i).toNatClampNeg = 0
    · exact ⟨r, hr', fun post hp => br_f hc ⟨hv, br_t z1 (br_t rfl (nm_r (nI_1 i) (hX post hp)))⟩, fun post hp => br_f hc ⟨hv, br_t z1 (nm_r (nI_1 i) (hY post hp))⟩⟩
    · by_cases z2 : pr (nI i).toNatClampNeg = d
      · by_cases z3 : nm (nI i).toNatClampNeg = c
        · refine ⟨nI i, Or.inr ⟨i, Nat.le_refl i, by omega, rfl, ?_, ?_, ?_⟩, fun post hp => br_f hc ⟨hv, br_f z1 ⟨hv, br_t z2 (br_f cs_10 ⟨hv, br_t z3 hp⟩)⟩⟩, fun post hp => br_f hc ⟨hv, br_f z1 ⟨hv, br_t z2 ⟨hv, br_t z3 hp⟩⟩⟩⟩
          · rw [ci] at z1; exact z1
          · rw [ci] at z2; exact z2
          · rw [ci] at z3; exact z3
        · exact ⟨r, hr', fun post hp => br_f hc ⟨hv, br_f z1 ⟨hv, br_t z2 (br_f cs_10 ⟨hv, br_f z3 (nm_r (nI_1 i) (hX post hp))⟩)⟩⟩, fun post hp => br_f hc ⟨hv, br_f z1 ⟨hv, br_t z2 ⟨hv, br_f z3 (nm_r (nI_1 i) (hY post hp))⟩⟩⟩⟩
      · exact ⟨r, hr', fun post hp => br_f hc ⟨hv, br_f z1 ⟨hv, br_f z2 (br_t rfl (nm_r (nI_1 i) (hX post hp)))⟩⟩, fun post hp => br_f hc ⟨hv, br_f z1 ⟨hv, br_f z2 (nm_r (nI_1 i) (hY post hp))⟩⟩⟩
theorem cs_child (h : cs_Inv M F pl kd pr ll lx ly fn) (d c : Int32) : ∃ r : Int32, (r = -1 ∨ ∃ n, 1 ≤ n ∧ n < M ∧ r = nI n ∧ ¬ kd n = 0 ∧ pr n = d ∧ nm n = c) ∧
    (∀ post : Int32 → Prop, post r → wpX_childNamed post (nI M, nI F, nI pl, pa, cp, ps, wn, wd, wh, kd, pr, nm, ll, la, lx, fn, fr, fo, pt, pd) d c) ∧ (∀ post : Int32 → Prop, post r → wpY_findChild post (nI M, nI F, cp, pa, nI pl, kd, pr, nm, ll, la, ly, fn, fr, fo, pt, py) d c) := by
  have hM := cs_iM h
  obtain ⟨r, hr, hX, hY⟩ := cs_child0 (M := M) (F := F) (pl := pl) (pa := pa) (cp := cp) (ps := ps) (wn := wn) (wd := wd) (wh := wh) (kd := kd) (pr := pr) (nm := nm) (ll := ll) (la := la) (lx := lx) (ly := ly) (fn := fn) (fr := fr) (fo := fo) (pt := pt) (pd := pd) (py := py) d c hM.2 (M - 1) 1 (by omega)
  exact ⟨r, hr, fun post hp => ⟨_, hX post hp⟩, fun post hp => ⟨_, hY post hp⟩⟩
/-! the lowest closed slot, in lockstep -/
theorem cs_slot0 (hF : F ≤ 16) (hn : ∀ s, s < F → fn s = -1 ∨ ∃ p, p < M ∧ fn s = nI p) (hM : M ≤ 32) : ∀ q i, i + q = F → ∃ r : Int32, (r = -1 ∨ ∃ s, s < F ∧ r = nI s ∧ fn s = -1) ∧
    (∀ post : Int32 → Prop, post r → wX_lowestClosedSlot_2 post (nI M) (nI F) (nI pl) pa cp ps wn wd wh kd pr nm ll la lx fn fr fo pt pd (q + 1) (nI i)) ∧ (∀ post : Int32 → Prop, post r → wY_freeSlot_2 post (nI M) (nI F) cp pa (nI pl) kd pr nm ll la ly fn fr fo pt py (q + 1) (nI i)) := by
  intro q
  induction q with
  | zero =>
    intro i hi
    have hc : nI F ≤ nI i := nI_le (by omega) (by omega)
    exact ⟨-1, Or.inl rfl, fun _ hp => br_t hc hp, fun _ hp => br_t hc hp⟩
  | succ q ih =>
    intro i hi
    have hc : ¬ nI F ≤ nI i := nI_ge (by omega) (by omega)
    have hv : vp_in (nI i) 16 := vp_in_nI (by omega) (by omega)
    have ci : (nI i).toNatClampNeg = i := nI_clamp (by omega)
    obtain ⟨r, hr, hX, hY⟩ := ih (i + 1) (by omega)
    rcases hn i (by omega) with e | ⟨p, hp, e⟩
    · have zx : fn (nI i).toNatClampNeg = -1 := by rw [ci, e]
      have zy : ¬ 0 ≤ fn (nI i).toNatClampNeg := by rw [ci, e]; exact cs_m1ge
      exact ⟨nI i, Or.inr ⟨i, by omega, rfl, e⟩, fun post hp => br_f hc ⟨hv, br_t zx hp⟩, fun post hp => br_f hc ⟨hv, br_f zy hp⟩⟩
    · have zx : ¬ fn (nI i).toNatClampNeg = -1 := by rw [ci, e]; exact cs_nm1 (by omega)
      have zy : 0 ≤ fn (nI i).toNatClampNeg := by rw [ci, e]; exact nI_pos' (by omega)
      exact ⟨r, hr, fun post hp => br_f hc ⟨hv, br_f zx (nm_r (nI_1 i) (hX post hp))⟩, fun post hp => br_f hc ⟨hv, br_t zy (nm_r (nI_1 i) (hY post hp))⟩⟩
theorem cs_slot (h : cs_Inv M F pl kd pr ll lx ly fn) : ∃ r : Int32, (r = -1 ∨ ∃ s, s < F ∧ r = nI s ∧ fn s = -1) ∧
    (∀ post : Int32 → Prop, post r → wpX_lowestClosedSlot post (nI M, nI F, nI pl, pa, cp, ps, wn, wd, wh, kd, pr, nm, ll, la, lx, fn, fr, fo, pt, pd)) ∧ (∀ post : Int32 → Prop, post r → wpY_freeSlot post (nI M, nI F, cp, pa, nI pl, kd, pr, nm, ll, la, ly, fn, fr, fo, pt, py)) := by
  have hM := cs_iM h
  have hF := cs_iF h
  obtain ⟨r, hr, hX, hY⟩ := cs_slot0 (M := M) (F := F) (pl := pl) (pa := pa) (cp := cp) (ps := ps) (wn := wn) (wd := wd) (wh := wh) (kd := kd) (pr := pr) (nm := nm) (ll := ll) (la := la) (lx := lx) (ly := ly) (fn := fn) (fr := fr) (fo := fo) (pt := pt) (pd := pd) (py := py) hF.2 (cs_ifn h) hM.2 F 0 (by omega)
  rw [nI_0] at hX hY
  exact ⟨r, hr, fun post hp => ⟨_, hX post hp⟩, fun post hp => ⟨_, hY post hp⟩⟩
/-! the counts of status, in lockstep -/
theorem cs_cntN (hM : M ≤ 32) : ∀ q i (c : Int32), i + q = M → ∃ r : Int32,
    (∀ post : Int32 → Prop, post r → wX_countUsedNodes_4 post (nI M) (nI F) (nI pl) pa cp ps wn wd wh kd pr nm ll la lx fn fr fo pt pd (q + 1) c (nI i)) ∧ (∀ post : Int32 → Prop, post r → wY_status_54 post (nI M) (nI F) cp pa (nI pl) kd pr nm ll la ly fn fr fo pt py (q + 1) c (nI i)) := by
  intro q
  induction q with
  | zero =>
    intro i c hi
    have hc : nI M ≤ nI i := nI_le (by omega) (by omega)
    exact ⟨c, fun _ hp => br_t hc hp, fun _ hp => br_t hc hp⟩
  | succ q ih =>
    intro i c hi
    have hc : ¬ nI M ≤ nI i := nI_ge (by omega) (by omega)
    have hv : vp_in (nI i) 32 := vp_in_nI (by omega) (by omega)
    by_cases z : kd (nI i).toNatClampNeg = 0
    · obtain ⟨r, hX, hY⟩ := ih (i + 1) c (by omega)
      exact ⟨r, fun post hp => br_f hc ⟨hv, br_t z (nm_r (nI_1 i) (hX post hp))⟩, fun post hp => br_f hc ⟨hv, br_t z (nm_r (nI_1 i) (hY post hp))⟩⟩
    · obtain ⟨r, hX, hY⟩ := ih (i + 1) (c + 1) (by omega)
      exact ⟨r, fun post hp => br_f hc ⟨hv, br_f z (nm_e (nm_r (nI_1 i) (hX post hp)))⟩, fun post hp => br_f hc ⟨hv, br_f z (nm_e (nm_r (nI_1 i) (hY post hp)))⟩⟩
theorem cs_cntF (hF : F ≤ 16) (hn : ∀ s, s < F → fn s = -1 ∨ ∃ p, p < M ∧ fn s = nI p) (hM : M ≤ 32) : ∀ q i (c : Int32), i + q = F → ∃ r : Int32,
    (∀ post : Int32 → Prop, post r → wX_countOpenSlots_4 post (nI M) (nI F) (nI pl) pa cp ps wn wd wh kd pr nm ll la lx fn fr fo pt pd (q + 1) c (nI i)) ∧ (∀ post : Int32 → Prop, post r → wY_status_91 post (nI M) (nI F) cp pa (nI pl) kd pr nm ll la ly fn fr fo pt py (q + 1) c (nI i)) := by
  intro q
  induction q with
  | zero =>
    intro i c hi
    have hc : nI F ≤ nI i := nI_le (by omega) (by omega)
    exact ⟨c, fun _ hp => br_t hc hp, fun _ hp => br_t hc hp⟩
  | succ q ih =>
    intro i c hi
    have hc : ¬ nI F ≤ nI i := nI_ge (by omega) (by omega)
    have hv : vp_in (nI i) 16 := vp_in_nI (by omega) (by omega)
    have ci : (nI i).toNatClampNeg = i := nI_clamp (by omega)
    rcases hn i (by omega) with e | ⟨p, hp, e⟩
    · have zx : fn (nI i).toNatClampNeg = -1 := by rw [ci, e]
      have zy : fn (nI i).toNatClampNeg < 0 := by rw [ci, e]; exact cs_m1lt
      obtain ⟨r, hX, hY⟩ := ih (i + 1) c (by omega)
      exact ⟨r, fun post hp => br_f hc ⟨hv, br_t zx (nm_r (nI_1 i) (hX post hp))⟩, fun post hp => br_f hc ⟨hv, br_t zy (nm_r (nI_1 i) (hY post hp))⟩⟩
    · have zx : ¬ fn (nI i).toNatClampNeg = -1 := by rw [ci, e]; exact cs_nm1 (by omega)
      have zy : ¬ fn (nI i).toNatClampNeg < 0 := by rw [ci, e]; exact nI_pos (by omega)
      obtain ⟨r, hX, hY⟩ := ih (i + 1) (c + 1) (by omega)
      exact ⟨r, fun post hp => br_f hc ⟨hv, br_f zx (nm_e (nm_r (nI_1 i) (hX post hp)))⟩, fun post hp => br_f hc ⟨hv, br_f zy (nm_e (nm_r (nI_1 i) (hY post hp)))⟩⟩
/-! create's lowest free node -/
theorem xs_free1 {post : Int32 → Prop} {s : Nat} (hM : M ≤ 32) (hs : s < M) (z : kd s = 0) (k : post (nI s)) : ∀ q i, i + q = s → (∀ t, i ≤ t → t < s → ¬ kd t = 0) → wX_lowestFreeNode_2 post (nI M) (nI F) (nI pl) pa cp ps wn wd wh kd pr nm ll la lx fn fr fo pt pd (q + 1) (nI i) := by
  intro q
  induction q with
  | zero =>
    intro i hi _
    have e : i = s := by omega
    subst e
    have zx : kd (nI i).toNatClampNeg = 0 := by rw [nI_clamp (by omega), z]
    exact br_f (nI_ge (by omega) (by omega)) ⟨vp_in_nI (by omega) (by omega), br_t zx k⟩
  | succ q ih =>
    intro i hi hz
    have zx : ¬ kd (nI i).toNatClampNeg = 0 := by rw [nI_clamp (by omega)]; exact hz i (by omega) (by omega)
    exact br_f (nI_ge (by omega) (by omega)) ⟨vp_in_nI (by omega) (by omega), br_f zx (nm_r (nI_1 i) (ih (i + 1) (by omega) (fun t h1 h2 => hz t (by omega) h2)))⟩
theorem xs_free0 {post : Int32 → Prop} (hM : M ≤ 32) (k : post (-1)) : ∀ q i, i + q = M → (∀ t, i ≤ t → t < M → ¬ kd t = 0) → wX_lowestFreeNode_2 post (nI M) (nI F) (nI pl) pa cp ps wn wd wh kd pr nm ll la lx fn fr fo pt pd (q + 1) (nI i) := by
  intro q
  induction q with
  | zero =>
    intro i hi _
    exact br_t (nI_le (by omega) (by omega)) k
  | succ q ih =>
    intro i hi hz
    have zx : ¬ kd (nI i).toNatClampNeg = 0 := by rw [nI_clamp (by omega)]; exact hz i (by omega) (by omega)
    exact br_f (nI_ge (by omega) (by omega)) ⟨vp_in_nI (by omega) (by omega), br_f zx (nm_r (nI_1 i) (ih (i + 1) (by omega) (fun t h1 h2 => hz t (by omega) h2)))⟩
/-! held open, children -/
theorem xs_held1 {post : Int32 → Prop} {s m : Nat} (hF : F ≤ 16) (hs : s < F) (z : fn s = nI m) (k : post 1) : ∀ q i, i + q = s → wX_isHeldOpen_2 post (nI m) (nI M) (nI F) (nI pl) pa cp ps wn wd wh kd pr nm ll la lx fn fr fo pt pd (q + 1) (nI i) := by
  intro q
  induction q with
  | zero =>
    intro i hi
    have e : i = s := by omega
    subst e
    have zx : fn (nI i).toNatClampNeg = nI m := by rw [nI_clamp (by omega), z]
    exact br_f (nI_ge (by omega) (by omega)) ⟨vp_in_nI (by omega) (by omega), br_t zx k⟩
  | succ q ih =>
    intro i hi
    exact br_f (nI_ge (by omega) (by omega)) ⟨vp_in_nI (by omega) (by omega), br_c (fun _ => k) (fun _ => nm_r (nI_1 i) (ih (i + 1) (by omega)))⟩
theorem xs_held0 {post : Int32 → Prop} {m : Nat} (hF : F ≤ 16) (hz : ∀ t, t < F → ¬ fn t = nI m) (k : post 0) : ∀ q i, i + q = F → wX_isHeldOpen_2 post (nI m) (nI M) (nI F) (nI pl) pa cp ps wn wd wh kd pr nm ll la lx fn fr fo pt pd (q + 1) (nI i) := by
  intro q
  induction q with
  | zero =>
    intro i hi
    exact br_t (nI_le (by omega) (by omega)) k
  | succ q ih =>
    intro i hi
    have zx : ¬ fn (nI i).toNatClampNeg = nI m := by rw [nI_clamp (by omega)]; exact hz i (by omega)
    exact br_f (nI_ge (by omega) (by omega)) ⟨vp_in_nI (by omega) (by omega), br_f zx (nm_r (nI_1 i) (ih (i + 1) (by omega)))⟩
theorem xs_kids1 {post : Int32 → Prop} {s m : Nat} (hM : M ≤ 32) (hs : s < M) (z1 : ¬ kd s = 0) (z2 : pr s = nI m) (k : post 1) : ∀ q i, i + q = s → wX_hasChildren_2 post (nI m) (nI M) (nI F) (nI pl) pa cp ps wn wd wh kd pr nm ll la lx fn fr fo pt pd (q + 1) (nI i) := by
  intro q
  induction q with
  | zero =>
    intro i hi
    have e : i = s := by omega
    subst e
    have hv : vp_in (nI i) 32 := vp_in_nI (by omega) (by omega)
    have x1 : ¬ kd (nI i).toNatClampNeg = 0 := by rw [nI_clamp (by omega)]; exact z1
    have x2 : pr (nI i).toNatClampNeg = nI m := by rw [nI_clamp (by omega), z2]
    exact br_f (nI_ge (by omega) (by omega)) ⟨hv, br_f x1 ⟨hv, br_t x2 (br_f cs_10 k)⟩⟩
  | succ q ih =>
    intro i hi
    have hv : vp_in (nI i) 32 := vp_in_nI (by omega) (by omega)
    have nx := ih (i + 1) (by omega)
    exact br_f (nI_ge (by omega) (by omega)) ⟨hv, br_c (fun _ => br_t rfl (nm_r (nI_1 i) nx)) (fun _ => ⟨hv, br_c (fun _ => br_f cs_10 k) (fun _ => br_t rfl (nm_r (nI_1 i) nx))⟩)⟩
theorem xs_kids0 {post : Int32 → Prop} {m : Nat} (hM : M ≤ 32) (hz : ∀ t, 1 ≤ t → t < M → ¬ kd t = 0 → ¬ pr t = nI m) (k : post 0) : ∀ q i, 1 ≤ i → i + q = M → wX_hasChildren_2 post (nI m) (nI M) (nI F) (nI pl) pa cp ps wn wd wh kd pr nm ll la lx fn fr fo pt pd (q + 1) (nI i) := by
  intro q
  induction q with
  | zero =>
    intro i h1 hi
    exact br_t (nI_le (by omega) (by omega)) k
  | succ q ih =>
    intro i h1 hi
    have hv : vp_in (nI i) 32 := vp_in_nI (by omega) (by omega)
    have ci : (nI i).toNatClampNeg = i := nI_clamp (by omega)
    have nx := ih (i + 1) (by omega) (by omega)
    refine br_f (nI_ge (by omega) (by omega)) ⟨hv, br_c (fun _ => br_t rfl (nm_r (nI_1 i) nx)) (fun x1 => ⟨hv, br_f ?_ (br_t rfl (nm_r (nI_1 i) nx))⟩)⟩
    rw [ci] at x1 ⊢
    exact hz i h1 (by omega) x1
/-! rename: the chain of parents -/
theorem xs_anc1 {post : Int32 → Prop} {t m s : Nat} (hM : M ≤ 32) (ht : t < M) (hm : m < M) (hp : ∀ n, n < M → ∃ p, p < M ∧ pr n = nI p) (hs : s < M) (e : cs_ch pr t s = m) (k : post 1) : ∀ q i, i + q = s → wX_isAtOrBelow_5 post (nI m) (nI M) (nI F) (nI pl) pa cp ps wn wd wh kd pr nm ll la lx fn fr fo pt pd (q + 1) (nI (cs_ch pr t i)) (nI i) := by
  intro q
  induction q with
  | zero =>
    intro i hi
    have e2 : i = s := by omega
    subst e2
    exact br_f (nI_ge (by omega) (by omega)) (br_t (by rw [e]) k)
  | succ q ih =>
    intro i hi
    have hl := cs_ch_lt hM ht hp i
    refine br_f (nI_ge (by omega) (by omega)) (br_c (fun _ => k) (fun _ => ⟨vp_in_nI (by omega) (by omega), nm_r ?_ (nm_r (nI_1 i) (ih (i + 1) (by omega)))⟩))
    rw [nI_clamp (by omega)]
    exact cs_ch_s hM ht hp i
theorem xs_anc0 {post : Int32 → Prop} {t m : Nat} (hM : M ≤ 32) (ht : t < M) (hm : m < M) (hp : ∀ n, n < M → ∃ p, p < M ∧ pr n = nI p) (hn : ∀ s, ¬ cs_ch pr t s = m) (k : post 0) : ∀ q i, i + q = M → wX_isAtOrBelow_5 post (nI m) (nI M) (nI F) (nI pl) pa cp ps wn wd wh kd pr nm ll la lx fn fr fo pt pd (q + 1) (nI (cs_ch pr t i)) (nI i) := by
  intro q
  induction q with
  | zero =>
    intro i hi
    exact br_t (nI_le (by omega) (by omega)) k
  | succ q ih =>
    intro i hi
    have hl := cs_ch_lt hM ht hp i
    refine br_f (nI_ge (by omega) (by omega)) (br_f (fun e => hn i (cs_im e (by omega) (by omega))) ⟨vp_in_nI (by omega) (by omega), nm_r ?_ (nm_r (nI_1 i) (ih (i + 1) (by omega)))⟩)
    rw [nI_clamp (by omega)]
    exact cs_ch_s hM ht hp i
end
end
section
section
variable {M F pl : Nat} {pa cp ps wn wd wh : Int32} {kd pr nm ll la lx ly fn fr fo pt pd py : Nat → Int32}
theorem xs_setSlot {post : SX → Prop} {s : Nat} {a b c : Int32} (hs : s < 16) (k : post (nI M, nI F, nI pl, pa, cp, ps, wn, wd, wh, kd, pr, nm, ll, la, lx, upd fn s a, upd fr s b, upd fo s c, pt, pd)) : wpX_setSlot post (nI M, nI F, nI pl, pa, cp, ps, wn, wd, wh, kd, pr, nm, ll, la, lx, fn, fr, fo, pt, pd) (nI s) a b c := by
  have cs : (nI s).toNatClampNeg = s := nI_clamp (by omega)
  have hv : vp_in (nI s) 16 := vp_in_nI hs (by omega)
  exact ⟨hv, nm_r (by rw [cs]) ⟨hv, nm_r (by rw [cs]) ⟨hv, nm_r (by rw [cs]) k⟩⟩⟩
theorem xs_oslot0 {post : Int32 → SX → Prop} {a b c : Int32} (hX : ∀ post : Int32 → Prop, post (-1) → wpX_lowestClosedSlot post (nI M, nI F, nI pl, pa, cp, ps, wn, wd, wh, kd, pr, nm, ll, la, lx, fn, fr, fo, pt, pd)) (k : post (-9) (nI M, nI F, nI pl, pa, cp, ps, wn, wd, wh, kd, pr, nm, ll, la, lx, fn, fr, fo, pt, pd)) : wpX_openSlot post (nI M, nI F, nI pl, pa, cp, ps, wn, wd, wh, kd, pr, nm, ll, la, lx, fn, fr, fo, pt, pd) a b c := by
  unfold wpX_openSlot
  exact hX _ (br_t rfl k)
theorem xs_oslot1 {post : Int32 → SX → Prop} {s : Nat} {a b c : Int32} (hs : s < 16) (hX : ∀ post : Int32 → Prop, post (nI s) → wpX_lowestClosedSlot post (nI M, nI F, nI pl, pa, cp, ps, wn, wd, wh, kd, pr, nm, ll, la, lx, fn, fr, fo, pt, pd)) (k : post (nI s) (nI M, nI F, nI pl, pa, cp, ps, wn, wd, wh, kd, pr, nm, ll, la, lx, upd fn s a, upd fr s b, upd fo s c, pt, pd)) : wpX_openSlot post (nI M, nI F, nI pl, pa, cp, ps, wn, wd, wh, kd, pr, nm, ll, la, lx, fn, fr, fo, pt, pd) a b c := by
  unfold wpX_openSlot
  exact hX _ (br_f (cs_nm1 (by omega)) (xs_setSlot (post := _) hs k))
end
theorem i_vc_pathPush {k : Nat} {u : SX} {v : SY} (I : i_Rel k u v) (hk : k + 5 ≤ 2562) (v1 : Int32) : wpX_pathPush (fun r u' => wpY_pathPush (fun r' v' => r' = r ∧ i_Rel (k + 5) u' v') v v1) u v1 := by
  obtain ⟨M, F, pl, pa, cp, ps, wn, wd, wh, kd, pr, nm, ll, la, lx, ly, fn, fr, fo, pt, pd, py, rfl, rfl, h⟩ := I
  have hpl := cs_ipl h
  by_cases c0 : v1 < 0
  · exact br_t c0 (br_t c0 ⟨rfl, cs_rel _ h⟩)
  · by_cases c1 : v1 ≤ 16
    · by_cases c2 : pl < 8
      · have e : nI pl < 8 := nI_lt (b := 8) c2 (by decide)
        have hv : vp_in (nI pl) 8 := vp_in_nI c2 (by omega)
        refine br_f c0 (br_t c1 (br_t e ⟨hv, nm_e (nm_r (nI_1 pl) ?_)⟩))
        refine br_f c0 (br_t c1 (br_t e ⟨hv, nm_e (nm_r (nI_1 pl) ?_)⟩))
        exact ⟨rfl, cs_rel _ (cs_vpl h (by omega))⟩
      · have e : ¬ nI pl < 8 := nI_nlt (b := 8) (by omega) (by omega)
        exact br_f c0 (br_t c1 (br_f e (br_f c0 (br_t c1 (br_f e ⟨rfl, cs_rel _ h⟩)))))
    · exact br_f c0 (br_f c1 (br_f c0 (br_f c1 ⟨rfl, cs_rel _ h⟩)))
theorem i_vc_enterCapMode {k : Nat} {u : SX} {v : SY} (I : i_Rel k u v) (hk : k + 5 ≤ 2562) : wpX_enterCapMode (fun u' => wpY_enterCapMode (fun v' => i_Rel (k + 5) u' v') v) u := by
  obtain ⟨M, F, pl, pa, cp, ps, wn, wd, wh, kd, pr, nm, ll, la, lx, ly, fn, fr, fo, pt, pd, py, rfl, rfl, h⟩ := I
  unfold wpX_enterCapMode wpY_enterCapMode
  exact cs_rel (k + 5) h
theorem i_vc_derive {k : Nat} {u : SX} {v : SY} (I : i_Rel k u v) (hk : k + 5 ≤ 2562) (v1 : Int32) (v2 : Int32) : wpX_derive (fun r u' => wpY_derive (fun r' v' => r' = r ∧ i_Rel (k + 5) u' v') v v1 v2) u v1 v2 := by
  obtain ⟨M, F, pl, pa, cp, ps, wn, wd, wh, kd, pr, nm, ll, la, lx, ly, fn, fr, fo, pt, pd, py, rfl, rfl, h⟩ := I
  have hM := cs_iM h
  have hF := cs_iF h
  unfold wpX_derive wpY_derive
  rcases cs_ofd h v1 with ⟨j, p, hj, hp, rfl, e⟩ | hc
  · have hv : vp_in (nI j) 16 := vp_in_nI (by omega) (by omega)
    have e1 : fn (nI j).toNatClampNeg = nI p := by rw [nI_clamp (by omega), e]
    obtain ⟨r, hr, sX, sY⟩ := cs_slot (pa := pa) (cp := cp) (ps := ps) (wn := wn) (wd := wd) (wh := wh) (nm := nm) (la := la) (fr := fr) (fo := fo) (pt := pt) (pd := pd) (py := py) h
    rcases hr with rfl | ⟨s, hs, rfl, z⟩
    · refine xs_open (post := _) h hj hp e (br_f cs_10 ⟨hv, hv, xs_oslot0 (post := _) sX ?_⟩)
      exact ys_open (post := _) h hj hp e (br_f cs_10 (sY _ (br_f cs_m1ge ⟨rfl, cs_rel _ h⟩)))
    · have hw : vp_in (nI s) 16 := vp_in_nI (by omega) (by omega)
      have es : (nI s).toNatClampNeg = s := nI_clamp (by omega)
      refine xs_open (post := _) h hj hp e (br_f cs_10 ⟨hv, hv, xs_oslot1 (post := _) (by omega) sX ?_⟩)
      refine ys_open (post := _) h hj hp e (br_f cs_10 (sY _ (br_t (nI_pos' (by omega)) ⟨hv, hw, nm_r (by rw [es]) ⟨hv, hw, nm_r (by rw [es]) ⟨hw, nm_r (by rw [es]) ?_⟩⟩⟩)))
      exact ⟨rfl, cs_rel _ (cs_vfn h (Or.inr ⟨p, hp, e1⟩))⟩
  · exact xs_shut (post := _) h hc (br_t rfl (ys_shut (post := _) h hc (br_t rfl ⟨rfl, cs_rel _ h⟩)))
theorem i_vc_limit {k : Nat} {u : SX} {v : SY} (I : i_Rel k u v) (hk : k + 5 ≤ 2562) (v1 : Int32) (v2 : Int32) : wpX_limit (fun r u' => wpY_limit (fun r' v' => r' = r ∧ i_Rel (k + 5) u' v') v v1 v2) u v1 v2 := by
  obtain ⟨M, F, pl, pa, cp, ps, wn, wd, wh, kd, pr, nm, ll, la, lx, ly, fn, fr, fo, pt, pd, py, rfl, rfl, h⟩ := I
  have hM := cs_iM h
  have hF := cs_iF h
  unfold wpX_limit wpY_limit
  rcases cs_ofd h v1 with ⟨j, p, hj, hp, rfl, e⟩ | hc
  · have hv : vp_in (nI j) 16 := vp_in_nI (by omega) (by omega)
    refine xs_open (post := _) h hj hp e (br_f cs_10 ⟨hv, hv, nm_e ⟨hv, ?_⟩⟩)
    exact ys_open (post := _) h hj hp e (br_f cs_10 ⟨hv, hv, nm_e ⟨hv, ⟨rfl, cs_rel _ h⟩⟩⟩)
  · exact xs_shut (post := _) h hc (br_t rfl (ys_shut (post := _) h hc (br_t rfl ⟨rfl, cs_rel _ h⟩)))
theorem i_vc_close {k : Nat} {u : SX} {v : SY} (I : i_Rel k u v) (hk : k + 5 ≤ 2562) (v1 : Int32) : wpX_close (fun r u' => wpY_close (fun r' v' => r' = r ∧ i_Rel (k + 5) u' v') v v1) u v1 := by
  obtain ⟨M, F, pl, pa, cp, ps, wn, wd, wh, kd, pr, nm, ll, la, lx, ly, fn, fr, fo, pt, pd, py, rfl, rfl, h⟩ := I
  have hM := cs_iM h
  have hF := cs_iF h
  unfold wpX_close wpY_close
  rcases cs_ofd h v1 with ⟨j, p, hj, hp, rfl, e⟩ | hc
  · have hv : vp_in (nI j) 16 := vp_in_nI (by omega) (by omega)
    have es : (nI j).toNatClampNeg = j := nI_clamp (by omega)
    refine xs_open (post := _) h hj hp e (br_f cs_10 (xs_setSlot (post := _) (by omega) ?_))
    refine ys_open (post := _) h hj hp e (br_f cs_10 ⟨hv, nm_r (by rw [es]) ⟨hv, nm_r (by rw [es]) ⟨hv, nm_r (by rw [es]) ?_⟩⟩⟩)
    exact ⟨rfl, cs_rel _ (cs_vfn h (Or.inl rfl))⟩
  · exact xs_shut (post := _) h hc (br_t rfl (ys_shut (post := _) h hc (br_t rfl ⟨rfl, cs_rel _ h⟩)))
theorem i_vc_pathReset {k : Nat} {u : SX} {v : SY} (I : i_Rel k u v) (hk : k + 5 ≤ 2562) (v1 : Int32) : wpX_pathReset (fun u' => wpY_pathReset (fun v' => i_Rel (k + 5) u' v') v (lw_bz v1)) u (lw_bz v1) := by
  obtain ⟨M, F, pl, pa, cp, ps, wn, wd, wh, kd, pr, nm, ll, la, lx, ly, fn, fr, fo, pt, pd, py, rfl, rfl, h⟩ := I
  have e1 := lw_bz_n v1
  have e2 : fits .boolean (.int (lw_bz v1)) = true := by
    rcases lw_bz_01 v1 with e | e
    · rw [e]; decide
    · rw [e]; decide
  unfold wpX_pathReset wpY_pathReset
  refine ⟨e1, e2, e1, e2, ?_⟩
  exact cs_rel (pl := 0) (k + 5) (cs_vpl h (by omega))
theorem i_vc_fdInfo {k : Nat} {u : SX} {v : SY} (I : i_Rel k u v) (hk : k + 5 ≤ 2562) (v1 : Int32) (v2 : Int32) : wpX_fdInfo (fun r => wpY_fdInfo (fun r' => r' = r ∧ i_Rel (k + 5) u v) v v1 v2) u v1 v2 := by
  have J : i_Rel (k + 5) u v := I
  obtain ⟨M, F, pl, pa, cp, ps, wn, wd, wh, kd, pr, nm, ll, la, lx, ly, fn, fr, fo, pt, pd, py, rfl, rfl, h⟩ := I
  have hF := cs_iF h
  rcases pk_ix v1 (n := F) (by omega) with c0 | c1 | ⟨j, hj, rfl⟩
  · exact br_t c0 (br_t c0 ⟨rfl, J⟩)
  · by_cases c0 : v1 < 0
    · exact br_t c0 (br_t c0 ⟨rfl, J⟩)
    · have c2 : ¬ v1 < nI F := Int32.not_lt.mpr c1
      exact br_f c0 (br_f c2 (br_f c0 (br_f c2 ⟨rfl, J⟩)))
  · have hv : vp_in (nI j) 16 := vp_in_nI (by omega) (by omega)
    have c0 : ¬ nI j < 0 := nI_pos (by omega)
    have c2 : nI j < nI F := nI_lt hj (by omega)
    by_cases a0 : v2 = 0
    · subst a0
      exact br_f c0 (br_t c2 (br_f (by decide) (br_f (by decide) (br_t rfl ⟨hv, br_f c0 (br_t c2 (br_t rfl ⟨hv, rfl, J⟩))⟩))))
    by_cases a1 : v2 = 1
    · subst a1
      exact br_f c0 (br_t c2 (br_f (by decide) (br_f (by decide) (br_f (by decide) (br_t rfl ⟨hv, br_f c0 (br_t c2 (br_f (by decide) (br_t rfl ⟨hv, rfl, J⟩)))⟩)))))
    by_cases a2 : v2 = 2
    · subst a2
      exact br_f c0 (br_t c2 (br_f (by decide) (br_f (by decide) (br_f (by decide) (br_f (by decide) (br_t rfl ⟨hv, br_f c0 (br_t c2 (br_f (by decide) (br_f (by decide) (br_t rfl ⟨hv, rfl, J⟩))))⟩))))))
    exact br_f c0 (br_t c2 (br_c (fun _ => br_f c0 (br_t c2 (br_f a0 (br_f a1 (br_f a2 ⟨rfl, J⟩))))) (fun _ => br_c (fun _ => br_f c0 (br_t c2 (br_f a0 (br_f a1 (br_f a2 ⟨rfl, J⟩))))) (fun _ => br_f a0 (br_f a1 (br_f a2 trivial))))))
theorem cs_8a (a : Nat) : (8 : Int32) + nI a = nI (8 + a) := nI_add 8 a
theorem cs_8s {a : Nat} (h : 8 ≤ a) : nI a - 8 = nI (a - 8) := pk_sub (b := 8) h
theorem cs_ge8 {x : Int32} (h : ¬ x < 8) : ∃ j, 8 ≤ j ∧ j < 2 ^ 31 ∧ x = nI j := by
  have h0 : ¬ x < 0 := fun c => h (Int32.lt_trans c (by decide))
  obtain ⟨j, hj, rfl⟩ := nI_of h0
  refine ⟨j, ?_, hj, rfl⟩
  by_cases c : 8 ≤ j
  · exact c
  · exact absurd (nI_lt (b := 8) (by omega) (by omega)) h
theorem i_vc_status {k : Nat} {u : SX} {v : SY} (I : i_Rel k u v) (hk : k + 5 ≤ 2562) (v1 : Int32) : wpX_status (fun r => wpY_status (fun r' => r' = r ∧ i_Rel (k + 5) u v) v v1) u v1 := by
  have J : i_Rel (k + 5) u v := I
  obtain ⟨M, F, pl, pa, cp, ps, wn, wd, wh, kd, pr, nm, ll, la, lx, ly, fn, fr, fo, pt, pd, py, rfl, rfl, h⟩ := I
  have hM := cs_iM h
  have hF := cs_iF h
  have hpl := cs_ipl h
  by_cases a0 : v1 = 0
  · subst a0
    refine br_f (by decide) (br_f (by decide) (br_t rfl ?_))
    by_cases z : cp = 0
    · exact br_t z (br_t rfl (br_t z ⟨rfl, J⟩))
    · exact br_f z (br_t rfl (br_f z ⟨rfl, J⟩))
  by_cases a1 : v1 = 1
  · subst a1
    exact br_f (by decide) (br_f (by decide) (br_f (by decide) (br_t rfl (br_f (by decide) (br_t rfl ⟨rfl, J⟩)))))
  by_cases a2 : v1 = 2
  · subst a2
    refine br_f (by decide) (br_f (by decide) (br_f (by decide) (br_f (by decide) (br_t rfl ?_))))
    by_cases z : pa = 0
    · exact br_t z (br_f (by decide) (br_f (by decide) (br_t rfl (br_t z ⟨rfl, J⟩))))
    · exact br_f z (br_f (by decide) (br_f (by decide) (br_t rfl (br_f z ⟨rfl, J⟩))))
  by_cases a3 : v1 = 3
  · subst a3
    obtain ⟨r, hX, hY⟩ := cs_cntN (M := M) (F := F) (pl := pl) (pa := pa) (cp := cp) (ps := ps) (wn := wn) (wd := wd) (wh := wh) (kd := kd) (pr := pr) (nm := nm) (ll := ll) (la := la) (lx := lx) (ly := ly) (fn := fn) (fr := fr) (fo := fo) (pt := pt) (pd := pd) (py := py) hM.2 M 0 0 (by omega)
    refine br_f (by decide) (br_f (by decide) (br_f (by decide) (br_f (by decide) (br_f (by decide) (br_t rfl ?_)))))
    refine ⟨M + 1, hX _ ?_⟩
    exact br_f (by decide) (br_f (by decide) (br_f (by decide) (br_t rfl ⟨M + 1, hY _ ⟨rfl, J⟩⟩)))
  by_cases a4 : v1 = 4
  · subst a4
    obtain ⟨r, hX, hY⟩ := cs_cntF (M := M) (F := F) (pl := pl) (pa := pa) (cp := cp) (ps := ps) (wn := wn) (wd := wd) (wh := wh) (kd := kd) (pr := pr) (nm := nm) (ll := ll) (la := la) (lx := lx) (ly := ly) (fn := fn) (fr := fr) (fo := fo) (pt := pt) (pd := pd) (py := py) hF.2 (cs_ifn h) hM.2 F 0 0 (by omega)
    refine br_f (by decide) (br_f (by decide) (br_f (by decide) (br_f (by decide) (br_f (by decide) (br_f (by decide) (br_t rfl ?_))))))
    refine ⟨F + 1, hX _ ?_⟩
    exact br_f (by decide) (br_f (by decide) (br_f (by decide) (br_f (by decide) (br_t rfl ⟨F + 1, hY _ ⟨rfl, J⟩⟩))))
  by_cases a5 : v1 = 5
  · subst a5
    exact br_f (by decide) (br_f (by decide) (br_f (by decide) (br_f (by decide) (br_f (by decide) (br_f (by decide) (br_f (by decide) (br_t rfl (br_f (by decide) (br_f (by decide) (br_f (by decide) (br_f (by decide) (br_f (by decide) (br_t rfl ⟨rfl, J⟩)))))))))))))
  by_cases a6 : v1 = 6
  · subst a6
    exact br_f (by decide) (br_f (by decide) (br_f (by decide) (br_f (by decide) (br_f (by decide) (br_f (by decide) (br_f (by decide) (br_f (by decide) (br_t rfl (br_f (by decide) (br_f (by decide) (br_f (by decide) (br_f (by decide) (br_f (by decide) (br_f (by decide) (br_t rfl ⟨rfl, J⟩)))))))))))))))
  by_cases c8 : v1 < 8
  · have Y : wpY_status (fun r' => r' = (-10 : Int32) ∧ i_Rel (k + 5) (nI M, nI F, nI pl, pa, cp, ps, wn, wd, wh, kd, pr, nm, ll, la, lx, fn, fr, fo, pt, pd) (nI M, nI F, cp, pa, nI pl, kd, pr, nm, ll, la, ly, fn, fr, fo, pt, py)) (nI M, nI F, cp, pa, nI pl, kd, pr, nm, ll, la, ly, fn, fr, fo, pt, py) v1 :=
      br_f a0 (br_f a1 (br_f a2 (br_f a3 (br_f a4 (br_f a5 (br_f a6 (br_t c8 ⟨rfl, J⟩)))))))
    exact br_c (fun _ => br_t c8 Y) (fun _ => br_c (fun _ => br_t c8 Y) (fun _ => br_f a0 (br_f a1 (br_f a2 (br_f a3 (br_f a4 (br_f a5 (br_f a6 trivial))))))))
  · obtain ⟨j, hj8, hj, rfl⟩ := cs_ge8 c8
    by_cases cj : j < 8 + pl
    · have cx : nI j < 8 + nI pl := by rw [cs_8a]; exact nI_lt cj (by omega)
      have cy : ¬ nI pl ≤ nI j - 8 := by rw [cs_8s hj8]; exact nI_ge (by omega) (by omega)
      have hv : vp_in (nI j - 8) 8 := by rw [cs_8s hj8]; exact vp_in_nI (by omega) (by omega)
      have Y : wpY_status (fun r' => r' = pt (nI j - 8).toNatClampNeg ∧ i_Rel (k + 5) (nI M, nI F, nI pl, pa, cp, ps, wn, wd, wh, kd, pr, nm, ll, la, lx, fn, fr, fo, pt, pd) (nI M, nI F, cp, pa, nI pl, kd, pr, nm, ll, la, ly, fn, fr, fo, pt, py)) (nI M, nI F, cp, pa, nI pl, kd, pr, nm, ll, la, ly, fn, fr, fo, pt, py) (nI j) :=
        br_f a0 (br_f a1 (br_f a2 (br_f a3 (br_f a4 (br_f a5 (br_f a6 (br_f c8 (br_f cy ⟨hv, rfl, J⟩))))))))
      exact br_c (fun _ => br_f c8 (br_t cx ⟨hv, Y⟩)) (fun _ => br_c (fun _ => br_f c8 (br_t cx ⟨hv, Y⟩)) (fun _ => br_f a0 (br_f a1 (br_f a2 (br_f a3 (br_f a4 (br_f a5 (br_f a6 trivial))))))))
    · have cx : ¬ nI j < 8 + nI pl := by rw [cs_8a]; exact nI_nlt (by omega) (by omega)
      have cy : nI pl ≤ nI j - 8 := by rw [cs_8s hj8]; exact nI_le (by omega) (by omega)
      have Y : wpY_status (fun r' => r' = (-10 : Int32) ∧ i_Rel (k + 5) (nI M, nI F, nI pl, pa, cp, ps, wn, wd, wh, kd, pr, nm, ll, la, lx, fn, fr, fo, pt, pd) (nI M, nI F, cp, pa, nI pl, kd, pr, nm, ll, la, ly, fn, fr, fo, pt, py)) (nI M, nI F, cp, pa, nI pl, kd, pr, nm, ll, la, ly, fn, fr, fo, pt, py) (nI j) :=
        br_f a0 (br_f a1 (br_f a2 (br_f a3 (br_f a4 (br_f a5 (br_f a6 (br_f c8 (br_t cy ⟨rfl, J⟩))))))))
      exact br_c (fun _ => br_f c8 (br_f cx Y)) (fun _ => br_c (fun _ => br_f c8 (br_f cx Y)) (fun _ => br_f a0 (br_f a1 (br_f a2 (br_f a3 (br_f a4 (br_f a5 (br_f a6 trivial))))))))
theorem i_vc_nodeInfo {k : Nat} {u : SX} {v : SY} (I : i_Rel k u v) (hk : k + 5 ≤ 2562) (v1 : Int32) (v2 : Int32) : wpX_nodeInfo (fun r => wpY_nodeInfo (fun r' => r' = r ∧ i_Rel (k + 5) u v) v v1 v2) u v1 v2 := by
  have J : i_Rel (k + 5) u v := I
  obtain ⟨M, F, pl, pa, cp, ps, wn, wd, wh, kd, pr, nm, ll, la, lx, ly, fn, fr, fo, pt, pd, py, rfl, rfl, h⟩ := I
  have hM := cs_iM h
  rcases pk_ix v1 (n := M) (by omega) with c0 | c1 | ⟨n, hn, rfl⟩
  · exact br_t c0 (br_t c0 ⟨rfl, J⟩)
  · by_cases c0 : v1 < 0
    · exact br_t c0 (br_t c0 ⟨rfl, J⟩)
    · have c2 : ¬ v1 < nI M := Int32.not_lt.mpr c1
      exact br_f c0 (br_f c2 (br_f c0 (br_f c2 ⟨rfl, J⟩)))
  · have hv : vp_in (nI n) 32 := vp_in_nI (by omega) (by omega)
    have cn : (nI n).toNatClampNeg = n := nI_clamp (by omega)
    have c0 : ¬ nI n < 0 := nI_pos (by omega)
    have c2 : nI n < nI M := nI_lt hn (by omega)
    refine br_f c0 (br_t c2 ?_)
    by_cases a0 : v2 = 0
    · subst a0
      exact br_f (by decide) (br_f (by decide) (br_t rfl ⟨hv, br_f c0 (br_t c2 (br_t rfl ⟨hv, rfl, J⟩))⟩))
    by_cases a1 : v2 = 1
    · subst a1
      exact br_f (by decide) (br_f (by decide) (br_f (by decide) (br_t rfl ⟨hv, br_f c0 (br_t c2 (br_f (by decide) (br_t rfl ⟨hv, rfl, J⟩)))⟩)))
    by_cases a2 : v2 = 2
    · subst a2
      exact br_f (by decide) (br_f (by decide) (br_f (by decide) (br_f (by decide) (br_t rfl ⟨hv, br_f c0 (br_t c2 (br_f (by decide) (br_f (by decide) (br_t rfl ⟨hv, rfl, J⟩))))⟩))))
    by_cases a3 : v2 = 3
    · subst a3
      exact br_f (by decide) (br_f (by decide) (br_f (by decide) (br_f (by decide) (br_f (by decide) (br_t rfl ⟨hv, br_f c0 (br_t c2 (br_f (by decide) (br_f (by decide) (br_f (by decide) (br_t rfl ⟨hv, rfl, J⟩)))))⟩)))))
    by_cases a4 : v2 = 4
    · subst a4
      refine br_f (by decide) (br_f (by decide) (br_f (by decide) (br_f (by decide) (br_f (by decide) (br_f (by decide) (br_t rfl ⟨hv, ?_⟩))))))
      by_cases z : la (nI n).toNatClampNeg = 0
      · exact br_t z (br_f c0 (br_t c2 (br_f (by decide) (br_f (by decide) (br_f (by decide) (br_f (by decide) (br_t rfl ⟨hv, br_t z ⟨rfl, J⟩⟩)))))))
      · exact br_f z (br_f c0 (br_t c2 (br_f (by decide) (br_f (by decide) (br_f (by decide) (br_f (by decide) (br_t rfl ⟨hv, br_f z ⟨rfl, J⟩⟩)))))))
    by_cases c8 : v2 < 8
    · have Y : wpY_nodeInfo (fun r' => r' = (-10 : Int32) ∧ i_Rel (k + 5) (nI M, nI F, nI pl, pa, cp, ps, wn, wd, wh, kd, pr, nm, ll, la, lx, fn, fr, fo, pt, pd) (nI M, nI F, cp, pa, nI pl, kd, pr, nm, ll, la, ly, fn, fr, fo, pt, py)) (nI M, nI F, cp, pa, nI pl, kd, pr, nm, ll, la, ly, fn, fr, fo, pt, py) (nI n) v2 :=
        br_f c0 (br_t c2 (br_f a0 (br_f a1 (br_f a2 (br_f a3 (br_f a4 (br_t c8 ⟨rfl, J⟩)))))))
      exact br_c (fun _ => br_t c8 Y) (fun _ => br_c (fun _ => br_t c8 Y) (fun _ => br_f a0 (br_f a1 (br_f a2 (br_f a3 (br_f a4 trivial))))))
    · obtain ⟨j, hj8, hj, rfl⟩ := cs_ge8 c8
      obtain ⟨l, hl, el, ec⟩ := cs_ill h n hn
      by_cases cj : j < 8 + l
      · have cx : nI j < 8 + ll (nI n).toNatClampNeg := by rw [cn, el, cs_8a]; exact nI_lt cj (by omega)
        have cy : ¬ ll (nI n).toNatClampNeg ≤ nI j - 8 := by rw [cn, el, cs_8s hj8]; exact nI_ge (by omega) (by omega)
        have ix : nI n * 4 + nI j - 8 = nI (n * 4 + (j - 8)) := by
          rw [show nI n * 4 = nI (n * 4) from pk_mul n 4, nI_add, cs_8s (by omega)]
          exact congrArg nI (by omega)
        have iy : nI n * 4 + (nI j - 8) = nI (n * 4 + (j - 8)) := by
          rw [show nI n * 4 = nI (n * 4) from pk_mul n 4, cs_8s hj8, nI_add]
        have hx : vp_in (nI n * 4 + nI j - 8) 128 := by rw [ix]; exact vp_in_nI (by omega) (by omega)
        have hy : vp_in (nI n * 4 + (nI j - 8)) 128 := by rw [iy]; exact vp_in_nI (by omega) (by omega)
        have e : ly (nI n * 4 + (nI j - 8)).toNatClampNeg = lx (nI n * 4 + nI j - 8).toNatClampNeg := by
          rw [ix, iy, nI_clamp (by omega)]
          exact (ec (j - 8) (by omega)).symm
        have Y : wpY_nodeInfo (fun r' => r' = lx (nI n * 4 + nI j - 8).toNatClampNeg ∧ i_Rel (k + 5) (nI M, nI F, nI pl, pa, cp, ps, wn, wd, wh, kd, pr, nm, ll, la, lx, fn, fr, fo, pt, pd) (nI M, nI F, cp, pa, nI pl, kd, pr, nm, ll, la, ly, fn, fr, fo, pt, py)) (nI M, nI F, cp, pa, nI pl, kd, pr, nm, ll, la, ly, fn, fr, fo, pt, py) (nI n) (nI j) :=
          br_f c0 (br_t c2 (br_f a0 (br_f a1 (br_f a2 (br_f a3 (br_f a4 (br_f c8 ⟨hv, br_f cy ⟨hy, e, J⟩⟩)))))))
        exact br_c (fun _ => br_f c8 ⟨hv, br_t cx ⟨hx, Y⟩⟩) (fun _ => br_c (fun _ => br_f c8 ⟨hv, br_t cx ⟨hx, Y⟩⟩) (fun _ => br_f a0 (br_f a1 (br_f a2 (br_f a3 (br_f a4 trivial))))))
      · have cx : ¬ nI j < 8 + ll (nI n).toNatClampNeg := by rw [cn, el, cs_8a]; exact nI_nlt (by omega) (by omega)
        have cy : ll (nI n).toNatClampNeg ≤ nI j - 8 := by rw [cn, el, cs_8s hj8]; exact nI_le (by omega) (by omega)
        have Y : wpY_nodeInfo (fun r' => r' = (-10 : Int32) ∧ i_Rel (k + 5) (nI M, nI F, nI pl, pa, cp, ps, wn, wd, wh, kd, pr, nm, ll, la, lx, fn, fr, fo, pt, pd) (nI M, nI F, cp, pa, nI pl, kd, pr, nm, ll, la, ly, fn, fr, fo, pt, py)) (nI M, nI F, cp, pa, nI pl, kd, pr, nm, ll, la, ly, fn, fr, fo, pt, py) (nI n) (nI j) :=
          br_f c0 (br_t c2 (br_f a0 (br_f a1 (br_f a2 (br_f a3 (br_f a4 (br_f c8 ⟨hv, br_t cy ⟨rfl, J⟩⟩)))))))
        exact br_c (fun _ => br_f c8 ⟨hv, br_f cx Y⟩) (fun _ => br_c (fun _ => br_f c8 ⟨hv, br_f cx Y⟩) (fun _ => br_f a0 (br_f a1 (br_f a2 (br_f a3 (br_f a4 trivial))))))
end
section
section
variable {M F pl : Nat} {pa cp ps wn wd wh : Int32} {kd pr nm ll la lx ly fn fr fo pt pd py : Nat → Int32}
/-! rename: the reference's chain -/
theorem ys_anc1 {post : Int32 → SY → Prop} {t m s : Nat} {x4 : Int32} (hM : M ≤ 32) (ht : t < M) (h1 : 1 ≤ m) (hm : m < M) (h0 : pr 0 = 0) (hp : ∀ n, n < M → ∃ p, p < M ∧ pr n = nI p) (hs : s < M) (e : cs_ch pr t s = m) (k : post (-13) (nI M, nI F, cp, pa, nI pl, kd, pr, nm, ll, la, ly, fn, fr, fo, pt, py)) : ∀ q i, i + q = s → wY_rename_170 post x4 (nI t) (nI m) (nI M) (nI F) cp pa (nI pl) kd pr nm ll la ly fn fr fo pt py (q + 1) (nI (cs_ch pr t i)) (nI i) := by
  intro q
  induction q with
  | zero =>
    intro i hi
    have e2 : i = s := by omega
    subst e2
    exact br_f (nI_ge (b := 33) (by omega) (by decide)) (br_t (by rw [e]) k)
  | succ q ih =>
    intro i hi
    have hl := cs_ch_lt hM ht hp i
    have ne : ¬ nI (cs_ch pr t i) = 0 := fun e3 => by
      have e4 : cs_ch pr t i = 0 := cs_im (b := 0) (e3.trans nI_0.symm) (by omega) (by omega)
      have e5 := cs_ch_0 h0 e4 (q + 1)
      rw [hi, e] at e5
      omega
    refine br_f (nI_ge (b := 33) (by omega) (by decide)) (br_c (fun _ => k) (fun _ => br_f ne ⟨vp_in_nI (by omega) (by omega), nm_r ?_ (nm_r (nI_1 i) (ih (i + 1) (by omega)))⟩))
    rw [nI_clamp (by omega)]
    exact cs_ch_s hM ht hp i
theorem ys_anc0 {post : Int32 → SY → Prop} {t m : Nat} {x4 : Int32} (hM : M ≤ 32) (ht : t < M) (hm : m < M) (hp : ∀ n, n < M → ∃ p, p < M ∧ pr n = nI p) (hn : ∀ s, ¬ cs_ch pr t s = m) (k : wY_rename_210 post x4 (nI t) (nI m) (nI M) (nI F) cp pa (nI pl) kd pr nm ll la ly fn fr fo pt py) : ∀ q i, i + q = 33 → wY_rename_170 post x4 (nI t) (nI m) (nI M) (nI F) cp pa (nI pl) kd pr nm ll la ly fn fr fo pt py (q + 1) (nI (cs_ch pr t i)) (nI i) := by
  intro q
  induction q with
  | zero =>
    intro i hi
    exact br_t (nI_le (a := 33) (by omega) (by omega)) k
  | succ q ih =>
    intro i hi
    have hl := cs_ch_lt hM ht hp i
    refine br_f (nI_ge (b := 33) (by omega) (by decide)) (br_f (fun e => hn i (cs_im e (by omega) (by omega))) (br_c (fun _ => k) (fun _ => ⟨vp_in_nI (by omega) (by omega), nm_r ?_ (nm_r (nI_1 i) (ih (i + 1) (by omega)))⟩)))
    rw [nI_clamp (by omega)]
    exact cs_ch_s hM ht hp i
/-! create: the reference's walk downwards -/
theorem ys_none {post : Int32 → SY → Prop} {w x2 x3 x4 : Int32} (hM : M ≤ 32) (k : wY_create_116 post x2 x3 x4 (nI M) (nI F) cp pa (nI pl) kd pr nm ll la ly fn fr fo pt py (0 + 1) w (nI 0)) : ∀ i, i < M → (∀ t, 1 ≤ t → t ≤ i → ¬ kd t = 0) → wY_create_116 post x2 x3 x4 (nI M) (nI F) cp pa (nI pl) kd pr nm ll la ly fn fr fo pt py (i + 1) w (nI i) := by
  intro i
  induction i with
  | zero =>
    intro _ _
    exact k
  | succ i ih =>
    intro hi hz
    have zx : ¬ kd (nI (i + 1)).toNatClampNeg = 0 := by rw [nI_clamp (by omega)]; exact hz (i + 1) (by omega) (by omega)
    exact br_f (nI_nlt (b := 1) (by omega) (by omega)) ⟨vp_in_nI (by omega) (by omega), br_f zx (nm_r (pk_m1 i) (ih (by omega) (fun t h1 h2 => hz t h1 (by omega))))⟩
theorem ys_some {post : Int32 → SY → Prop} {x2 x3 x4 : Int32} {s : Nat} (hM : M ≤ 32) (h1 : 1 ≤ s) (z : kd s = 0) (hz : ∀ t, 1 ≤ t → t < s → ¬ kd t = 0) (k : wY_create_116 post x2 x3 x4 (nI M) (nI F) cp pa (nI pl) kd pr nm ll la ly fn fr fo pt py (0 + 1) (nI s) (nI 0)) : ∀ i (w : Int32), s ≤ i → i < M → wY_create_116 post x2 x3 x4 (nI M) (nI F) cp pa (nI pl) kd pr nm ll la ly fn fr fo pt py (i + 1) w (nI i) := by
  intro i
  induction i with
  | zero => intro w hs _; omega
  | succ i ih =>
    intro w hs hi
    have hv : vp_in (nI (i + 1)) 32 := vp_in_nI (by omega) (by omega)
    have hb : ¬ nI (i + 1) < 1 := nI_nlt (b := 1) (by omega) (by omega)
    by_cases e : s = i + 1
    · have zx : kd (nI (i + 1)).toNatClampNeg = 0 := by rw [nI_clamp (by omega), ← e]; exact z
      rw [e] at k hz
      exact br_f hb ⟨hv, br_t zx (nm_r (pk_m1 i) (ys_none hM k i (by omega) (fun t h2 h3 => hz t h2 (by omega))))⟩
    · exact br_f hb ⟨hv, br_c (fun _ => nm_r (pk_m1 i) (ih _ (by omega) (by omega))) (fun _ => nm_r (pk_m1 i) (ih _ (by omega) (by omega)))⟩
/-! unlink: the reference's walks -/
theorem ys_held1 {post : Int32 → SY → Prop} {s m : Nat} (hF : F ≤ 16) (hs : s < F) (z : fn s = nI m) (k : post (-11) (nI M, nI F, cp, pa, nI pl, kd, pr, nm, ll, la, ly, fn, fr, fo, pt, py)) : ∀ q i, i + q = s → wY_unlink_78 post (nI m) (nI M) (nI F) cp pa (nI pl) kd pr nm ll la ly fn fr fo pt py (q + 1) (nI i) := by
  intro q
  induction q with
  | zero =>
    intro i hi
    have e : i = s := by omega
    subst e
    have zx : fn (nI i).toNatClampNeg = nI m := by rw [nI_clamp (by omega), z]
    exact br_f (nI_ge (by omega) (by omega)) ⟨vp_in_nI (by omega) (by omega), br_t zx k⟩
  | succ q ih =>
    intro i hi
    exact br_f (nI_ge (by omega) (by omega)) ⟨vp_in_nI (by omega) (by omega), br_c (fun _ => k) (fun _ => nm_r (nI_1 i) (ih (i + 1) (by omega)))⟩
theorem ys_held0 {post : Int32 → SY → Prop} {m : Nat} (hF : F ≤ 16) (hz : ∀ t, t < F → ¬ fn t = nI m) (k : wY_unlink_78 post (nI m) (nI M) (nI F) cp pa (nI pl) kd pr nm ll la ly fn fr fo pt py (0 + 1) (nI F)) : ∀ q i, i + q = F → wY_unlink_78 post (nI m) (nI M) (nI F) cp pa (nI pl) kd pr nm ll la ly fn fr fo pt py (q + 1) (nI i) := by
  intro q
  induction q with
  | zero =>
    intro i hi
    have e : i = F := by omega
    subst e
    exact k
  | succ q ih =>
    intro i hi
    have zx : ¬ fn (nI i).toNatClampNeg = nI m := by rw [nI_clamp (by omega)]; exact hz i (by omega)
    exact br_f (nI_ge (by omega) (by omega)) ⟨vp_in_nI (by omega) (by omega), br_f zx (nm_r (nI_1 i) (ih (i + 1) (by omega)))⟩
theorem ys_kids1 {post : Int32 → SY → Prop} {s m : Nat} (hM : M ≤ 32) (hs : s < M) (z1 : ¬ kd s = 0) (z2 : pr s = nI m) (k : post (-12) (nI M, nI F, cp, pa, nI pl, kd, pr, nm, ll, la, ly, fn, fr, fo, pt, py)) : ∀ q i, i + q = s → wY_unlink_122 post (nI m) (nI M) (nI F) cp pa (nI pl) kd pr nm ll la ly fn fr fo pt py (q + 1) (nI i) := by
  intro q
  induction q with
  | zero =>
    intro i hi
    have e : i = s := by omega
    subst e
    have hv : vp_in (nI i) 32 := vp_in_nI (by omega) (by omega)
    have x1 : ¬ kd (nI i).toNatClampNeg = 0 := by rw [nI_clamp (by omega)]; exact z1
    have x2 : pr (nI i).toNatClampNeg = nI m := by rw [nI_clamp (by omega), z2]
    exact br_f (nI_ge (by omega) (by omega)) ⟨hv, br_f x1 ⟨hv, br_t x2 k⟩⟩
  | succ q ih =>
    intro i hi
    have hv : vp_in (nI i) 32 := vp_in_nI (by omega) (by omega)
    have nx := ih (i + 1) (by omega)
    exact br_f (nI_ge (by omega) (by omega)) ⟨hv, br_c (fun _ => nm_r (nI_1 i) nx) (fun _ => ⟨hv, br_c (fun _ => k) (fun _ => nm_r (nI_1 i) nx)⟩)⟩
theorem ys_kids0 {post : Int32 → SY → Prop} {m : Nat} (hM : M ≤ 32) (hz : ∀ t, 1 ≤ t → t < M → ¬ kd t = 0 → ¬ pr t = nI m) (k : wY_unlink_162 post (nI m) (nI M) (nI F) cp pa (nI pl) kd pr nm ll la ly fn fr fo pt py) : ∀ q i, 1 ≤ i → i + q = M → wY_unlink_122 post (nI m) (nI M) (nI F) cp pa (nI pl) kd pr nm ll la ly fn fr fo pt py (q + 1) (nI i) := by
  intro q
  induction q with
  | zero =>
    intro i h1 hi
    exact br_t (nI_le (by omega) (by omega)) k
  | succ q ih =>
    intro i h1 hi
    have hv : vp_in (nI i) 32 := vp_in_nI (by omega) (by omega)
    have ci : (nI i).toNatClampNeg = i := nI_clamp (by omega)
    have nx := ih (i + 1) (by omega) (by omega)
    refine br_f (nI_ge (by omega) (by omega)) ⟨hv, br_c (fun _ => nm_r (nI_1 i) nx) (fun x1 => ⟨hv, br_f ?_ (nm_r (nI_1 i) nx)⟩)⟩
    rw [ci] at x1 ⊢
    exact hz i h1 (by omega) x1
theorem ys_zero {post : Int32 → SY → Prop} {m : Nat} (hm : m < 32) (k : post 0 (nI M, nI F, cp, pa, nI pl, kd, pr, nm, ll, la, cs_cp ly (m * 4) 4 (fun _ => 0), fn, fr, fo, pt, py)) : ∀ q i, i + q = 4 → wY_unlink_205 post (nI m) (nI M) (nI F) cp pa (nI pl) (q + 1) (nI i) kd pr nm ll la (cs_cp ly (m * 4) i (fun _ => 0)) fn fr fo pt py := by
  intro q
  induction q with
  | zero =>
    intro i hi
    have e : i = 4 := by omega
    subst e
    exact br_t (nI_le (a := 4) (by omega) (by omega)) k
  | succ q ih =>
    intro i hi
    have e1 : nI m * 4 + nI i = nI (m * 4 + i) := by rw [show nI m * 4 = nI (m * 4) from pk_mul m 4, nI_add]
    have hv : vp_in (nI m * 4 + nI i) 128 := by rw [e1]; exact vp_in_nI (by omega) (by omega)
    have ec : upd (cs_cp ly (m * 4) i (fun _ => 0)) (nI m * 4 + nI i).toNatClampNeg 0 = cs_cp ly (m * 4) (i + 1) (fun _ => 0) := by
      rw [e1, nI_clamp (by omega)]
      exact cs_cp_s ly (m * 4) i (fun _ => 0)
    exact br_f (nI_ge (b := 4) (by omega) (by decide)) ⟨hv, nm_r ec (nm_r (nI_1 i) (ih (i + 1) (by omega)))⟩
/-! the link's components, both sides -/
theorem xs_copy1 {post : SX → Prop} {n : Nat} (hn : n < 32) (hpl : pl ≤ 4) (k : post (nI M, nI F, nI pl, pa, cp, ps, wn, wd, wh, kd, pr, nm, ll, la, cs_cp lx (n * 4) pl pt, fn, fr, fo, pt, pd)) : ∀ q i, i + q = pl →
    wX_copyPathToLink_22 post (nI n) (nI M) (nI F) (nI pl) pa cp ps wn wd wh (q + 1) (nI i) kd pr nm ll la (cs_cp lx (n * 4) i pt) fn fr fo pt pd := by
  intro q
  induction q with
  | zero =>
    intro i hi
    have e : i = pl := by omega
    subst e
    exact br_t (nI_le (by omega) (by omega)) k
  | succ q ih =>
    intro i hi
    have e1 : nI n * 4 + nI i = nI (n * 4 + i) := by rw [show nI n * 4 = nI (n * 4) from pk_mul n 4, nI_add]
    have hv : vp_in (nI n * 4 + nI i) 128 := by rw [e1]; exact vp_in_nI (by omega) (by omega)
    have ec : upd (cs_cp lx (n * 4) i pt) (nI n * 4 + nI i).toNatClampNeg (pt (nI i).toNatClampNeg) = cs_cp lx (n * 4) (i + 1) pt := by
      rw [e1, nI_clamp (by omega), nI_clamp (by omega), cs_cp_s]
    exact br_f (nI_ge (by omega) (by omega)) ⟨vp_in_nI (by omega) (by omega), hv, nm_r ec (nm_r (nI_1 i) (ih (i + 1) (by omega)))⟩
theorem ys_copy1 {post : Int32 → SY → Prop} {n : Nat} (hn : n < 32) (hpl : pl ≤ 4) (k : post (nI n) (nI M, nI F, cp, pa, nI pl, kd, pr, nm, upd ll n (nI pl), la, cs_cp ly (n * 4) pl pt, fn, fr, fo, pt, py)) : ∀ q i, i + q = pl →
    wY_create_210 post (nI n) (nI M) (nI F) cp pa (nI pl) (q + 1) (nI i) kd pr nm ll la (cs_cp ly (n * 4) i pt) fn fr fo pt py := by
  intro q
  induction q with
  | zero =>
    intro i hi
    have e : i = pl := by omega
    subst e
    exact br_t (nI_le (by omega) (by omega)) ⟨vp_in_nI (by omega) (by omega), nm_r (by rw [nI_clamp (by omega)]) k⟩
  | succ q ih =>
    intro i hi
    have e1 : nI n * 4 + nI i = nI (n * 4 + i) := by rw [show nI n * 4 = nI (n * 4) from pk_mul n 4, nI_add]
    have hv : vp_in (nI n * 4 + nI i) 128 := by rw [e1]; exact vp_in_nI (by omega) (by omega)
    have ec : upd (cs_cp ly (n * 4) i pt) (nI n * 4 + nI i).toNatClampNeg (pt (nI i).toNatClampNeg) = cs_cp ly (n * 4) (i + 1) pt := by
      rw [e1, nI_clamp (by omega), nI_clamp (by omega), cs_cp_s]
    exact br_f (nI_ge (by omega) (by omega)) (br_f (nI_ge (b := 4) (by omega) (by decide)) ⟨vp_in_nI (by omega) (by omega), hv, nm_r ec (nm_r (nI_1 i) (ih (i + 1) (by omega)))⟩)
theorem xs_setNode {post : SX → Prop} {n : Nat} {a b c : Int32} (hn : n < 32) (k : post (nI M, nI F, nI pl, pa, cp, ps, wn, wd, wh, upd kd n a, upd pr n b, upd nm n c, upd ll n 0, upd la n (vp_nar .boolean 0), lx, fn, fr, fo, pt, pd)) : wpX_setNode post (nI M, nI F, nI pl, pa, cp, ps, wn, wd, wh, kd, pr, nm, ll, la, lx, fn, fr, fo, pt, pd) (nI n) a b c := by
  have cs : (nI n).toNatClampNeg = n := nI_clamp (by omega)
  have hv : vp_in (nI n) 32 := vp_in_nI hn (by omega)
  exact ⟨hv, nm_r (by rw [cs]) ⟨hv, nm_r (by rw [cs]) ⟨hv, nm_r (by rw [cs]) ⟨hv, nm_r (by rw [cs]) ⟨hv, nm_r (by rw [cs]) k⟩⟩⟩⟩⟩
/-! names and kinds -/
theorem xs_nm1 {post : Int32 → Prop} {c : Int32} (a : ¬ c < 1) (b : ¬ 15 < c) (k : post 1) : wpX_isName post c := br_f a (br_f b k)
theorem xs_nm0 {post : Int32 → Prop} {c : Int32} (h : c < 1 ∨ 15 < c) (k : post 0) : wpX_isName post c := by
  by_cases a : c < 1
  · exact br_t a k
  · rcases h with b | b
    · exact absurd b a
    · exact br_f a (br_t b k)
theorem xs_kd1 {post : Int32 → Prop} {c : Int32} (h : c = 1 ∨ c = 2 ∨ c = 3) (k : post 1) : wpX_isCreatableKind post c := by
  rcases h with rfl | rfl | rfl
  · exact br_t rfl k
  · exact br_f (by decide) (br_t rfl k)
  · exact br_f (by decide) (br_f (by decide) (br_t rfl k))
theorem ys_kd1 {post : Int32 → SY → Prop} {x1 x2 c : Int32} (h : c = 1 ∨ c = 2 ∨ c = 3) (k : wY_create_15 post x1 x2 c (nI M) (nI F) cp pa (nI pl) kd pr nm ll la ly fn fr fo pt py) : wpY_create post (nI M, nI F, cp, pa, nI pl, kd, pr, nm, ll, la, ly, fn, fr, fo, pt, py) x1 x2 c := by
  rcases h with rfl | rfl | rfl
  · exact br_t rfl k
  · exact br_f (by decide) (br_t rfl k)
  · exact br_f (by decide) (br_f (by decide) (br_t rfl k))
end
end
section
section
variable {M F pl : Nat} {pa cp ps wn wd wh : Int32} {kd pr nm ll la lx ly fn fr fo pt pd py : Nat → Int32}
theorem xs_isHeld1 {post : Int32 → Prop} {s m : Nat} (hF : F ≤ 16) (hs : s < F) (z : fn s = nI m) (k : post 1) : wpX_isHeldOpen post (nI M, nI F, nI pl, pa, cp, ps, wn, wd, wh, kd, pr, nm, ll, la, lx, fn, fr, fo, pt, pd) (nI m) :=
  ⟨s + 1, xs_held1 hF hs z k s 0 (by omega)⟩
theorem xs_isHeld0 {post : Int32 → Prop} {m : Nat} (hF : F ≤ 16) (hz : ∀ t, t < F → ¬ fn t = nI m) (k : post 0) : wpX_isHeldOpen post (nI M, nI F, nI pl, pa, cp, ps, wn, wd, wh, kd, pr, nm, ll, la, lx, fn, fr, fo, pt, pd) (nI m) :=
  ⟨F + 1, xs_held0 hF hz k F 0 (by omega)⟩
theorem xs_hasKids1 {post : Int32 → Prop} {s m : Nat} (hM : M ≤ 32) (h1 : 1 ≤ s) (hs : s < M) (z1 : ¬ kd s = 0) (z2 : pr s = nI m) (k : post 1) : wpX_hasChildren post (nI M, nI F, nI pl, pa, cp, ps, wn, wd, wh, kd, pr, nm, ll, la, lx, fn, fr, fo, pt, pd) (nI m) :=
  ⟨s - 1 + 1, xs_kids1 hM hs z1 z2 k (s - 1) 1 (by omega)⟩
theorem xs_hasKids0 {post : Int32 → Prop} {m : Nat} (h1 : 1 ≤ M) (hM : M ≤ 32) (hz : ∀ t, 1 ≤ t → t < M → ¬ kd t = 0 → ¬ pr t = nI m) (k : post 0) : wpX_hasChildren post (nI M, nI F, nI pl, pa, cp, ps, wn, wd, wh, kd, pr, nm, ll, la, lx, fn, fr, fo, pt, pd) (nI m) :=
  ⟨M - 1 + 1, xs_kids0 hM hz k (M - 1) 1 (by omega) (by omega)⟩
theorem xs_below1 {post : Int32 → Prop} {t m s : Nat} (hM : M ≤ 32) (ht : t < M) (hm : m < M) (hp : ∀ n, n < M → ∃ p, p < M ∧ pr n = nI p) (hs : s < M) (e : cs_ch pr t s = m) (k : post 1) : wpX_isAtOrBelow post (nI M, nI F, nI pl, pa, cp, ps, wn, wd, wh, kd, pr, nm, ll, la, lx, fn, fr, fo, pt, pd) (nI t) (nI m) :=
  ⟨s + 1, xs_anc1 hM ht hm hp hs e k s 0 (by omega)⟩
theorem xs_below0 {post : Int32 → Prop} {t m : Nat} (hM : M ≤ 32) (ht : t < M) (hm : m < M) (hp : ∀ n, n < M → ∃ p, p < M ∧ pr n = nI p) (hn : ∀ s, ¬ cs_ch pr t s = m) (k : post 0) : wpX_isAtOrBelow post (nI M, nI F, nI pl, pa, cp, ps, wn, wd, wh, kd, pr, nm, ll, la, lx, fn, fr, fo, pt, pd) (nI t) (nI m) :=
  ⟨M + 1, xs_anc0 hM ht hm hp hn k M 0 (by omega)⟩
theorem xs_low1 {post : Int32 → Prop} {s : Nat} (hM : M ≤ 32) (h1 : 1 ≤ s) (hs : s < M) (z : kd s = 0) (hz : ∀ t, 1 ≤ t → t < s → ¬ kd t = 0) (k : post (nI s)) : wpX_lowestFreeNode post (nI M, nI F, nI pl, pa, cp, ps, wn, wd, wh, kd, pr, nm, ll, la, lx, fn, fr, fo, pt, pd) :=
  ⟨s - 1 + 1, xs_free1 hM hs z k (s - 1) 1 (by omega) hz⟩
theorem xs_low0 {post : Int32 → Prop} (h1 : 1 ≤ M) (hM : M ≤ 32) (hz : ∀ t, 1 ≤ t → t < M → ¬ kd t = 0) (k : post (-1)) : wpX_lowestFreeNode post (nI M, nI F, nI pl, pa, cp, ps, wn, wd, wh, kd, pr, nm, ll, la, lx, fn, fr, fo, pt, pd) :=
  ⟨M - 1 + 1, xs_free0 hM k (M - 1) 1 (by omega) hz⟩
theorem ys_del {post : Int32 → SY → Prop} {m : Nat} (hm : m < 32) (k : post 0 (nI M, nI F, cp, pa, nI pl, upd kd m 0, upd pr m 0, upd nm m 0, upd ll m 0, upd la m (vp_nar .boolean 0), cs_cp ly (m * 4) 4 (fun _ => 0), fn, fr, fo, pt, py)) : wY_unlink_162 post (nI m) (nI M) (nI F) cp pa (nI pl) kd pr nm ll la ly fn fr fo pt py := by
  have cs : (nI m).toNatClampNeg = m := nI_clamp (by omega)
  have hv : vp_in (nI m) 32 := vp_in_nI hm (by omega)
  have z := ys_zero (kd := upd kd m 0) (pr := upd pr m 0) (nm := upd nm m 0) (ll := upd ll m 0) (la := upd la m (vp_nar .boolean 0)) hm k 4 0 (by omega)
  rw [cs_cp_0] at z
  exact ⟨hv, nm_r (by rw [cs]) ⟨hv, nm_r (by rw [cs]) ⟨hv, nm_r (by rw [cs]) ⟨hv, nm_r (by rw [cs]) ⟨hv, nm_r (by rw [cs]) ⟨4 + 1, z⟩⟩⟩⟩⟩⟩
end
theorem i_vc_unlink {k : Nat} {u : SX} {v : SY} (I : i_Rel k u v) (hk : k + 5 ≤ 2562) (v1 : Int32) (v2 : Int32) : wpX_unlink (fun r u' => wpY_unlink (fun r' v' => r' = r ∧ i_Rel (k + 5) u' v') v v1 v2) u v1 v2 := by
  obtain ⟨M, F, pl, pa, cp, ps, wn, wd, wh, kd, pr, nm, ll, la, lx, ly, fn, fr, fo, pt, pd, py, rfl, rfl, h⟩ := I
  have hM := cs_iM h
  have hF := cs_iF h
  unfold wpX_unlink wpY_unlink
  by_cases n1 : v2 < 1
  · exact xs_nm0 (post := _) (Or.inl n1) (br_t rfl (br_t n1 ⟨rfl, cs_rel _ h⟩))
  by_cases n2 : 15 < v2
  · have n3 : ¬ v2 ≤ 15 := Int32.not_le.mpr n2
    exact xs_nm0 (post := _) (Or.inr n2) (br_t rfl (br_f n1 (br_f n3 ⟨rfl, cs_rel _ h⟩)))
  have n3 : v2 ≤ 15 := Int32.not_lt.mp n2
  refine xs_nm1 (post := _) n1 n2 (br_f cs_10 ?_)
  rcases cs_ofd h v1 with ⟨j, p, hj, hp, rfl, e⟩ | hc
  · have hv : vp_in (nI j) 16 := vp_in_nI (by omega) (by omega)
    have hw : vp_in (nI p) 32 := vp_in_nI (by omega) (by omega)
    have cj : (nI j).toNatClampNeg = j := nI_clamp (by omega)
    have cpp : (nI p).toNatClampNeg = p := nI_clamp (by omega)
    have e1 : fn (nI j).toNatClampNeg = nI p := by rw [cj, e]
    by_cases zk : kd p = 1
    · have zk1 : kd (nI p).toNatClampNeg = 1 := by rw [cpp, zk]
      by_cases zr : fr j &&& 32 = 0
      · have zr1 : fr (nI j).toNatClampNeg &&& 32 = 0 := by rw [cj]; exact zr
        refine xs_ref_nocap (post := _) h hj hp e zk zr (br_f (by decide) ?_)
        exact br_f n1 (br_t n3 (ys_open (post := _) h hj hp e (br_f cs_10 ⟨hv, nm_r e1 ⟨hw, br_t zk1 ⟨hv, br_t zr1 ⟨rfl, cs_rel _ h⟩⟩⟩⟩)))
      · have zr1 : ¬ fr (nI j).toNatClampNeg &&& 32 = 0 := by rw [cj]; exact zr
        obtain ⟨r, hr, cX, cY⟩ := cs_child (pa := pa) (cp := cp) (ps := ps) (wn := wn) (wd := wd) (wh := wh) (nm := nm) (la := la) (fr := fr) (fo := fo) (pt := pt) (pd := pd) (py := py) h (nI p) v2
        rw [← e1] at cX
        refine xs_ref_ok (post := _) h hj hp e zk zr (br_t rfl ⟨hv, cX _ ?_⟩)
        rcases hr with rfl | ⟨m, hm1, hm, rfl, zf, zp, zn⟩
        · refine br_t rfl ?_
          exact br_f n1 (br_t n3 (ys_open (post := _) h hj hp e (br_f cs_10 ⟨hv, nm_r e1 ⟨hw, br_t zk1 ⟨hv, br_f zr1 (cY _ (br_f cs_m1ge ⟨rfl, cs_rel _ h⟩))⟩⟩⟩)))
        · have cm : (nI m).toNatClampNeg = m := nI_clamp (by omega)
          have hvm : vp_in (nI m) 32 := vp_in_nI (by omega) (by omega)
          have ge : (0 : Int32) ≤ nI m := nI_pos' (by omega)
          refine br_f (cs_nm1 (by omega)) ?_
          by_cases ho : ∃ s, s < F ∧ fn s = nI m
          · obtain ⟨s, hs, zs⟩ := ho
            refine xs_isHeld1 (post := _) hF.2 hs zs (br_f cs_10 ?_)
            refine br_f n1 (br_t n3 (ys_open (post := _) h hj hp e (br_f cs_10 ⟨hv, nm_r e1 ⟨hw, br_t zk1 ⟨hv, br_f zr1 (cY _ (br_t ge ⟨s + 1, ?_⟩))⟩⟩⟩)))
            exact ys_held1 hF.2 hs zs ⟨rfl, cs_rel _ h⟩ s 0 (by omega)
          · have ho' : ∀ t, t < F → ¬ fn t = nI m := fun t ht e3 => ho ⟨t, ht, e3⟩
            refine xs_isHeld0 (post := _) hF.2 ho' (br_t rfl ?_)
            by_cases hc : ∃ s, 1 ≤ s ∧ s < M ∧ ¬ kd s = 0 ∧ pr s = nI m
            · obtain ⟨s, hs1, hs, z1, z2⟩ := hc
              have zd : kd (nI m).toNatClampNeg = 1 := by rw [cm]; exact cs_idir h s m hs1 hs z1 hm z2
              refine xs_hasKids1 (post := _) hM.2 hs1 hs z1 z2 (br_f cs_10 ?_)
              refine br_f n1 (br_t n3 (ys_open (post := _) h hj hp e (br_f cs_10 ⟨hv, nm_r e1 ⟨hw, br_t zk1 ⟨hv, br_f zr1 (cY _ (br_t ge ⟨F + 1, ?_⟩))⟩⟩⟩)))
              refine ys_held0 hF.2 ho' ?_ F 0 (by omega)
              refine br_t (nI_le (Nat.le_refl F) (by omega)) ⟨hvm, br_t zd ⟨s - 1 + 1, ?_⟩⟩
              exact ys_kids1 hM.2 hs z1 z2 ⟨rfl, cs_rel _ h⟩ (s - 1) 1 (by omega)
            · have hc' : ∀ t, 1 ≤ t → t < M → ¬ kd t = 0 → ¬ pr t = nI m := fun t h1 h2 h3 h4 => hc ⟨t, h1, h2, h3, h4⟩
              refine xs_hasKids0 (post := _) (by omega) hM.2 hc' (br_t rfl ?_)
              refine xs_setNode (post := _) (by omega) ?_
              refine br_f n1 (br_t n3 (ys_open (post := _) h hj hp e (br_f cs_10 ⟨hv, nm_r e1 ⟨hw, br_t zk1 ⟨hv, br_f zr1 (cY _ (br_t ge ⟨F + 1, ?_⟩))⟩⟩⟩)))
              refine ys_held0 hF.2 ho' ?_ F 0 (by omega)
              have V := cs_vdel (ly' := cs_cp ly (m * 4) 4 (fun _ => 0)) h hm1 hc' (fun q i hq hi => cs_cp_out (by omega))
              refine br_t (nI_le (Nat.le_refl F) (by omega)) ⟨hvm, br_c (fun _ => ⟨M - 1 + 1, ?_⟩) (fun _ => ?_)⟩
              · exact ys_kids0 hM.2 hc' (ys_del (by omega) ⟨rfl, cs_rel _ V⟩) (M - 1) 1 (by omega) (by omega)
              · exact ys_del (by omega) ⟨rfl, cs_rel _ V⟩
    · have zk1 : ¬ kd (nI p).toNatClampNeg = 1 := by rw [cpp]; exact zk
      refine xs_ref_nodir (post := _) h hj hp e zk (br_f (by decide) ?_)
      exact br_f n1 (br_t n3 (ys_open (post := _) h hj hp e (br_f cs_10 ⟨hv, nm_r e1 ⟨hw, br_f zk1 ⟨rfl, cs_rel _ h⟩⟩⟩)))
  · refine xs_ref_shut (post := _) h hc (br_f (by decide) ?_)
    exact br_f n1 (br_t n3 (ys_shut (post := _) h hc (br_t rfl ⟨rfl, cs_rel _ h⟩)))
end
section
section
variable {M F pl : Nat} {pa cp ps wn wd wh : Int32} {kd pr nm ll la lx ly fn fr fo pt pd py : Nat → Int32}
theorem xs_copy {post : SX → Prop} {n : Nat} (hn : n < 32) (hpl : pl ≤ 4) (k : post (nI M, nI F, nI pl, pa, cp, ps, wn, wd, wh, kd, pr, nm, upd ll n (nI pl), upd la n (vp_nar .boolean pa), cs_cp lx (n * 4) pl pt, fn, fr, fo, pt, pd)) : wpX_copyPathToLink post (nI M, nI F, nI pl, pa, cp, ps, wn, wd, wh, kd, pr, nm, ll, la, lx, fn, fr, fo, pt, pd) (nI n) := by
  have cs : (nI n).toNatClampNeg = n := nI_clamp (by omega)
  have hv : vp_in (nI n) 32 := vp_in_nI hn (by omega)
  have z := xs_copy1 (ll := upd ll n (nI pl)) (la := upd la n (vp_nar .boolean pa)) hn hpl k pl 0 (by omega)
  rw [cs_cp_0] at z
  exact ⟨hv, nm_r (by rw [cs]) ⟨hv, nm_r (by rw [cs]) ⟨pl + 1, z⟩⟩⟩
theorem ys_new3 {post : Int32 → SY → Prop} {n : Nat} {x2 x4 : Int32} (hn : n < 32) (hpl : pl ≤ 4)
    (k : post (nI n) (nI M, nI F, cp, pa, nI pl, upd kd n 3, upd pr n x4, upd nm n x2, upd (upd ll n 0) n (nI pl), upd (upd la n (vp_nar .boolean 0)) n (vp_nar .boolean pa), cs_cp ly (n * 4) pl pt, fn, fr, fo, pt, py)) : wY_create_116 post x2 3 x4 (nI M) (nI F) cp pa (nI pl) kd pr nm ll la ly fn fr fo pt py (0 + 1) (nI n) (nI 0) := by
  have cs : (nI n).toNatClampNeg = n := nI_clamp (by omega)
  have hv : vp_in (nI n) 32 := vp_in_nI hn (by omega)
  have z := ys_copy1 (kd := upd kd n 3) (pr := upd pr n x4) (nm := upd nm n x2) (ll := upd ll n 0) (la := upd (upd la n (vp_nar .boolean 0)) n (vp_nar .boolean pa)) hn hpl k pl 0 (by omega)
  rw [cs_cp_0] at z
  exact br_t (nI_lt (a := 0) (b := 1) (by omega) (by omega)) (br_t (nI_pos' (by omega)) ⟨hv, nm_r (by rw [cs]) ⟨hv, nm_r (by rw [cs]) ⟨hv, nm_r (by rw [cs]) ⟨hv, nm_r (by rw [cs]) ⟨hv, nm_r (by rw [cs]) (br_t rfl ⟨hv, nm_r (by rw [cs]) ⟨pl + 1, z⟩⟩)⟩⟩⟩⟩⟩)
theorem ys_newo {post : Int32 → SY → Prop} {n : Nat} {x2 x3 x4 : Int32} (hn : n < 32) (hk : ¬ x3 = 3)
    (k : post (nI n) (nI M, nI F, cp, pa, nI pl, upd kd n x3, upd pr n x4, upd nm n x2, upd ll n 0, upd la n (vp_nar .boolean 0), ly, fn, fr, fo, pt, py)) : wY_create_116 post x2 x3 x4 (nI M) (nI F) cp pa (nI pl) kd pr nm ll la ly fn fr fo pt py (0 + 1) (nI n) (nI 0) := by
  have cs : (nI n).toNatClampNeg = n := nI_clamp (by omega)
  have hv : vp_in (nI n) 32 := vp_in_nI hn (by omega)
  exact br_t (nI_lt (a := 0) (b := 1) (by omega) (by omega)) (br_t (nI_pos' (by omega)) ⟨hv, nm_r (by rw [cs]) ⟨hv, nm_r (by rw [cs]) ⟨hv, nm_r (by rw [cs]) ⟨hv, nm_r (by rw [cs]) ⟨hv, nm_r (by rw [cs]) (br_f hk k)⟩⟩⟩⟩⟩)
/-- create behind all its checks -/
theorem cs_make {k j p : Nat} {v2 v3 : Int32} (h : cs_Inv M F pl kd pr ll lx ly fn) (hj : j < F) (hp : p < M) (e : fn j = nI p) (zk : kd p = 1) (hkk : v3 = 1 ∨ v3 = 2 ∨ v3 = 3) (h4 : v3 = 3 → pl ≤ 4)
    (hX : ∀ post : Int32 → SX → Prop, wX_create_50 post (nI j) v2 v3 (nI M) (nI F) (nI pl) pa cp ps wn wd wh kd pr nm ll la lx fn fr fo pt pd → wpX_create post (nI M, nI F, nI pl, pa, cp, ps, wn, wd, wh, kd, pr, nm, ll, la, lx, fn, fr, fo, pt, pd) (nI j) v2 v3)
    (hY : ∀ post : Int32 → SY → Prop, wY_create_92 post v2 v3 (nI p) (nI M) (nI F) cp pa (nI pl) kd pr nm ll la ly fn fr fo pt py → wpY_create post (nI M, nI F, cp, pa, nI pl, kd, pr, nm, ll, la, ly, fn, fr, fo, pt, py) (nI j) v2 v3) :
    wpX_create (fun r u' => wpY_create (fun r' v' => r' = r ∧ i_Rel (k + 5) u' v') (nI M, nI F, cp, pa, nI pl, kd, pr, nm, ll, la, ly, fn, fr, fo, pt, py) (nI j) v2 v3) (nI M, nI F, nI pl, pa, cp, ps, wn, wd, wh, kd, pr, nm, ll, la, lx, fn, fr, fo, pt, pd) (nI j) v2 v3 := by
  have hM := cs_iM h
  have hF := cs_iF h
  have hv : vp_in (nI j) 16 := vp_in_nI (by omega) (by omega)
  have e1 : fn (nI j).toNatClampNeg = nI p := by rw [nI_clamp (by omega), e]
  obtain ⟨r, hr, cX, cY⟩ := cs_child (pa := pa) (cp := cp) (ps := ps) (wn := wn) (wd := wd) (wh := wh) (nm := nm) (la := la) (fr := fr) (fo := fo) (pt := pt) (pd := pd) (py := py) h (nI p) v2
  refine hX _ ⟨hv, nm_r e1 (cX _ ?_)⟩
  rcases hr with rfl | ⟨n, hn1, hn, rfl, _⟩
  · refine br_t rfl ?_
    have eM : nI M - 1 = nI (M - 1) := pk_sub (b := 1) (by omega)
    by_cases hfree : ∃ s, 1 ≤ s ∧ s < M ∧ kd s = 0
    · obtain ⟨s, ⟨hs1, hs, zs⟩, hl⟩ := pk_least (fun s => 1 ≤ s ∧ s < M ∧ kd s = 0) hfree
      have hz : ∀ t, 1 ≤ t → t < s → ¬ kd t = 0 := fun t h1 h2 h3 => hl t h2 ⟨h1, by omega, h3⟩
      refine xs_low1 (post := _) hM.2 hs1 hs zs hz ?_
      refine br_f (cs_nm1 (by omega)) ?_
      refine xs_setNode (post := _) (by omega) ?_
      by_cases h3 : v3 = 3
      · subst h3
        have hpl := h4 rfl
        refine br_t rfl ?_
        refine xs_copy (post := _) (by omega) hpl ?_
        refine hY _ (cY _ (br_t cs_m1lt (nm_r eM ⟨M - 1 + 1, ?_⟩)))
        refine ys_some hM.2 hs1 zs hz ?_ (M - 1) (-1) (by omega) (by omega)
        refine ys_new3 (by omega) hpl ⟨rfl, cs_rel _ ?_⟩
        refine cs_vnew (n := s) (d := p) (l := pl) (kk := 3) h hs1 hs zs hp zk (Or.inr (Or.inr rfl)) pk_us (fun q hq => pk_un hq) pk_us (fun q hq => pk_un hq) hpl pk_us (fun q hq => (pk_un hq).trans (pk_un hq)) (fun i hi => ?_) (fun q i hq hi => cs_cp_out (by omega)) (fun q i hq hi => cs_cp_out (by omega))
        rw [cs_cp_in hi, cs_cp_in hi]
      · refine br_f h3 ?_
        refine hY _ (cY _ (br_t cs_m1lt (nm_r eM ⟨M - 1 + 1, ?_⟩)))
        refine ys_some hM.2 hs1 zs hz ?_ (M - 1) (-1) (by omega) (by omega)
        refine ys_newo (by omega) h3 ⟨rfl, cs_rel _ ?_⟩
        exact cs_vnew (n := s) (d := p) (l := 0) (kk := v3) h hs1 hs zs hp zk hkk pk_us (fun q hq => pk_un hq) pk_us (fun q hq => pk_un hq) (by omega) pk_us (fun q hq => pk_un hq) (fun i hi => absurd hi (Nat.not_lt_zero _)) (fun q i hq hi => rfl) (fun q i hq hi => rfl)
    · have hz : ∀ t, 1 ≤ t → t < M → ¬ kd t = 0 := fun t h1 h2 h3 => hfree ⟨t, h1, h2, h3⟩
      refine xs_low0 (post := _) (by omega) hM.2 hz (br_t rfl ?_)
      refine hY _ (cY _ (br_t cs_m1lt (nm_r eM ⟨M - 1 + 1, ?_⟩)))
      refine ys_none hM.2 ?_ (M - 1) (by omega) (fun t h1 h2 => hz t h1 (by omega))
      exact br_t (nI_lt (a := 0) (b := 1) (by omega) (by omega)) (br_f cs_m1ge ⟨rfl, cs_rel _ h⟩)
  · exact br_f (cs_nm1 (by omega)) (hY _ (cY _ (br_f (nI_pos (by omega)) ⟨rfl, cs_rel _ h⟩)))
end
theorem i_vc_create {k : Nat} {u : SX} {v : SY} (I : i_Rel k u v) (hk : k + 5 ≤ 2562) (v1 : Int32) (v2 : Int32) (v3 : Int32) : wpX_create (fun r u' => wpY_create (fun r' v' => r' = r ∧ i_Rel (k + 5) u' v') v v1 v2 v3) u v1 v2 v3 := by
  obtain ⟨M, F, pl, pa, cp, ps, wn, wd, wh, kd, pr, nm, ll, la, lx, ly, fn, fr, fo, pt, pd, py, rfl, rfl, h⟩ := I
  have hM := cs_iM h
  have hF := cs_iF h
  have hpl8 := cs_ipl h
  by_cases hkk : v3 = 1 ∨ v3 = 2 ∨ v3 = 3
  · by_cases n1 : v2 < 1
    · unfold wpX_create
      exact xs_kd1 (post := _) hkk (br_f cs_10 (xs_nm0 (post := _) (Or.inl n1) (br_t rfl (ys_kd1 hkk (br_t n1 ⟨rfl, cs_rel _ h⟩)))))
    by_cases n2 : 15 < v2
    · have n3 : ¬ v2 ≤ 15 := Int32.not_le.mpr n2
      unfold wpX_create
      exact xs_kd1 (post := _) hkk (br_f cs_10 (xs_nm0 (post := _) (Or.inr n2) (br_t rfl (ys_kd1 hkk (br_f n1 (br_f n3 ⟨rfl, cs_rel _ h⟩))))))
    have n3 : v2 ≤ 15 := Int32.not_lt.mp n2
    rcases cs_ofd h v1 with ⟨j, p, hj, hp, rfl, e⟩ | hc
    · have hv : vp_in (nI j) 16 := vp_in_nI (by omega) (by omega)
      have hw : vp_in (nI p) 32 := vp_in_nI (by omega) (by omega)
      have cj : (nI j).toNatClampNeg = j := nI_clamp (by omega)
      have cpp : (nI p).toNatClampNeg = p := nI_clamp (by omega)
      have e1 : fn (nI j).toNatClampNeg = nI p := by rw [cj, e]
      by_cases zk : kd p = 1
      · have zk1 : kd (nI p).toNatClampNeg = 1 := by rw [cpp, zk]
        by_cases zr : fr j &&& 8 = 0
        · have zr1 : fr (nI j).toNatClampNeg &&& 8 = 0 := by rw [cj]; exact zr
          unfold wpX_create
          refine xs_kd1 (post := _) hkk (br_f cs_10 (xs_nm1 (post := _) n1 n2 (br_f cs_10 ?_)))
          refine xs_ref_nocap (post := _) h hj hp e zk zr (br_f (by decide) ?_)
          exact ys_kd1 hkk (br_f n1 (br_t n3 (ys_open (post := _) h hj hp e (br_f cs_10 ⟨hv, nm_r e1 ⟨hw, br_t zk1 ⟨hv, br_t zr1 ⟨rfl, cs_rel _ h⟩⟩⟩⟩))))
        · have zr1 : ¬ fr (nI j).toNatClampNeg &&& 8 = 0 := by rw [cj]; exact zr
          by_cases h3 : v3 = 3
          · by_cases h4 : pl ≤ 4
            · have g4 : nI pl ≤ 4 := nI_le (b := 4) h4 (by omega)
              refine cs_make h hj hp e zk hkk (fun _ => h4) (fun post K => ?_) (fun post K => ?_)
              · unfold wpX_create
                refine xs_kd1 (post := _) hkk (br_f cs_10 (xs_nm1 (post := _) n1 n2 (br_f cs_10 ?_)))
                exact xs_ref_ok (post := _) h hj hp e zk zr (br_t rfl (br_t h3 (br_t g4 K)))
              · exact ys_kd1 hkk (br_f n1 (br_t n3 (ys_open (post := _) h hj hp e (br_f cs_10 ⟨hv, nm_r e1 ⟨hw, br_t zk1 ⟨hv, br_f zr1 (br_t h3 (br_t g4 K))⟩⟩⟩))))
            · have g4 : ¬ nI pl ≤ 4 := nI_ge (a := 4) (by omega) (by omega)
              unfold wpX_create
              refine xs_kd1 (post := _) hkk (br_f cs_10 (xs_nm1 (post := _) n1 n2 (br_f cs_10 ?_)))
              refine xs_ref_ok (post := _) h hj hp e zk zr (br_t rfl (br_t h3 (br_f g4 ?_)))
              exact ys_kd1 hkk (br_f n1 (br_t n3 (ys_open (post := _) h hj hp e (br_f cs_10 ⟨hv, nm_r e1 ⟨hw, br_t zk1 ⟨hv, br_f zr1 (br_t h3 (br_f g4 ⟨rfl, cs_rel _ h⟩))⟩⟩⟩))))
          · refine cs_make h hj hp e zk hkk (fun z => absurd z h3) (fun post K => ?_) (fun post K => ?_)
            · unfold wpX_create
              refine xs_kd1 (post := _) hkk (br_f cs_10 (xs_nm1 (post := _) n1 n2 (br_f cs_10 ?_)))
              exact xs_ref_ok (post := _) h hj hp e zk zr (br_t rfl (br_f h3 K))
            · exact ys_kd1 hkk (br_f n1 (br_t n3 (ys_open (post := _) h hj hp e (br_f cs_10 ⟨hv, nm_r e1 ⟨hw, br_t zk1 ⟨hv, br_f zr1 (br_f h3 K)⟩⟩⟩))))
      · have zk1 : ¬ kd (nI p).toNatClampNeg = 1 := by rw [cpp]; exact zk
        unfold wpX_create
        refine xs_kd1 (post := _) hkk (br_f cs_10 (xs_nm1 (post := _) n1 n2 (br_f cs_10 ?_)))
        refine xs_ref_nodir (post := _) h hj hp e zk (br_f (by decide) ?_)
        exact ys_kd1 hkk (br_f n1 (br_t n3 (ys_open (post := _) h hj hp e (br_f cs_10 ⟨hv, nm_r e1 ⟨hw, br_f zk1 ⟨rfl, cs_rel _ h⟩⟩⟩))))
    · unfold wpX_create
      refine xs_kd1 (post := _) hkk (br_f cs_10 (xs_nm1 (post := _) n1 n2 (br_f cs_10 ?_)))
      refine xs_ref_shut (post := _) h hc (br_f (by decide) ?_)
      exact ys_kd1 hkk (br_f n1 (br_t n3 (ys_shut (post := _) h hc (br_t rfl ⟨rfl, cs_rel _ h⟩))))
  · have k1 : ¬ v3 = 1 := fun z => hkk (Or.inl z)
    have k2 : ¬ v3 = 2 := fun z => hkk (Or.inr (Or.inl z))
    have k3 : ¬ v3 = 3 := fun z => hkk (Or.inr (Or.inr z))
    unfold wpX_create wpX_isCreatableKind
    exact br_f k1 (br_f k2 (br_f k3 (br_t rfl (br_f k1 (br_f k2 (br_f k3 ⟨rfl, cs_rel _ h⟩))))))
theorem i_vc_rename {k : Nat} {u : SX} {v : SY} (I : i_Rel k u v) (hk : k + 5 ≤ 2562) (v1 : Int32) (v2 : Int32) (v3 : Int32) (v4 : Int32) : wpX_rename (fun r u' => wpY_rename (fun r' v' => r' = r ∧ i_Rel (k + 5) u' v') v v1 v2 v3 v4) u v1 v2 v3 v4 := by
  obtain ⟨M, F, pl, pa, cp, ps, wn, wd, wh, kd, pr, nm, ll, la, lx, ly, fn, fr, fo, pt, pd, py, rfl, rfl, h⟩ := I
  have hM := cs_iM h
  have hF := cs_iF h
  unfold wpX_rename
  by_cases a1 : v2 < 1
  · exact xs_nm0 (post := _) (Or.inl a1) (br_t rfl (br_t a1 ⟨rfl, cs_rel _ h⟩))
  by_cases a2 : 15 < v2
  · exact xs_nm0 (post := _) (Or.inr a2) (br_t rfl (br_f a1 (br_t a2 ⟨rfl, cs_rel _ h⟩)))
  refine xs_nm1 (post := _) a1 a2 (br_f cs_10 ?_)
  by_cases b1 : v4 < 1
  · exact xs_nm0 (post := _) (Or.inl b1) (br_t rfl (br_f a1 (br_f a2 (br_t b1 ⟨rfl, cs_rel _ h⟩))))
  by_cases b2 : 15 < v4
  · have b3 : ¬ v4 ≤ 15 := Int32.not_le.mpr b2
    exact xs_nm0 (post := _) (Or.inr b2) (br_t rfl (br_f a1 (br_f a2 (br_f b1 (br_f b3 ⟨rfl, cs_rel _ h⟩)))))
  have b3 : v4 ≤ 15 := Int32.not_lt.mp b2
  refine xs_nm1 (post := _) b1 b2 (br_f cs_10 ?_)
  rcases cs_ofd h v1 with ⟨i, p, hi, hp, rfl, e⟩ | hc
  · rcases cs_ofd h v3 with ⟨j, t, hj, ht, rfl, f⟩ | hc
    · have hvi : vp_in (nI i) 16 := vp_in_nI (by omega) (by omega)
      have hvj : vp_in (nI j) 16 := vp_in_nI (by omega) (by omega)
      have hwp : vp_in (nI p) 32 := vp_in_nI (by omega) (by omega)
      have hwt : vp_in (nI t) 32 := vp_in_nI (by omega) (by omega)
      have ci : (nI i).toNatClampNeg = i := nI_clamp (by omega)
      have cj : (nI j).toNatClampNeg = j := nI_clamp (by omega)
      have cpp : (nI p).toNatClampNeg = p := nI_clamp (by omega)
      have ct : (nI t).toNatClampNeg = t := nI_clamp (by omega)
      have e1 : fn (nI i).toNatClampNeg = nI p := by rw [ci, e]
      have f1 : fn (nI j).toNatClampNeg = nI t := by rw [cj, f]
      refine xs_open (post := _) h hi hp e (br_f cs_10 ?_)
      refine xs_open (post := _) h hj ht f (br_f cs_10 ?_)
      by_cases zp : kd p = 1
      · have zp1 : kd (nI p).toNatClampNeg = 1 := by rw [cpp, zp]
        refine xs_isdir (post := _) h hi hp e zp (br_f cs_10 ?_)
        by_cases zt : kd t = 1
        · have zt1 : kd (nI t).toNatClampNeg = 1 := by rw [ct, zt]
          refine xs_isdir (post := _) h hj ht f zt (br_f cs_10 ?_)
          by_cases ri : fr i &&& 16 = 0
          · have ri1 : fr (nI i).toNatClampNeg &&& 16 = 0 := by rw [ci]; exact ri
            refine xs_noright (post := _) h hi ri (br_t rfl ?_)
            exact br_f a1 (br_f a2 (br_f b1 (br_t b3 (ys_open (post := _) h hi hp e (br_f cs_10 (ys_open (post := _) h hj ht f (br_f cs_10 ⟨hvi, nm_r e1 ⟨hvj, nm_r f1 ⟨hwp, br_t zp1 ⟨hwt, br_t zt1 ⟨hvi, br_t ri1 ⟨rfl, cs_rel _ h⟩⟩⟩⟩⟩⟩)))))))
          have ri1 : ¬ fr (nI i).toNatClampNeg &&& 16 = 0 := by rw [ci]; exact ri
          refine xs_right (post := _) h hi ri (br_f cs_10 ?_)
          by_cases rj : fr j &&& 16 = 0
          · have rj1 : fr (nI j).toNatClampNeg &&& 16 = 0 := by rw [cj]; exact rj
            refine xs_noright (post := _) h hj rj (br_t rfl ?_)
            exact br_f a1 (br_f a2 (br_f b1 (br_t b3 (ys_open (post := _) h hi hp e (br_f cs_10 (ys_open (post := _) h hj ht f (br_f cs_10 ⟨hvi, nm_r e1 ⟨hvj, nm_r f1 ⟨hwp, br_t zp1 ⟨hwt, br_t zt1 ⟨hvi, br_f ri1 ⟨hvj, br_t rj1 ⟨rfl, cs_rel _ h⟩⟩⟩⟩⟩⟩⟩)))))))
          have rj1 : ¬ fr (nI j).toNatClampNeg &&& 16 = 0 := by rw [cj]; exact rj
          refine xs_right (post := _) h hj rj (br_f cs_10 ?_)
          obtain ⟨r, hr, cX, cY⟩ := cs_child (pa := pa) (cp := cp) (ps := ps) (wn := wn) (wd := wd) (wh := wh) (nm := nm) (la := la) (fr := fr) (fo := fo) (pt := pt) (pd := pd) (py := py) h (nI p) v2
          obtain ⟨r2, hr2, dX, dY⟩ := cs_child (pa := pa) (cp := cp) (ps := ps) (wn := wn) (wd := wd) (wh := wh) (nm := nm) (la := la) (fr := fr) (fo := fo) (pt := pt) (pd := pd) (py := py) h (nI t) v4
          have hY : ∀ post : Int32 → SY → Prop, (wpY_findChild (fun r_53 => (((0 ≤ r_53 → (wpY_findChild (fun r_71 => (((r_71 < 0 → (vp_in r_53 32 ∧ ((((kd r_53.toNatClampNeg) = 1 → (∃ n170 : Nat, wY_rename_170 post v4 (nI t) r_53 (nI M) (nI F) cp pa (nI pl) kd pr nm ll la ly fn fr fo pt py n170 (nI t) 0)) ∧ (¬ (kd r_53.toNatClampNeg) = 1 → (wY_rename_210 post v4 (nI t) r_53 (nI M) (nI F) cp pa (nI pl) kd pr nm ll la ly fn fr fo pt py)))))) ∧ (¬ r_71 < 0 → (post (-6) (nI M, nI F, cp, pa, nI pl, kd, pr, nm, ll, la, ly, fn, fr, fo, pt, py)))))) (nI M, nI F, cp, pa, nI pl, kd, pr, nm, ll, la, ly, fn, fr, fo, pt, py) (nI t) v4)) ∧ (¬ 0 ≤ r_53 → (post (-5) (nI M, nI F, cp, pa, nI pl, kd, pr, nm, ll, la, ly, fn, fr, fo, pt, py)))))) (nI M, nI F, cp, pa, nI pl, kd, pr, nm, ll, la, ly, fn, fr, fo, pt, py) (nI p) v2) → wpY_rename post (nI M, nI F, cp, pa, nI pl, kd, pr, nm, ll, la, ly, fn, fr, fo, pt, py) (nI i) v2 (nI j) v4 := by
            intro post K
            exact br_f a1 (br_f a2 (br_f b1 (br_t b3 (ys_open (post := _) h hi hp e (br_f cs_10 (ys_open (post := _) h hj ht f (br_f cs_10 ⟨hvi, nm_r e1 ⟨hvj, nm_r f1 ⟨hwp, br_t zp1 ⟨hwt, br_t zt1 ⟨hvi, br_f ri1 ⟨hvj, br_f rj1 K⟩⟩⟩⟩⟩⟩)))))))
          have cX' := cX
          rw [← e1] at cX'
          refine ⟨hvi, cX' _ ?_⟩
          rcases hr with rfl | ⟨m, hm1, hm, rfl, zf, zpp, zn⟩
          · exact br_t rfl (hY _ (cY _ (br_f cs_m1ge ⟨rfl, cs_rel _ h⟩)))
          have cm : (nI m).toNatClampNeg = m := nI_clamp (by omega)
          have hvm : vp_in (nI m) 32 := vp_in_nI (by omega) (by omega)
          have ge : (0 : Int32) ≤ nI m := nI_pos' (by omega)
          refine br_f (cs_nm1 (by omega)) ⟨hvj, nm_r f1 (dX _ ?_)⟩
          rcases hr2 with rfl | ⟨m2, hm21, hm2, rfl, _⟩
          · refine br_t rfl ⟨hvm, ?_⟩
            have V := cs_vmov h hm1 ht zt
            by_cases zm : kd (nI m).toNatClampNeg = 1
            · refine br_t zm ?_
              by_cases hit : ∃ s, cs_ch pr t s = m
              · obtain ⟨s, hs, es⟩ := cs_ch_hit hM.2 ht (cs_ipr h) hit
                refine xs_below1 (post := _) hM.2 ht hm (cs_ipr h) hs es (br_f cs_10 ?_)
                refine hY _ (cY _ (br_t ge (dY _ (br_t cs_m1lt ⟨hvm, br_t zm ⟨s + 1, ?_⟩⟩))))
                exact ys_anc1 hM.2 ht hm1 hm (cs_ip0 h) (cs_ipr h) hs es ⟨rfl, cs_rel _ h⟩ s 0 (by omega)
              · have hn : ∀ s, ¬ cs_ch pr t s = m := fun s es => hit ⟨s, es⟩
                refine xs_below0 (post := _) hM.2 ht hm (cs_ipr h) hn (br_t rfl ?_)
                refine ⟨hvm, nm_r (by rw [cm]) ⟨hvm, nm_r (by rw [cm]) ?_⟩⟩
                refine hY _ (cY _ (br_t ge (dY _ (br_t cs_m1lt ⟨hvm, br_t zm ⟨33 + 1, ?_⟩⟩))))
                exact ys_anc0 hM.2 ht hm (cs_ipr h) hn ⟨hvm, nm_r (by rw [cm]) ⟨hvm, nm_r (by rw [cm]) ⟨rfl, cs_rel _ V⟩⟩⟩ 33 0 (by omega)
            · refine br_f zm ?_
              refine ⟨hvm, nm_r (by rw [cm]) ⟨hvm, nm_r (by rw [cm]) ?_⟩⟩
              refine hY _ (cY _ (br_t ge (dY _ (br_t cs_m1lt ⟨hvm, br_f zm ?_⟩))))
              exact ⟨hvm, nm_r (by rw [cm]) ⟨hvm, nm_r (by rw [cm]) ⟨rfl, cs_rel _ V⟩⟩⟩
          · refine br_f (cs_nm1 (by omega)) ?_
            exact hY _ (cY _ (br_t ge (dY _ (br_f (nI_pos (by omega)) ⟨rfl, cs_rel _ h⟩))))
        · have zt1 : ¬ kd (nI t).toNatClampNeg = 1 := by rw [ct]; exact zt
          refine xs_nodir (post := _) h hj ht f zt (br_t rfl ?_)
          exact br_f a1 (br_f a2 (br_f b1 (br_t b3 (ys_open (post := _) h hi hp e (br_f cs_10 (ys_open (post := _) h hj ht f (br_f cs_10 ⟨hvi, nm_r e1 ⟨hvj, nm_r f1 ⟨hwp, br_t zp1 ⟨hwt, br_f zt1 ⟨rfl, cs_rel _ h⟩⟩⟩⟩⟩)))))))
      · have zp1 : ¬ kd (nI p).toNatClampNeg = 1 := by rw [cpp]; exact zp
        refine xs_nodir (post := _) h hi hp e zp (br_t rfl ?_)
        exact br_f a1 (br_f a2 (br_f b1 (br_t b3 (ys_open (post := _) h hi hp e (br_f cs_10 (ys_open (post := _) h hj ht f (br_f cs_10 ⟨hvi, nm_r e1 ⟨hvj, nm_r f1 ⟨hwp, br_f zp1 ⟨rfl, cs_rel _ h⟩⟩⟩⟩)))))))
    · refine xs_open (post := _) h hi hp e (br_f cs_10 ?_)
      refine xs_shut (post := _) h hc (br_t rfl ?_)
      exact br_f a1 (br_f a2 (br_f b1 (br_t b3 (ys_open (post := _) h hi hp e (br_f cs_10 (ys_shut (post := _) h hc (br_t rfl ⟨rfl, cs_rel _ h⟩)))))))
  · refine xs_shut (post := _) h hc (br_t rfl ?_)
    exact br_f a1 (br_f a2 (br_f b1 (br_t b3 (ys_shut (post := _) h hc (br_t rfl ⟨rfl, cs_rel _ h⟩)))))
end
section
section
variable {M F pl : Nat} {pa cp ps wn wd wh : Int32} {kd pr nm ll la lx ly fn fr fo pt pd py : Nat → Int32}
theorem cs_sub40 {a : Nat} (h : a ≤ 40) : (40 : Int32) - nI a = nI (40 - a) := pk_sub (a := 40) h
/-! the class: loading the path -/
theorem xs_load1 {post : SX → Prop} (hpl : pl ≤ 8) (k : post (nI M, nI F, nI pl, pa, cp, nI (40 - pl), wn, wd, wh, kd, pr, nm, ll, la, lx, fn, fr, fo, pt, cs_cp pd (40 - pl) pl pt)) : ∀ q i, i + q = pl →
    wX_loadPendingFromPath_13 post (nI M) (nI F) (nI pl) pa cp (nI (40 - pl)) wn wd wh (q + 1) (nI i) kd pr nm ll la lx fn fr fo pt (cs_cp pd (40 - pl) i pt) := by
  intro q
  induction q with
  | zero =>
    intro i hi
    have e : i = pl := by omega
    subst e
    exact br_t (nI_le (by omega) (by omega)) k
  | succ q ih =>
    intro i hi
    have e1 : nI (40 - pl) + nI i = nI (40 - pl + i) := nI_add _ _
    have hv : vp_in (nI (40 - pl) + nI i) 40 := by rw [e1]; exact vp_in_nI (by omega) (by omega)
    have ec : upd (cs_cp pd (40 - pl) i pt) (nI (40 - pl) + nI i).toNatClampNeg (pt (nI i).toNatClampNeg) = cs_cp pd (40 - pl) (i + 1) pt := by
      rw [e1, nI_clamp (by omega), nI_clamp (by omega), cs_cp_s]
    exact br_f (nI_ge (by omega) (by omega)) ⟨vp_in_nI (by omega) (by omega), hv, nm_r ec (nm_r (nI_1 i) (ih (i + 1) (by omega)))⟩
/-! the class: a link's components in front -/
theorem xs_link1 {post : Int32 → SX → Prop} {n l s : Nat} (hn : n < 32) (hl : l ≤ 4) (hs : s + l ≤ 40) (k : post 0 (nI M, nI F, nI pl, pa, cp, nI s, wn, wd, wh, kd, pr, nm, ll, la, lx, fn, fr, fo, pt, cs_cp pd s l (fun j => lx (n * 4 + j)))) : ∀ q i, i + q = l →
    wX_followLink_70 post (nI n) (nI l) (nI M) (nI F) (nI pl) pa cp (nI s) wn wd wh (q + 1) (nI i) kd pr nm ll la lx fn fr fo pt (cs_cp pd s i (fun j => lx (n * 4 + j))) := by
  intro q
  induction q with
  | zero =>
    intro i hi
    have e : i = l := by omega
    subst e
    exact br_t (nI_le (by omega) (by omega)) k
  | succ q ih =>
    intro i hi
    have e1 : nI s + nI i = nI (s + i) := nI_add _ _
    have e2 : nI n * 4 + nI i = nI (n * 4 + i) := by rw [show nI n * 4 = nI (n * 4) from pk_mul n 4, nI_add]
    have hv : vp_in (nI s + nI i) 40 := by rw [e1]; exact vp_in_nI (by omega) (by omega)
    have hw : vp_in (nI n * 4 + nI i) 128 := by rw [e2]; exact vp_in_nI (by omega) (by omega)
    have ec : upd (cs_cp pd s i (fun j => lx (n * 4 + j))) (nI s + nI i).toNatClampNeg (lx (nI n * 4 + nI i).toNatClampNeg) = cs_cp pd s (i + 1) (fun j => lx (n * 4 + j)) := by
      rw [e1, e2, nI_clamp (by omega), nI_clamp (by omega)]
      exact cs_cp_s pd s i (fun j => lx (n * 4 + j))
    exact br_f (nI_ge (by omega) (by omega)) ⟨hw, hv, nm_r ec (nm_r (nI_1 i) (ih (i + 1) (by omega)))⟩
theorem xs_load {post : SX → Prop} (hpl : pl ≤ 8) (k : post (nI M, nI F, nI pl, pa, cp, nI (40 - pl), wn, wd, wh, kd, pr, nm, ll, la, lx, fn, fr, fo, pt, cs_cp pd (40 - pl) pl pt)) : wpX_loadPendingFromPath post (nI M, nI F, nI pl, pa, cp, ps, wn, wd, wh, kd, pr, nm, ll, la, lx, fn, fr, fo, pt, pd) := by
  have z := xs_load1 hpl k pl 0 (by omega)
  rw [cs_cp_0] at z
  exact nm_r (cs_sub40 (by omega)) ⟨pl + 1, z⟩
theorem xs_fol {post : Int32 → SX → Prop} {n l pc : Nat} (hn : n < 32) (hl : l ≤ 4) (hc : pc + l ≤ 40) (el : ll n = nI l) (k : post 0 (nI M, nI F, nI pl, pa, cp, nI (40 - (pc + l)), wn, wd, wh, kd, pr, nm, ll, la, lx, fn, fr, fo, pt, cs_cp pd (40 - (pc + l)) l (fun j => lx (n * 4 + j)))) :
    wX_followLink_51 post (nI n) (nI M) (nI F) (nI pl) pa cp (nI (40 - pc)) wn wd wh kd pr nm ll la lx fn fr fo pt pd := by
  have z := xs_link1 (s := 40 - (pc + l)) hn hl (by omega) k l 0 (by omega)
  rw [cs_cp_0] at z
  have e1 : ll (nI n).toNatClampNeg = nI l := by rw [nI_clamp (by omega), el]
  have e2 : nI (40 - pc) - nI l = nI (40 - (pc + l)) := by
    rw [pk_sub (by omega)]
    exact congrArg nI (by omega)
  exact ⟨vp_in_nI (by omega) (by omega), nm_r e1 (nm_r e2 ⟨l + 1, z⟩)⟩
/-! the reference: pushing a link's components, the path -/
theorem ys_push {post : Int32 → SY → Prop} {J : Int32 → Int32 → Int32 → Int32 → Int32 → Int32 → (Nat → Int32) → (Nat → Int32) → (Nat → Int32) → (Nat → Int32) → (Nat → Int32) → (Nat → Int32) → (Nat → Int32) → (Nat → Int32) → (Nat → Int32) → (Nat → Int32) → (Nat → Int32) → Prop} {x2 x4 x5 x6 x7 x8 x10 x11 : Int32} {n l pc : Nat} (hn : n < 32) (hl : l ≤ 4) (hc : pc + l ≤ 40)
    (k : J x6 x7 x8 (nI (pc + l)) x10 (x11 + 1) kd pr nm ll la ly fn fr fo pt (cs_cp py pc l (fun j => ly (n * 4 + (l - 1 - j))))) : ∀ q t, t + q = l →
    wY_openAt_346 post J x2 x4 x5 x6 x7 x8 x10 x11 (nI n) (nI M) (nI F) cp pa (nI pl) (q + 1) (nI (pc + t)) (nI q - 1) kd pr nm ll la ly fn fr fo pt (cs_cp py pc t (fun j => ly (n * 4 + (l - 1 - j)))) := by
  intro q
  induction q with
  | zero =>
    intro t ht
    have e : t = l := by omega
    subst e
    exact br_t (by decide) (nm_e k)
  | succ q ih =>
    intro t ht
    have e0 : nI (q + 1) - 1 = nI q := nI_pred q
    rw [e0]
    have e1 : nI n * 4 + nI q = nI (n * 4 + q) := by rw [show nI n * 4 = nI (n * 4) from pk_mul n 4, nI_add]
    have hw : vp_in (nI n * 4 + nI q) 128 := by rw [e1]; exact vp_in_nI (by omega) (by omega)
    have ec : upd (cs_cp py pc t (fun j => ly (n * 4 + (l - 1 - j)))) (nI (pc + t)).toNatClampNeg (ly (nI n * 4 + nI q).toNatClampNeg) = cs_cp py pc (t + 1) (fun j => ly (n * 4 + (l - 1 - j))) := by
      rw [e1, nI_clamp (by omega), nI_clamp (by omega), ← cs_cp_s]
      exact congrArg (fun j => upd (cs_cp py pc t (fun j => ly (n * 4 + (l - 1 - j)))) (pc + t) (ly (n * 4 + j))) (by omega)
    have em : nI q + (-1) = nI q - 1 := (Int32.sub_eq_add_neg (nI q) 1).symm
    exact br_f (nI_pos (by omega)) (br_f (nI_ge (b := 64) (by omega) (by decide)) (br_f (nI_ge (b := 4) (by omega) (by decide)) ⟨hw, vp_in_nI (by omega) (by omega), nm_r ec (nm_r (nI_1 (pc + t)) (nm_r em (ih (t + 1) (by omega))))⟩))
theorem ys_load {post : Int32 → SY → Prop} {x2 x4 x5 x6 x7 x8 : Int32} (hpl : pl ≤ 8)
    (k : ∃ n160 : Nat, wY_openAt_160 post x2 x4 x5 (nI M) (nI F) cp pa (nI pl) n160 x6 x7 x8 (nI pl) (-1) 0 kd pr nm ll la ly fn fr fo pt (cs_cp py 0 pl (fun j => pt (pl - 1 - j)))) : ∀ q t, t + q = pl →
    wY_openAt_126 post x2 x4 x5 x6 x7 x8 (nI M) (nI F) cp pa (nI pl) (q + 1) (nI t) (nI q - 1) kd pr nm ll la ly fn fr fo pt (cs_cp py 0 t (fun j => pt (pl - 1 - j))) := by
  intro q
  induction q with
  | zero =>
    intro t ht
    have e : t = pl := by omega
    subst e
    exact br_t (by decide) k
  | succ q ih =>
    intro t ht
    have e0 : nI (q + 1) - 1 = nI q := nI_pred q
    rw [e0]
    have ec : upd (cs_cp py 0 t (fun j => pt (pl - 1 - j))) (nI t).toNatClampNeg (pt (nI q).toNatClampNeg) = cs_cp py 0 (t + 1) (fun j => pt (pl - 1 - j)) := by
      rw [nI_clamp (by omega), nI_clamp (by omega), ← cs_cp_s, Nat.zero_add]
      exact congrArg (fun j => upd (cs_cp py 0 t (fun j => pt (pl - 1 - j))) t (pt j)) (by omega)
    have em : nI q + (-1) = nI q - 1 := (Int32.sub_eq_add_neg (nI q) 1).symm
    exact br_f (nI_pos (by omega)) ⟨vp_in_nI (by omega) (by omega), vp_in_nI (by omega) (by omega), nm_r ec (nm_r (nI_1 t) (nm_r em (ih (t + 1) (by omega))))⟩
end
/-- how a walk ends on both sides: one failure, or one node -/
def cs_Out (M : Nat) (A : Int32 → Int32 → Int32 → Int32 → (Nat → Int32) → SX) (B : (Nat → Int32) → SY) (E : (Int32 → SY → Prop) → Int32 → (Nat → Int32) → Prop)
    (LX : (Int32 → SX → Prop) → Prop) (LY : (Int32 → SY → Prop) → Prop) : Prop :=
  (∃ (e a b c d : Int32) (f g : Nat → Int32), ¬ 0 ≤ e ∧ (∀ post : Int32 → SX → Prop, post e (A a b c d f) → LX post) ∧ (∀ post : Int32 → SY → Prop, post e (B g) → LY post)) ∨
  (∃ (r : Nat) (a b c d : Int32) (f g : Nat → Int32), r < M ∧ (∀ post : Int32 → SX → Prop, post (nI r) (A a b c d f) → LX post) ∧ (∀ post : Int32 → SY → Prop, E post (nI r) g → LY post))
theorem cs_mono {M : Nat} {A : Int32 → Int32 → Int32 → Int32 → (Nat → Int32) → SX} {B : (Nat → Int32) → SY} {E : (Int32 → SY → Prop) → Int32 → (Nat → Int32) → Prop}
    {LX LX' : (Int32 → SX → Prop) → Prop} {LY LY' : (Int32 → SY → Prop) → Prop} (o : cs_Out M A B E LX' LY') (hx : ∀ post, LX' post → LX post) (hy : ∀ post, LY' post → LY post) : cs_Out M A B E LX LY := by
  rcases o with ⟨e, a, b, c, d, f, g, he, h1, h2⟩ | ⟨r, a, b, c, d, f, g, hr, h1, h2⟩
  · exact Or.inl ⟨e, a, b, c, d, f, g, he, fun post hp => hx post (h1 post hp), fun post hp => hy post (h2 post hp)⟩
  · exact Or.inr ⟨r, a, b, c, d, f, g, hr, fun post hp => hx post (h1 post hp), fun post hp => hy post (h2 post hp)⟩
end
section
section
variable {M F pl : Nat} {pa cp ps wn wd wh : Int32} {kd pr nm ll la lx ly fn fr fo pt pd py : Nat → Int32}
theorem cs_walk0 {x2 x4 x5 : Int32} {i hops cur q : Nat} {dep : Int32} (hi : i ≤ 40) (hc : cur < M) :
    cs_Out M (fun a b c d f => (nI M, nI F, nI pl, pa, cp, a, b, c, d, kd, pr, nm, ll, la, lx, fn, fr, fo, pt, f)) (fun g => (nI M, nI F, cp, pa, nI pl, kd, pr, nm, ll, la, ly, fn, fr, fo, pt, g)) (fun post r g => wY_openAt_407 post x2 x4 x5 r (nI M) (nI F) cp pa (nI pl) kd pr nm ll la ly fn fr fo pt g)
      (fun post => wX_resolvePath_49 post (q + 1) (nI i) (nI M) (nI F) (nI pl) pa cp (nI (40 - 0)) (nI cur) dep (nI hops) kd pr nm ll la lx fn fr fo pt pd)
      (fun post => wY_openAt_160 post x2 x4 x5 (nI M) (nI F) cp pa (nI pl) (q + 1) (nI cur) dep (nI hops) (nI 0) (-1) (nI i) kd pr nm ll la ly fn fr fo pt py) := by
  have g40 : (40 : Int32) ≤ nI (40 - 0) := nI_le (a := 40) (by omega) (by omega)
  have y64 : ¬ (64 : Int32) ≤ nI i := nI_ge (b := 64) (by omega) (by decide)
  have z0 : nI 0 ≤ 0 := nI_le (b := 0) (by omega) (by omega)
  exact Or.inr ⟨cur, nI (40 - 0), nI cur, dep, nI hops, pd, py, hc, fun post hp => br_c (fun _ => hp) (fun _ => br_t g40 hp), fun post hp => br_f y64 (br_t z0 (br_f cs_m1ge hp))⟩
theorem cs_walk (h : cs_Inv M F pl kd pr ll lx ly fn) (x2 x4 x5 : Int32) : ∀ (q i pc hops cur : Nat) (dep : Int32) (pd py : Nat → Int32), i + q = 40 → i + pc ≤ 8 + 4 * hops → hops ≤ 8 → cur < M → cs_Pd pc pd py →
    cs_Out M (fun a b c d f => (nI M, nI F, nI pl, pa, cp, a, b, c, d, kd, pr, nm, ll, la, lx, fn, fr, fo, pt, f)) (fun g => (nI M, nI F, cp, pa, nI pl, kd, pr, nm, ll, la, ly, fn, fr, fo, pt, g)) (fun post r g => wY_openAt_407 post x2 x4 x5 r (nI M) (nI F) cp pa (nI pl) kd pr nm ll la ly fn fr fo pt g)
      (fun post => wX_resolvePath_49 post (q + 1) (nI i) (nI M) (nI F) (nI pl) pa cp (nI (40 - pc)) (nI cur) dep (nI hops) kd pr nm ll la lx fn fr fo pt pd)
      (fun post => wY_openAt_160 post x2 x4 x5 (nI M) (nI F) cp pa (nI pl) (q + 1) (nI cur) dep (nI hops) (nI pc) (-1) (nI i) kd pr nm ll la ly fn fr fo pt py) := by
  have hM := cs_iM h
  intro q
  induction q with
  | zero =>
    intro i pc hops cur dep pd py hi hb hh hc hP
    have e : pc = 0 := by omega
    subst e
    exact cs_walk0 (by omega) hc
  | succ q ih =>
    intro i pc hops cur dep pd py hi hb hh hc hP
    cases pc with
    | zero => exact cs_walk0 (by omega) hc
    | succ pc =>
      have i40 : ¬ (40 : Int32) ≤ nI i := nI_ge (b := 40) (by omega) (by decide)
      have p40 : ¬ (40 : Int32) ≤ nI (40 - (pc + 1)) := nI_ge (b := 40) (by omega) (by decide)
      have hv40 : vp_in (nI (40 - (pc + 1))) 40 := vp_in_nI (by omega) (by omega)
      have ep : nI (40 - (pc + 1)) + 1 = nI (40 - pc) := by rw [nI_1]; exact congrArg nI (by omega)
      have y64 : ¬ (64 : Int32) ≤ nI i := nI_ge (b := 64) (by omega) (by decide)
      have yp : ¬ nI (pc + 1) ≤ 0 := nI_nle (by omega) (by omega)
      have hv64 : vp_in (nI pc) 64 := vp_in_nI (by omega) (by omega)
      have hvc : vp_in (nI cur) 32 := vp_in_nI (by omega) (by omega)
      have hP1 := cs_Pd_pop (by omega) hP
      obtain ⟨c, ey, ec⟩ : ∃ c, py (nI pc).toNatClampNeg = c ∧ pd (nI (40 - (pc + 1))).toNatClampNeg = c := by
        refine ⟨py pc, by rw [nI_clamp (by omega)], ?_⟩
        rw [nI_clamp (by omega)]
        exact cs_Pd_top hP
      by_cases c16 : c = 16
      · subst c16
        obtain ⟨p, hp, epr⟩ := cs_ipr h cur hc
        have epr1 : pr (nI cur).toNatClampNeg = nI p := by rw [nI_clamp (by omega), epr]
        have ed : dep - 1 = dep + (-1) := Int32.sub_eq_add_neg dep 1
        have O := ih (i + 1) pc hops p (dep + (-1)) pd py (by omega) (by omega) hh hp hP1
        by_cases zc : cp = 0
        · exact cs_mono O (fun post hp => br_f i40 (br_f p40 ⟨hv40, nm_r ec (nm_r ep (br_f (by decide) (br_t rfl (br_t zc ⟨hvc, nm_r epr1 (nm_r ed (br_t rfl (nm_r (nI_1 i) hp)))⟩))))⟩)) (fun post hp => br_f y64 (br_f yp (br_f cs_m1ge (nm_r (pk_m1 _) ⟨hv64, nm_r ey (br_t rfl (br_t zc ⟨hvc, nm_r epr1 (nm_e (nm_r (nI_1 i) hp))⟩))⟩))))
        · by_cases zd : dep = 0
          · exact Or.inl ⟨-8, nI (40 - pc), nI cur, dep, nI hops, pd, py, by decide, fun post hp => br_f i40 (br_f p40 ⟨hv40, nm_r ec (nm_r ep (br_f (by decide) (br_t rfl (br_f zc (br_t zd (br_f (by decide) hp))))))⟩), fun post hp => br_f y64 (br_f yp (br_f cs_m1ge (nm_r (pk_m1 _) ⟨hv64, nm_r ey (br_t rfl (br_f zc (br_t zd hp)))⟩)))⟩
          · exact cs_mono O (fun post hp => br_f i40 (br_f p40 ⟨hv40, nm_r ec (nm_r ep (br_f (by decide) (br_t rfl (br_f zc (br_f zd ⟨hvc, nm_r epr1 (nm_r ed (br_t rfl (nm_r (nI_1 i) hp)))⟩)))))⟩)) (fun post hp => br_f y64 (br_f yp (br_f cs_m1ge (nm_r (pk_m1 _) ⟨hv64, nm_r ey (br_t rfl (br_f zc (br_f zd ⟨hvc, nm_r epr1 (nm_e (nm_r (nI_1 i) hp))⟩)))⟩))))
      by_cases c0 : c = 0
      · subst c0
        exact cs_mono (ih (i + 1) pc hops cur dep pd py (by omega) (by omega) hh hc hP1) (fun post hp => br_f i40 (br_f p40 ⟨hv40, nm_r ec (nm_r ep (br_t rfl (br_t rfl (nm_r (nI_1 i) hp))))⟩)) (fun post hp => br_f y64 (br_f yp (br_f cs_m1ge (nm_r (pk_m1 _) ⟨hv64, nm_r ey (br_f c16 (br_t rfl (nm_r (nI_1 i) hp)))⟩))))
      obtain ⟨r, hr, cX, cY⟩ := cs_child (pa := pa) (cp := cp) (ps := nI (40 - pc)) (wn := nI cur) (wd := dep) (wh := nI hops) (nm := nm) (la := la) (fr := fr) (fo := fo) (pt := pt) (pd := pd) (py := py) h (nI cur) c
      rcases hr with rfl | ⟨n, hn1, hn, rfl, zf, _⟩
      · exact Or.inl ⟨-5, nI (40 - pc), nI cur, dep, nI hops, pd, py, by decide, fun post hp => br_f i40 (br_f p40 ⟨hv40, nm_r ec (nm_r ep (br_f c0 (br_f c16 (cX _ (br_t rfl (br_f (by decide) hp))))))⟩), fun post hp => br_f y64 (br_f yp (br_f cs_m1ge (nm_r (pk_m1 _) ⟨hv64, nm_r ey (br_f c16 (br_f c0 (cY _ (br_f cs_m1ge hp))))⟩)))⟩
      have cn : (nI n).toNatClampNeg = n := nI_clamp (by omega)
      have hvn : vp_in (nI n) 32 := vp_in_nI (by omega) (by omega)
      have ge : (0 : Int32) ≤ nI n := nI_pos' (by omega)
      have nm1 : ¬ nI n = -1 := cs_nm1 (by omega)
      rcases cs_ikd h n hn with zk | zk | zk | zk
      · exact absurd zk zf
      · have k1 : kd (nI n).toNatClampNeg = 1 := by rw [cn, zk]
        have k3 : ¬ kd (nI n).toNatClampNeg = 3 := by rw [cn, zk]; decide
        exact cs_mono (ih (i + 1) pc hops n (dep + 1) pd py (by omega) (by omega) hh hn hP1) (fun post hp => br_f i40 (br_f p40 ⟨hv40, nm_r ec (nm_r ep (br_f c0 (br_f c16 (cX _ (br_f nm1 ⟨hvn, br_f k3 ⟨hvn, br_t k1 (nm_e (br_t rfl (nm_r (nI_1 i) hp)))⟩⟩)))))⟩)) (fun post hp => br_f y64 (br_f yp (br_f cs_m1ge (nm_r (pk_m1 _) ⟨hv64, nm_r ey (br_f c16 (br_f c0 (cY _ (br_t ge ⟨hvn, br_t k1 (nm_e (nm_r (nI_1 i) hp))⟩))))⟩))))
      · have k1 : ¬ kd (nI n).toNatClampNeg = 1 := by rw [cn, zk]; decide
        have k2 : kd (nI n).toNatClampNeg = 2 := by rw [cn, zk]
        have k3 : ¬ kd (nI n).toNatClampNeg = 3 := by rw [cn, zk]; decide
        cases pc with
        | zero =>
          have g40 : (40 : Int32) ≤ nI (40 - 0) := nI_le (a := 40) (by omega) (by omega)
          have z0 : nI 0 ≤ 0 := nI_le (b := 0) (by omega) (by omega)
          exact Or.inr ⟨n, nI (40 - 0), nI n, dep, nI hops, pd, py, hn, fun post hp => br_f i40 (br_f p40 ⟨hv40, nm_r ec (nm_r ep (br_f c0 (br_f c16 (cX _ (br_f nm1 ⟨hvn, br_f k3 ⟨hvn, br_f k1 (br_t g40 (br_t rfl (nm_r (nI_1 i) (br_c (fun _ => hp) (fun _ => br_t g40 hp)))))⟩⟩)))))⟩), fun post hp => br_f y64 (br_f yp (br_f cs_m1ge (nm_r (pk_m1 _) ⟨hv64, nm_r ey (br_f c16 (br_f c0 (cY _ (br_t ge ⟨hvn, br_f k1 ⟨hvn, br_t k2 (br_t z0 (nm_r (nI_1 i) (br_c (fun _ => br_t ge hp) (fun _ => br_t z0 (br_t ge hp)))))⟩⟩))))⟩)))⟩
        | succ pc =>
          have g40 : ¬ (40 : Int32) ≤ nI (40 - (pc + 1)) := nI_ge (b := 40) (by omega) (by decide)
          have z0 : ¬ nI (pc + 1) ≤ 0 := nI_nle (by omega) (by omega)
          exact Or.inl ⟨-4, nI (40 - (pc + 1)), nI cur, dep, nI hops, pd, py, by decide, fun post hp => br_f i40 (br_f p40 ⟨hv40, nm_r ec (nm_r ep (br_f c0 (br_f c16 (cX _ (br_f nm1 ⟨hvn, br_f k3 ⟨hvn, br_f k1 (br_f g40 (br_f (by decide) hp))⟩⟩)))))⟩), fun post hp => br_f y64 (br_f yp (br_f cs_m1ge (nm_r (pk_m1 _) ⟨hv64, nm_r ey (br_f c16 (br_f c0 (cY _ (br_t ge ⟨hvn, br_f k1 ⟨hvn, br_t k2 (br_f z0 hp)⟩⟩))))⟩)))⟩
      · have k1 : ¬ kd (nI n).toNatClampNeg = 1 := by rw [cn, zk]; decide
        have k2 : ¬ kd (nI n).toNatClampNeg = 2 := by rw [cn, zk]; decide
        have k3 : kd (nI n).toNatClampNeg = 3 := by rw [cn, zk]
        obtain ⟨l, hl, el, eq⟩ := cs_ill h n hn
        have el1 : ll (nI n).toNatClampNeg - 1 = nI l - 1 := by rw [cn, el]
        by_cases h8 : hops + 1 ≤ 8
        · have g8 : nI (hops + 1) ≤ 8 := nI_le (b := 8) h8 (by omega)
          have hPn := cs_Pd_push (l := l) (fx := fun j => lx (n * 4 + j)) (fy := fun j => ly (n * 4 + j)) (by omega) hP1 eq
          by_cases zl : la (nI n).toNatClampNeg = 0
          · refine cs_mono (ih (i + 1) (pc + l) (hops + 1) cur dep _ _ (by omega) (by omega) h8 hc hPn) (fun post hp => br_f i40 (br_f p40 ⟨hv40, nm_r ec (nm_r ep (br_f c0 (br_f c16 (cX _ (br_f nm1 ⟨hvn, br_t k3 (nm_r (nI_1 hops) (br_t g8 ⟨hvn, br_t zl (xs_fol (by omega) hl (by omega) el (br_t rfl (nm_r (nI_1 i) hp)))⟩))⟩)))))⟩)) (fun post hp => br_f y64 (br_f yp (br_f cs_m1ge (nm_r (pk_m1 _) ⟨hv64, nm_r ey (br_f c16 (br_f c0 (cY _ (br_t ge ⟨hvn, br_f k1 ⟨hvn, br_f k2 (nm_r (nI_1 hops) (br_t g8 ⟨hvn, br_t zl ⟨hvn, nm_r el1 ⟨l + 1, ?_⟩⟩⟩))⟩⟩))))⟩))))
            have z := ys_push (M := M) (F := F) (pl := pl) (pa := pa) (cp := cp) (post := post) (J := wY_openAt_160 post x2 x4 x5 (nI M) (nI F) cp pa (nI pl) (q + 1)) (x2 := x2) (x4 := x4) (x5 := x5) (x6 := nI cur) (x7 := dep) (x8 := nI (hops + 1)) (x10 := -1) (x11 := nI i) (n := n) (l := l) (pc := pc) (by omega) hl (by omega) (by rw [nI_1]; exact hp) l 0 (by omega)
            rw [cs_cp_0] at z
            exact z
          · by_cases zc : cp = 0
            · refine cs_mono (ih (i + 1) (pc + l) (hops + 1) 0 0 _ _ (by omega) (by omega) h8 (by omega) hPn) (fun post hp => br_f i40 (br_f p40 ⟨hv40, nm_r ec (nm_r ep (br_f c0 (br_f c16 (cX _ (br_f nm1 ⟨hvn, br_t k3 (nm_r (nI_1 hops) (br_t g8 ⟨hvn, br_f zl (br_t zc (xs_fol (by omega) hl (by omega) el (br_t rfl (nm_r (nI_1 i) hp))))⟩))⟩)))))⟩)) (fun post hp => br_f y64 (br_f yp (br_f cs_m1ge (nm_r (pk_m1 _) ⟨hv64, nm_r ey (br_f c16 (br_f c0 (cY _ (br_t ge ⟨hvn, br_f k1 ⟨hvn, br_f k2 (nm_r (nI_1 hops) (br_t g8 ⟨hvn, br_f zl (br_t zc ⟨hvn, nm_r el1 ⟨l + 1, ?_⟩⟩)⟩))⟩⟩))))⟩))))
              have z := ys_push (M := M) (F := F) (pl := pl) (pa := pa) (cp := cp) (post := post) (J := wY_openAt_160 post x2 x4 x5 (nI M) (nI F) cp pa (nI pl) (q + 1)) (x2 := x2) (x4 := x4) (x5 := x5) (x6 := nI 0) (x7 := 0) (x8 := nI (hops + 1)) (x10 := -1) (x11 := nI i) (n := n) (l := l) (pc := pc) (by omega) hl (by omega) (by rw [nI_1]; exact hp) l 0 (by omega)
              rw [cs_cp_0] at z
              exact z
            · exact Or.inl ⟨-8, nI (40 - pc), nI cur, dep, nI (hops + 1), pd, py, by decide, fun post hp => br_f i40 (br_f p40 ⟨hv40, nm_r ec (nm_r ep (br_f c0 (br_f c16 (cX _ (br_f nm1 ⟨hvn, br_t k3 (nm_r (nI_1 hops) (br_t g8 ⟨hvn, br_f zl (br_f zc (br_f (by decide) hp))⟩))⟩)))))⟩), fun post hp => br_f y64 (br_f yp (br_f cs_m1ge (nm_r (pk_m1 _) ⟨hv64, nm_r ey (br_f c16 (br_f c0 (cY _ (br_t ge ⟨hvn, br_f k1 ⟨hvn, br_f k2 (nm_r (nI_1 hops) (br_t g8 ⟨hvn, br_f zl (br_f zc hp)⟩))⟩⟩))))⟩)))⟩
        · have g8 : ¬ nI (hops + 1) ≤ 8 := nI_ge (a := 8) (by omega) (by omega)
          exact Or.inl ⟨-7, nI (40 - pc), nI cur, dep, nI (hops + 1), pd, py, by decide, fun post hp => br_f i40 (br_f p40 ⟨hv40, nm_r ec (nm_r ep (br_f c0 (br_f c16 (cX _ (br_f nm1 ⟨hvn, br_t k3 (nm_r (nI_1 hops) (br_f g8 (br_f (by decide) hp)))⟩)))))⟩), fun post hp => br_f y64 (br_f yp (br_f cs_m1ge (nm_r (pk_m1 _) ⟨hv64, nm_r ey (br_f c16 (br_f c0 (cY _ (br_t ge ⟨hvn, br_f k1 ⟨hvn, br_f k2 (nm_r (nI_1 hops) (br_f g8 hp))⟩⟩))))⟩)))⟩
end
end
section
section
variable {M F pl : Nat} {pa cp ps wn wd wh : Int32} {kd pr nm ll la lx ly fn fr fo pt pd py : Nat → Int32}
theorem cs_res0 (h : cs_Inv M F pl kd pr ll lx ly fn) (x2 x4 x5 : Int32) {c : Nat} (hc : c < M) :
    cs_Out M (fun a b c d f => (nI M, nI F, nI pl, pa, cp, a, b, c, d, kd, pr, nm, ll, la, lx, fn, fr, fo, pt, f)) (fun g => (nI M, nI F, cp, pa, nI pl, kd, pr, nm, ll, la, ly, fn, fr, fo, pt, g)) (fun post r g => wY_openAt_407 post x2 x4 x5 r (nI M) (nI F) cp pa (nI pl) kd pr nm ll la ly fn fr fo pt g)
      (fun post => wX_resolvePath_30 post (nI c) (nI M) (nI F) (nI pl) pa cp ps wn wd wh kd pr nm ll la lx fn fr fo pt pd)
      (fun post => wY_openAt_109 post x2 x4 x5 (nI c) (nI M) (nI F) cp pa (nI pl) kd pr nm ll la ly fn fr fo pt py) := by
  have hpl := cs_ipl h
  have hP := cs_Pd_push (pc := 0) (l := pl) (fx := pt) (fy := pt) (by omega) (cs_Pd_0 pd py) (fun j _ => rfl)
  rw [Nat.zero_add] at hP
  have O := cs_walk (pa := pa) (cp := cp) (nm := nm) (la := la) (fr := fr) (fo := fo) (pt := pt) h x2 x4 x5 40 0 pl 0 c 0 _ _ (by omega) (by omega) (by omega) hc hP
  refine cs_mono O (fun post hp => ?_) (fun post hp => ?_)
  · unfold wX_resolvePath_30
    exact xs_load (post := _) hpl ⟨40 + 1, hp⟩
  · have z := ys_load (M := M) (F := F) (pl := pl) (pa := pa) (cp := cp) (kd := kd) (pr := pr) (nm := nm) (ll := ll) (la := la) (ly := ly) (fn := fn) (fr := fr) (fo := fo) (pt := pt) (py := py) (post := post) (x2 := x2) (x4 := x4) (x5 := x5) (x6 := nI c) (x7 := 0) (x8 := 0) hpl ⟨40 + 1, hp⟩ pl 0 (by omega)
    rw [cs_cp_0] at z
    exact nm_e ⟨pl + 1, z⟩
theorem cs_res (h : cs_Inv M F pl kd pr ll lx ly fn) (x2 x4 x5 : Int32) {s : Nat} (hs : s < M) :
    cs_Out M (fun a b c d f => (nI M, nI F, nI pl, pa, cp, a, b, c, d, kd, pr, nm, ll, la, lx, fn, fr, fo, pt, f)) (fun g => (nI M, nI F, cp, pa, nI pl, kd, pr, nm, ll, la, ly, fn, fr, fo, pt, g)) (fun post r g => wY_openAt_407 post x2 x4 x5 r (nI M) (nI F) cp pa (nI pl) kd pr nm ll la ly fn fr fo pt g)
      (fun post => wpX_resolvePath post (nI M, nI F, nI pl, pa, cp, ps, wn, wd, wh, kd, pr, nm, ll, la, lx, fn, fr, fo, pt, pd) (nI s))
      (fun post => wY_openAt_83 post x2 (nI s) x4 x5 (nI M) (nI F) cp pa (nI pl) kd pr nm ll la ly fn fr fo pt py) := by
  have hM := cs_iM h
  by_cases zp : pa = 0
  · exact cs_mono (cs_res0 h x2 x4 x5 hs) (fun post hp => br_t zp (br_t zp hp)) (fun post hp => br_t zp hp)
  · by_cases zc : cp = 0
    · exact cs_mono (cs_res0 (c := 0) h x2 x4 x5 (by omega)) (fun post hp => br_f zp (br_t zc (br_f zp hp))) (fun post hp => br_f zp (br_t zc hp))
    · exact Or.inl ⟨-8, ps, wn, wd, wh, pd, py, by decide, fun post hp => br_f zp (br_f zc hp), fun post hp => br_f zp (br_f zc hp)⟩
theorem cs_from {k : Nat} (h : cs_Inv M F pl kd pr ll lx ly fn) (x2 x4 x5 : Int32) {s : Nat} (hs : s < M) (W : (Int32 → SY → Prop) → Prop) (hW : ∀ post : Int32 → SY → Prop, wY_openAt_83 post x2 (nI s) x4 x5 (nI M) (nI F) cp pa (nI pl) kd pr nm ll la ly fn fr fo pt py → W post) :
    wpX_openFrom (fun r u' => W (fun r' v' => r' = r ∧ i_Rel (k + 5) u' v')) (nI M, nI F, nI pl, pa, cp, ps, wn, wd, wh, kd, pr, nm, ll, la, lx, fn, fr, fo, pt, pd) (nI s) (x2 &&& x4) x5 := by
  have hM := cs_iM h
  have hF := cs_iF h
  unfold wpX_openFrom
  rcases cs_res (pa := pa) (cp := cp) (ps := ps) (wn := wn) (wd := wd) (wh := wh) (nm := nm) (la := la) (fr := fr) (fo := fo) (pt := pt) (pd := pd) (py := py) h x2 x4 x5 hs with ⟨e, a, b, c, d, f, g, he, hX, hY⟩ | ⟨r, a, b, c, d, f, g, hr, hX, hY⟩
  · refine hX _ (br_f he ?_)
    exact hW _ (hY _ ⟨rfl, cs_rel _ h⟩)
  · obtain ⟨t, ht, sX, sY⟩ := cs_slot (pa := pa) (cp := cp) (ps := a) (wn := b) (wd := c) (wh := d) (nm := nm) (la := la) (fr := fr) (fo := fo) (pt := pt) (pd := f) (py := g) h
    refine hX _ (br_t (nI_pos' (by omega)) ?_)
    rcases ht with rfl | ⟨i, hi, rfl, z⟩
    · refine xs_oslot0 (post := _) sX ?_
      refine hW _ (hY _ ?_)
      unfold wY_openAt_407
      exact sY _ (br_f cs_m1ge ⟨rfl, cs_rel _ h⟩)
    · have hw : vp_in (nI i) 16 := vp_in_nI (by omega) (by omega)
      have es : (nI i).toNatClampNeg = i := nI_clamp (by omega)
      refine xs_oslot1 (post := _) (by omega) sX ?_
      refine hW _ (hY _ ?_)
      unfold wY_openAt_407
      refine sY _ (br_t (nI_pos' (by omega)) ⟨hw, nm_r (by rw [es]) ⟨hw, nm_r (by rw [es]) ⟨hw, nm_r (by rw [es]) ?_⟩⟩⟩)
      exact ⟨rfl, cs_rel _ (cs_vfn h (Or.inr ⟨r, hr, rfl⟩))⟩
end
theorem i_vc_openAt {k : Nat} {u : SX} {v : SY} (I : i_Rel k u v) (hk : k + 5 ≤ 2562) (v1 : Int32) (v2 : Int32) : wpX_openAt (fun r u' => wpY_openAt (fun r' v' => r' = r ∧ i_Rel (k + 5) u' v') v v1 v2) u v1 v2 := by
  obtain ⟨M, F, pl, pa, cp, ps, wn, wd, wh, kd, pr, nm, ll, la, lx, ly, fn, fr, fo, pt, pd, py, rfl, rfl, h⟩ := I
  have hM := cs_iM h
  have hF := cs_iF h
  by_cases g : v1 = -100
  · by_cases zc : cp = 0
    · refine br_t g (br_t zc ?_)
      exact cs_from (s := 0) h v2 63 (-1) (by omega) (fun post => wpY_openAt post (nI M, nI F, cp, pa, nI pl, kd, pr, nm, ll, la, ly, fn, fr, fo, pt, py) v1 v2) (fun post K => br_t g (br_t zc K))
    · exact br_t g (br_f zc (br_t g (br_f zc ⟨rfl, cs_rel _ h⟩)))
  · refine br_f g ?_
    rcases cs_ofd h v1 with ⟨j, p, hj, hp, rfl, e⟩ | hc
    · have hv : vp_in (nI j) 16 := vp_in_nI (by omega) (by omega)
      have hw : vp_in (nI p) 32 := vp_in_nI (by omega) (by omega)
      have cj : (nI j).toNatClampNeg = j := nI_clamp (by omega)
      have cpp : (nI p).toNatClampNeg = p := nI_clamp (by omega)
      have e1 : fn (nI j).toNatClampNeg = nI p := by rw [cj, e]
      by_cases zk : kd p = 1
      · have zk1 : kd (nI p).toNatClampNeg = 1 := by rw [cpp, zk]
        by_cases zr : fr j &&& 4 = 0
        · have zr1 : fr (nI j).toNatClampNeg &&& 4 = 0 := by rw [cj]; exact zr
          refine xs_ref_nocap (post := _) h hj hp e zk zr (br_f (by decide) ?_)
          exact br_f g (ys_open (post := _) h hj hp e (br_f cs_10 ⟨hv, nm_r e1 ⟨hw, br_t zk1 ⟨hv, br_t zr1 ⟨rfl, cs_rel _ h⟩⟩⟩⟩))
        · have zr1 : ¬ fr (nI j).toNatClampNeg &&& 4 = 0 := by rw [cj]; exact zr
          refine xs_ref_ok (post := _) h hj hp e zk zr (br_t rfl ⟨hv, hv, ?_⟩)
          rw [e1]
          exact cs_from h v2 (fr (nI j).toNatClampNeg) (nI j) hp (fun post => wpY_openAt post (nI M, nI F, cp, pa, nI pl, kd, pr, nm, ll, la, ly, fn, fr, fo, pt, py) (nI j) v2) (fun post K => br_f g (ys_open (post := _) h hj hp e (br_f cs_10 ⟨hv, nm_r e1 ⟨hw, br_t zk1 ⟨hv, br_f zr1 ⟨hv, nm_e K⟩⟩⟩⟩)))
      · have zk1 : ¬ kd (nI p).toNatClampNeg = 1 := by rw [cpp]; exact zk
        refine xs_ref_nodir (post := _) h hj hp e zk (br_f (by decide) ?_)
        exact br_f g (ys_open (post := _) h hj hp e (br_f cs_10 ⟨hv, nm_r e1 ⟨hw, br_f zk1 ⟨rfl, cs_rel _ h⟩⟩⟩))
    · refine xs_ref_shut (post := _) h hc (br_f (by decide) ?_)
      exact br_f g (ys_shut (post := _) h hc (br_t rfl ⟨rfl, cs_rel _ h⟩))
end
section
theorem cs_cl (x : Int32) {lo hi : Nat} (h : lo ≤ hi) (hh : hi < 2 ^ 31) : ∃ m, lo ≤ m ∧ m ≤ hi ∧ ∀ P : Int32 → Prop, P (nI m) → (nI lo ≤ x → (x ≤ nI hi → P x) ∧ (¬ x ≤ nI hi → P (nI hi))) ∧ (¬ nI lo ≤ x → P (nI lo)) := by
  by_cases a : nI lo ≤ x
  · by_cases b : x ≤ nI hi
    · have x0 : ¬ x < 0 := Int32.not_lt.mpr (Int32.le_trans (nI_pos' (by omega)) a)
      obtain ⟨m, hm, rfl⟩ := nI_of x0
      exact ⟨m, (nI_leI (by omega) hm).mp a, (nI_leI hm hh).mp b, fun P p => br_t a (br_t b p)⟩
    · exact ⟨hi, h, Nat.le_refl _, fun P p => br_t a (br_f b p)⟩
  · exact ⟨lo, Nat.le_refl _, h, fun P p => br_f a p⟩
section
variable {M F pl : Nat} {pa cp ps wn wd wh : Int32} {kd pr nm ll la lx ly fn fr fo pt pd py : Nat → Int32}
theorem cs_cpi (a : Nat → Int32) (x : Int32) (i : Nat) : upd (cs_cp a 0 i (fun _ => x)) i x = cs_cp a 0 (i + 1) (fun _ => x) := by
  have e := cs_cp_s a 0 i (fun _ => x)
  rw [Nat.zero_add] at e
  exact e
theorem cs_fo0 (a : Nat → Int32) : upd (cs_cp a 0 16 (fun _ => -1)) 0 (-1) = cs_cp a 0 16 (fun _ => -1) := by
  funext j
  by_cases e : j = 0
  · subst e
    rw [pk_us]
    exact (cs_cp_in (s := 0) (j := 0) (f := fun _ => (-1 : Int32)) (by omega)).symm
  · rw [pk_un e]
theorem xs_init {post : SX → Prop} (k : post (nI M, nI F, nI pl, pa, cp, ps, wn, wd, wh, kd, pr, nm, ll, la, lx, upd (cs_cp fn 0 16 (fun _ => -1)) 0 0, upd (cs_cp fr 0 16 (fun _ => 0)) 0 63, cs_cp fo 0 16 (fun _ => -1), pt, pd)) : ∀ q i, i + q = 16 →
    wX_init_161 post (q + 1) (nI i) (nI M) (nI F) (nI pl) pa cp ps wn wd wh kd pr nm ll la lx (cs_cp fn 0 i (fun _ => -1)) (cs_cp fr 0 i (fun _ => 0)) (cs_cp fo 0 i (fun _ => -1)) pt pd := by
  intro q
  induction q with
  | zero =>
    intro i hi
    have e : i = 16 := by omega
    subst e
    rw [← cs_fo0 fo] at k
    exact br_t (nI_le (a := 16) (by omega) (by omega)) (xs_setSlot (s := 0) (post := _) (by omega) k)
  | succ q ih =>
    intro i hi
    refine br_f (nI_ge (b := 16) (by omega) (by decide)) ?_
    refine xs_setSlot (post := _) (by omega) ?_
    rw [cs_cpi, cs_cpi, cs_cpi]
    exact nm_r (nI_1 i) (ih (i + 1) (by omega))
theorem ys_init {post : SY → Prop} (k : post (nI M, nI F, cp, pa, nI pl, kd, pr, nm, ll, la, ly, upd (cs_cp fn 0 16 (fun _ => -1)) 0 0, upd (cs_cp fr 0 16 (fun _ => 0)) 0 63, cs_cp fo 0 16 (fun _ => -1), pt, py)) : ∀ q i, i + q = 16 →
    wY_init_154 post (nI M) (nI F) cp pa (nI pl) (q + 1) (nI i) kd pr nm ll la ly (cs_cp fn 0 i (fun _ => -1)) (cs_cp fr 0 i (fun _ => 0)) (cs_cp fo 0 i (fun _ => -1)) pt py := by
  intro q
  induction q with
  | zero =>
    intro i hi
    have e : i = 16 := by omega
    subst e
    exact br_t (nI_le (a := 16) (by omega) (by omega)) (nm_e (nm_e k))
  | succ q ih =>
    intro i hi
    have hv : vp_in (nI i) 16 := vp_in_nI (by omega) (by omega)
    have es : (nI i).toNatClampNeg = i := nI_clamp (by omega)
    exact br_f (nI_ge (b := 16) (by omega) (by decide)) ⟨hv, nm_r (by rw [es, cs_cpi]) ⟨hv, nm_r (by rw [es, cs_cpi]) ⟨hv, nm_r (by rw [es, cs_cpi]) (nm_r (nI_1 i) (ih (i + 1) (by omega)))⟩⟩⟩
theorem cs_inv0 (h1 : 8 ≤ M) (h2 : M ≤ 32) (h3 : 4 ≤ F) (h4 : F ≤ 16) : cs_Inv M F 0 (upd (fun _ => 0) 0 1) (fun _ => 0) (fun _ => 0) (fun _ => 0) (fun _ => 0) (upd (cs_cp (fun _ => 0) 0 16 (fun _ => -1)) 0 0) := by
  refine ⟨⟨h1, h2⟩, ⟨h3, h4⟩, by omega, pk_us, rfl, fun n hn => ?_, fun n hn => ⟨0, by omega, nI_0.symm⟩, fun n p hn1 hn hk hp hpp => ?_, fun n hn => ⟨0, by omega, nI_0.symm, fun j hj => rfl⟩, fun s hs => ?_⟩
  · by_cases e : n = 0
    · rw [e, pk_us]; exact Or.inr (Or.inl rfl)
    · rw [pk_un e]; exact Or.inl rfl
  · rw [pk_un (by omega)] at hk
    exact absurd rfl hk
  · by_cases e : s = 0
    · rw [e, pk_us]; exact Or.inr ⟨0, by omega, nI_0.symm⟩
    · rw [pk_un e]
      have z := cs_cp_in (a := fun _ => 0) (s := 0) (l := 16) (j := s) (f := fun _ => (-1 : Int32)) (by omega)
      rw [Nat.zero_add] at z
      exact Or.inl z
end
theorem i_vc0 (k0 : Int32) (k1 : Int32) : wpX_init (fun u => wpY_init (fun v => i_Rel 2 u v) k0 k1) k0 k1 := by
  obtain ⟨M, h1, h2, cM⟩ := cs_cl k0 (lo := 8) (hi := 32) (by omega) (by omega)
  obtain ⟨F, h3, h4, cF⟩ := cs_cl k1 (lo := 4) (hi := 16) (by omega) (by omega)
  have V := cs_inv0 h1 h2 h3 h4
  have hX : ∀ post : SX → Prop, post (nI M, nI F, nI 0, 0, 0, 40, 0, 0, 0, upd (fun _ => 0) 0 1, (fun _ => 0), (fun _ => 0), (fun _ => 0), (fun _ => 0), (fun _ => 0), upd (cs_cp (fun _ => 0) 0 16 (fun _ => -1)) 0 0, upd (cs_cp (fun _ => 0) 0 16 (fun _ => 0)) 0 63, cs_cp (fun _ => 0) 0 16 (fun _ => -1), (fun _ => 0), (fun _ => 0)) → wpX_init post k0 k1 := by
    intro post K
    have z := xs_init (pl := 0) K 16 0 (by omega)
    simp only [cs_cp_0] at z
    exact cM (fun r1 => wpX_clamp (fun r2 => ∀ a : Nat → Int32, a = upd (fun _ => 0) 0 1 → ∃ n161 : Nat, wX_init_161 post n161 0 r1 r2 0 0 0 40 0 0 0 a (fun _ => 0) (fun _ => 0) (fun _ => 0) (fun _ => 0) (fun _ => 0) (fun _ => 0) (fun _ => 0) (fun _ => 0) (fun _ => 0) (fun _ => 0)) k1 4 16) (cF (fun r2 => ∀ a : Nat → Int32, a = upd (fun _ => 0) 0 1 → ∃ n161 : Nat, wX_init_161 post n161 0 (nI M) r2 0 0 0 40 0 0 0 a (fun _ => 0) (fun _ => 0) (fun _ => 0) (fun _ => 0) (fun _ => 0) (fun _ => 0) (fun _ => 0) (fun _ => 0) (fun _ => 0) (fun _ => 0)) (nm_e ⟨16 + 1, z⟩))
  have hY : ∀ post : SY → Prop, post (nI M, nI F, 0, 0, nI 0, upd (fun _ => 0) 0 1, (fun _ => 0), (fun _ => 0), (fun _ => 0), (fun _ => 0), (fun _ => 0), upd (cs_cp (fun _ => 0) 0 16 (fun _ => -1)) 0 0, upd (cs_cp (fun _ => 0) 0 16 (fun _ => 0)) 0 63, cs_cp (fun _ => 0) 0 16 (fun _ => -1), (fun _ => 0), (fun _ => 0)) → wpY_init post k0 k1 := by
    intro post K
    have z := ys_init (pl := 0) K 16 0 (by omega)
    simp only [cs_cp_0] at z
    have K2 : wY_init_142 post (nI F) (nI M) 0 0 0 0 (fun _ => 0) (fun _ => 0) (fun _ => 0) (fun _ => 0) (fun _ => 0) (fun _ => 0) (fun _ => 0) (fun _ => 0) (fun _ => 0) (fun _ => 0) (fun _ => 0) := nm_e ⟨16 + 1, z⟩
    exact cM (fun w => wY_init_117 post k1 w 0 0 0 0 0 (fun _ => 0) (fun _ => 0) (fun _ => 0) (fun _ => 0) (fun _ => 0) (fun _ => 0) (fun _ => 0) (fun _ => 0) (fun _ => 0) (fun _ => 0) (fun _ => 0)) (cF (fun w => wY_init_142 post w (nI M) 0 0 0 0 (fun _ => 0) (fun _ => 0) (fun _ => 0) (fun _ => 0) (fun _ => 0) (fun _ => 0) (fun _ => 0) (fun _ => 0) (fun _ => 0) (fun _ => 0) (fun _ => 0)) K2)
  exact hX _ (hY _ (cs_rel (pl := 0) 2 V))
end
