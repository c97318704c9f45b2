/-! numbers -/
theorem cs_nm1 {n : Nat} (h : n < 2 ^ 31) : ¬ nI n = -1 := fun e => nI_pos h (by rw [e]; decide)
theorem cs_m1lt : (-1 : Int32) < 0 := by decide
theorem cs_m1ge : ¬ (0 : Int32) ≤ -1 := by decide
theorem cs_im {a b : Nat} (h : nI a = nI b) (ha : a < 2 ^ 31) (hb : b < 2 ^ 31) : a = b := (nI_eq ha hb).mp h
/-! pigeonhole -/
theorem cs_pig : ∀ (M : Nat) (f : Nat → Nat), (∀ i, i ≤ M → f i < M) → ∃ a b, a < b ∧ b ≤ M ∧ f a = f b := by
  intro M
  induction M with
  | zero =>
    intro f h
    exact absurd (h 0 (Nat.le_refl 0)) (Nat.not_lt_zero _)
  | succ M ih =>
    intro f h
    by_cases hv : ∃ a, a ≤ M ∧ f a = f (M + 1)
    · obtain ⟨a, ha, e⟩ := hv
      exact ⟨a, M + 1, by omega, by omega, e⟩
    · have hn : ∀ a, a ≤ M → f a ≠ f (M + 1) := fun a ha e => hv ⟨a, ha, e⟩
      have hl := h (M + 1) (Nat.le_refl _)
      obtain ⟨a, b, hab, hb, e⟩ := ih (fun i => if f i = M then f (M + 1) else f i) (by
        intro i hi
        have h1 := h i (by omega)
        have h2 := hn i hi
        by_cases hc : f i = M
        · rw [if_pos hc]; omega
        · rw [if_neg hc]; omega)
      have na := hn a (by omega)
      have nb := hn b (by omega)
      by_cases ca : f a = M
      · by_cases cb : f b = M
        · exact ⟨a, b, hab, by omega, by omega⟩
        · rw [if_pos ca, if_neg cb] at e
          exact absurd e.symm nb
      · by_cases cb : f b = M
        · rw [if_neg ca, if_pos cb] at e
          exact absurd e na
        · rw [if_neg ca, if_neg cb] at e
          exact ⟨a, b, hab, by omega, e⟩
/-- the chain of parents from t on -/
def cs_ch (pr : Nat → Int32) (t : Nat) : Nat → Nat
  | 0 => t
  | i + 1 => (pr (cs_ch pr t i)).toNatClampNeg
theorem cs_ch_add (pr : Nat → Int32) (t a : Nat) : ∀ c, cs_ch pr t (a + c) = cs_ch pr (cs_ch pr t a) c := by
  intro c
  induction c with
  | zero => rfl
  | succ c ih =>
    show (pr (cs_ch pr t (a + c))).toNatClampNeg = (pr (cs_ch pr (cs_ch pr t a) c)).toNatClampNeg
    rw [ih]
theorem cs_ch_lt {pr : Nat → Int32} {t M : Nat} (hM : M ≤ 32) (ht : t < M) (hp : ∀ n, n < M → ∃ p, p < M ∧ pr n = nI p) : ∀ i, cs_ch pr t i < M := by
  intro i
  induction i with
  | zero => exact ht
  | succ i ih =>
    obtain ⟨p, hp1, e⟩ := hp _ ih
    show (pr (cs_ch pr t i)).toNatClampNeg < M
    rw [e, nI_clamp (by omega)]
    exact hp1
theorem cs_ch_s {pr : Nat → Int32} {t M : Nat} (hM : M ≤ 32) (ht : t < M) (hp : ∀ n, n < M → ∃ p, p < M ∧ pr n = nI p) (i : Nat) : pr (cs_ch pr t i) = nI (cs_ch pr t (i + 1)) := by
  obtain ⟨p, hp1, e⟩ := hp _ (cs_ch_lt hM ht hp i)
  show pr (cs_ch pr t i) = nI (pr (cs_ch pr t i)).toNatClampNeg
  rw [e, nI_clamp (by omega)]
theorem cs_ch_0 {pr : Nat → Int32} {t i : Nat} (h0 : pr 0 = 0) (hi : cs_ch pr t i = 0) : ∀ c, cs_ch pr t (i + c) = 0 := by
  intro c
  induction c with
  | zero => exact hi
  | succ c ih =>
    show (pr (cs_ch pr t (i + c))).toNatClampNeg = 0
    rw [ih, h0]
    rfl
theorem cs_ch_hit {pr : Nat → Int32} {t M m : Nat} (hM : M ≤ 32) (ht : t < M) (hp : ∀ n, n < M → ∃ p, p < M ∧ pr n = nI p) (h : ∃ s, cs_ch pr t s = m) : ∃ s, s < M ∧ cs_ch pr t s = m := by
  obtain ⟨s, hs, hl⟩ := pk_least (fun s => cs_ch pr t s = m) h
  by_cases hc : s < M
  · exact ⟨s, hc, hs⟩
  · obtain ⟨a, b, hab, hb, e⟩ := cs_pig M (cs_ch pr t) (fun i _ => cs_ch_lt hM ht hp i)
    refine absurd ?_ (hl (a + (s - b)) (by omega))
    rw [cs_ch_add, e, ← cs_ch_add, show b + (s - b) = s by omega]
    exact hs
/-! an array with a stretch written over -/
def cs_cp (a : Nat → Int32) (s l : Nat) (f : Nat → Int32) : Nat → Int32 := fun j => if s ≤ j ∧ j < s + l then f (j - s) else a j
theorem cs_cp_0 (a : Nat → Int32) (s : Nat) (f : Nat → Int32) : cs_cp a s 0 f = a := funext fun j => if_neg (by omega)
theorem cs_cp_in {a : Nat → Int32} {s l : Nat} {f : Nat → Int32} {j : Nat} (h : j < l) : cs_cp a s l f (s + j) = f j := by
  show (if s ≤ s + j ∧ s + j < s + l then f (s + j - s) else a (s + j)) = f j
  rw [if_pos (by omega), Nat.add_sub_cancel_left]
theorem cs_cp_out {a : Nat → Int32} {s l : Nat} {f : Nat → Int32} {j : Nat} (h : j < s ∨ s + l ≤ j) : cs_cp a s l f j = a j := if_neg (by omega)
theorem cs_cp_s (a : Nat → Int32) (s l : Nat) (f : Nat → Int32) : upd (cs_cp a s l f) (s + l) (f l) = cs_cp a s (l + 1) f := by
  funext j
  by_cases e : j = s + l
  · rw [e, pk_us, cs_cp_in (by omega)]
  · rw [pk_un e]
    show (if s ≤ j ∧ j < s + l then f (j - s) else a j) = (if s ≤ j ∧ j < s + (l + 1) then f (j - s) else a j)
    by_cases c : s ≤ j ∧ j < s + l
    · rw [if_pos c, if_pos (by omega)]
    · rw [if_neg c, if_neg (by omega)]
/-! pending components: the class keeps them at the end of 40, the reference on a stack -/
def cs_Pd (pc : Nat) (pd py : Nat → Int32) : Prop := ∀ i, i < pc → pd (40 - pc + i) = py (pc - 1 - i)
theorem cs_Pd_0 (pd py : Nat → Int32) : cs_Pd 0 pd py := fun _ h => absurd h (Nat.not_lt_zero _)
theorem cs_Pd_top {pc : Nat} {pd py : Nat → Int32} (h : cs_Pd (pc + 1) pd py) : pd (40 - (pc + 1)) = py pc := h 0 (by omega)
theorem cs_Pd_pop {pc : Nat} {pd py : Nat → Int32} (hc : pc + 1 ≤ 40) (h : cs_Pd (pc + 1) pd py) : cs_Pd pc pd py := by
  intro i hi
  have e := h (i + 1) (by omega)
  rw [show 40 - (pc + 1) + (i + 1) = 40 - pc + i by omega, show pc + 1 - 1 - (i + 1) = pc - 1 - i by omega] at e
  exact e
theorem cs_Pd_push {pc l : Nat} {pd py fx fy : Nat → Int32} (hc : pc + l ≤ 40) (h : cs_Pd pc pd py) (he : ∀ j, j < l → fx j = fy j) :
    cs_Pd (pc + l) (cs_cp pd (40 - (pc + l)) l fx) (cs_cp py pc l (fun j => fy (l - 1 - j))) := by
  intro i hi
  by_cases c : i < l
  · rw [cs_cp_in c, show pc + l - 1 - i = pc + (l - 1 - i) by omega, cs_cp_in (by omega), he i c]
    exact congrArg fy (by omega)
  · rw [cs_cp_out (by omega), cs_cp_out (by omega)]
    have e := h (i - l) (by omega)
    rw [show 40 - pc + (i - l) = 40 - (pc + l) + i by omega, show pc - 1 - (i - l) = pc + l - 1 - i by omega] at e
    exact e
