/-! numbers -/
theorem cs_nm1 {n : Nat} (h : n < 2 ^ 31) : ¬ nI n = -1 := fun e => nI_pos h (by rw [e]; decide)
theorem cs_m1lt : (-1 : Int32) < 0 := by decide
theorem cs_m1ge : ¬ (0 : Int32) ≤ -1 := by decide
theorem cs_im {a b : Nat} (h : nI a = nI b) (ha : a < 2 ^ 31) (hb : b < 2 ^ 31) : a = b := (nI_eq ha hb).mp h
/-! pigeonhole -/
theorem cs_pig : ∀ (M : Nat) (f : Nat → Nat), (∀ i, i ≤ M → f i < M) → ∃ a b, a < b ∧ b ≤ M ∧ f a = f b := by
  intro M
  induction M with
  | zero =>
    intro f h
    exact absurd (h 0 (Nat.le_refl 0)) (Nat.not_lt_zero _)
  | succ M ih =>
    intro f h
    by_cases hv : ∃ a, a ≤ M ∧ f a = f (M + 1)
    · obtain ⟨a, ha, e⟩ := hv
      exact ⟨a, M + 1, by omega, by omega, e⟩
    · have hn : ∀ a, a ≤ M → f a ≠ f (M + 1) := fun a ha e => hv ⟨a, ha, e⟩
      have hl := h (M + 1) (Nat.le_refl _)
      obtain ⟨a, b, hab, hb, e⟩ := ih (fun i => if f i = M then f (M + 1) else f i) (by
        intro i hi
        have h1 := h i (by omega)
        have h2 := hn i hi
        dsimp only
        by_cases hc : f i = M
        · rw [if_pos hc]; omega
        · rw [if_neg hc]; omega)
      dsimp only at e
      have na := hn a (by omega)
      have nb := hn b (by omega)
      by_cases ca : f a = M
      · by_cases cb : f b = M
        · exact ⟨a, b, hab, by omega, by omega⟩
        · rw [if_pos ca, if_neg cb] at e
          exact absurd e.symm nb
      · by_cases cb : f b = M
        · rw [if_neg ca, if_pos cb] at e
          exact absurd e na
        · rw [if_neg ca, if_neg cb] at e
          exact ⟨a, b, hab, by omega, e⟩
/-- the chain of parents from t on -/
def cs_ch (pr : Nat → Int32) (t : Nat) : Nat → Nat
  | 0 => t
  | i + 1 => (pr (cs_ch pr t i)).toNatClampNeg
theorem cs_ch_add (pr : Nat → Int32) (t a : Nat) : ∀ c, cs_ch pr t (a + c) = cs_ch pr (cs_ch pr t a) c := by
  intro c
  induction c with
  | zero => rfl
  | succ c ih =>
    show (pr (cs_ch pr t (a + c))).toNatClampNeg = (pr (cs_ch pr (cs_ch pr t a) c)).toNatClampNeg
    rw [ih]
theorem cs_ch_lt {pr : Nat → Int32} {t M : Nat} (hM : M ≤ 32) (ht : t < M) (hp : ∀ n, n < M → ∃ p, p < M ∧ pr n = nI p) : ∀ i, cs_ch pr t i < M := by
  intro i
  induction i with
  | zero => exact ht
  | succ i ih =>
    obtain ⟨p, hp1, e⟩ := hp _ ih
    show (pr (cs_ch pr t i)).toNatClampNeg < M
    rw [e, nI_clamp (by omega)]
    exact hp1
theorem cs_ch_s {pr : Nat → Int32} {t M : Nat} (hM : M ≤ 32) (ht : t < M) (hp : ∀ n, n < M → ∃ p, p < M ∧ pr n = nI p) (i : Nat) : pr (cs_ch pr t i) = nI (cs_ch pr t (i + 1)) := by
  obtain ⟨p, hp1, e⟩ := hp _ (cs_ch_lt hM ht hp i)
  show pr (cs_ch pr t i) = nI (pr (cs_ch pr t i)).toNatClampNeg
  rw [e, nI_clamp (by omega)]
theorem cs_ch_0 {pr : Nat → Int32} {t i : Nat} (h0 : pr 0 = 0) (hi : cs_ch pr t i = 0) : ∀ c, cs_ch pr t (i + c) = 0 := by
  intro c
  induction c with
  | zero => exact hi
  | succ c ih =>
    show (pr (cs_ch pr t (i + c))).toNatClampNeg = 0
    rw [ih, h0]
    rfl
theorem cs_ch_hit {pr : Nat → Int32} {t M m : Nat} (hM : M ≤ 32) (ht : t < M) (hp : ∀ n, n < M → ∃ p, p < M ∧ pr n = nI p) (h : ∃ s, cs_ch pr t s = m) : ∃ s, s < M ∧ cs_ch pr t s = m := by
  obtain ⟨s, hs, hl⟩ := pk_least (fun s => cs_ch pr t s = m) h
  dsimp only at hs hl
  by_cases hc : s < M
  · exact ⟨s, hc, hs⟩
  · obtain ⟨a, b, hab, hb, e⟩ := cs_pig M (cs_ch pr t) (fun i _ => cs_ch_lt hM ht hp i)
    refine absurd ?_ (hl (a + (s - b)) (by omega))
    rw [cs_ch_add, e, ← cs_ch_add, show b + (s - b) = s by omega]
    exact hs
