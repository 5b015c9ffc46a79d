/-! what is read lies in its bounds -/
theorem tkD_v {T : Nat → Int32} {n L p lo hi : Nat} (hlo : lo < 100) (hhi : hi < 100) (h : ¬ (tkD T n L (nI lo) (nI hi) p).1 = -(nI 1)) : ∃ d, lo ≤ d ∧ d ≤ hi ∧ (tkD T n L (nI lo) (nI hi) p).1 = nI d := by
  obtain ⟨h1, h2, h3⟩ := tkD_ok h
  obtain ⟨v, hv, ev⟩ := nI_of (show ¬ pk T n L p - nI 48 < 0 from fun w => h2 (Int32.lt_of_lt_of_le w (show (0 : Int32) ≤ nI lo from nI_le (a := 0) (Nat.zero_le lo) (by omega))))
  rw [ev] at h2 h3
  refine ⟨v, ?_, ?_, by rw [h1]; exact ev⟩
  · refine Classical.byContradiction fun w => h2 (nI_lt (by omega) (by omega))
  · refine Classical.byContradiction fun w => h3 (nI_lt (by omega) hv)
theorem tkR_m {T : Nat → Int32} {n L m : Nat} (hm : m ≤ 3) : ∀ (f i v p : Nat), 1 ≤ i → i ≤ m → v < 10 ^ i → ∃ w, w < 10 ^ m ∧ (tkR T n L m f i (nI v) p).1 = nI w
  | 0, i, v, p, _, hi, hv => ⟨v, Nat.lt_of_lt_of_le hv (Nat.pow_le_pow_right (by decide) hi), rfl⟩
  | f + 1, i, v, p, h1, hi, hv => by
    rw [tkR]
    split
    · exact ⟨v, Nat.lt_of_lt_of_le hv (Nat.pow_le_pow_right (by decide) hi), rfl⟩
    next c =>
      split
      · exact ⟨v, Nat.lt_of_lt_of_le hv (Nat.pow_le_pow_right (by decide) hi), rfl⟩
      next c2 =>
        obtain ⟨d, -, hd, ed⟩ := tkD_v (lo := 0) (by omega) (by omega) c2
        rw [if_neg (by omega), ed, nI_mul, nI_add]
        refine tkR_m hm f (i + 1) (v * 10 + d) _ (by omega) (by omega) ?_
        rw [Nat.pow_succ]; omega
theorem tkN_m {T : Nat → Int32} {n L m p : Nat} (hm : m ≤ 3) (hm1 : 1 ≤ m) (h : ¬ (tkN T n L m p).1 = -(nI 1)) : ∃ w, w < 10 ^ m ∧ (tkN T n L m p).1 = nI w := by
  unfold tkN at h ⊢
  rw [tkR] at h ⊢
  rw [if_neg (by omega)] at h ⊢
  by_cases c2 : (tkD T n L (nI 0) (nI 9) p).1 = -(nI 1)
  · rw [if_pos c2] at h; exact absurd rfl h
  · rw [if_neg c2] at h ⊢
    obtain ⟨d, -, hd, ed⟩ := tkD_v (lo := 0) (by omega) (by omega) c2
    rw [if_pos rfl, ed]
    exact tkR_m hm m 1 d _ (Nat.le_refl _) hm1 (by omega)
