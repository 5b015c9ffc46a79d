/-! class Row -/
theorem c_rclear {k : Nat} {h : Hp} : Ct alC mX5_clear k [vR 5 0] h (Rv (sX h 5 0 1 (nI 0))) := ct_vc tX5_clear [] 10 okC kX5_clear rfl rfl
/-- one number more -/
def rAdd (h : Hp) (m : Nat) (v : Int64) : Hp := sX (sL h 25 m v) 5 0 1 (nI (m + 1))
theorem c_radd {k m : Nat} {h : Hp} {v : Int64} (hm : h.1 5 0 1 = nI m) (h8 : m < 8) : Ct alC mX5_add k [vR 5 0, vL v] h (Rv (rAdd h m v)) := by
  refine ct_vc tX5_add [] 40 okC kX5_add rfl ?_
  refine ⟨fun c => ?_, fun c => ⟨?_, ?_⟩⟩
  · exfalso
    have c' : nI 8 ≤ h.1 5 0 1 := c
    rw [hm, nI_leI (by omega) (by omega)] at c'
    omega
  · rw [hm]; exact ix1 8 h8
  · rw [hm, nI_clamp (by omega)]
    unfold rAdd
    show sX (sL h 25 m v) 5 0 1 (h.1 5 0 1 + nI 1) = _
    rw [hm, nI_add]
theorem lg_0 {x y : Int64} : lg_cmp x y = 0 ↔ x = y := by
  unfold lg_cmp
  constructor
  · intro h
    split at h
    · cases h
    · split at h
      next e => exact e
      next => cases h
  · rintro rfl
    rw [if_neg (by simp), if_pos rfl]
def cdF : Nat → Int64 → Int64 → Int64
  | 0, a, _ => a
  | f + 1, a, b => if b = 0 then a else cdF f b (a - a / b * b)
def cmD (a b : Int64) : Int64 := if cdF 100 a b < lN 1 then lN 1 else cdF 100 a b
theorem c_commonDivisor {k : Nat} {h : Hp} {a b : Int64} : Ct alC mX5_commonDivisor (k + 1) [vL a, vL b] h (fun v h' => v = vL (cmD a b) ∧ h' = h) := by
  have Lp : ∀ (f i : Nat) (x y : Int64), i + f = 100 → cdF f x y = cdF 100 a b → WP alC mX5_commonDivisor (k + 1) (fun v h' => v = vL (cmD a b) ∧ h' = h) 9 [none, none, none, none, some (vL x), none, some (vL y), none, some (vI (nI i)), none, none] [] h := by
    intro f
    induction f with
    | zero =>
      intro i x y hi e
      refine wp_at tX5_commonDivisor [(9, [])] 40 9 okC kX5_commonDivisor ⟨fun c => ?_, fun c => absurd (nI_le (by omega) (by omega)) c⟩
      rw [show x = cdF 100 a b from e]
      exact ⟨rfl, rfl⟩
    | succ f ih =>
      intro i x y hi e
      refine wp_at tX5_commonDivisor [(9, [false, false, false, false, true, false, true, false, true, false, false])] 40 9 okC kX5_commonDivisor ⟨fun c => absurd c (nI_ge (by omega) (by omega)), fun c => ⟨fun c2 => ?_, fun c2 => ⟨?_, ?_⟩⟩⟩
      · rw [cdF, if_pos (show y = 0 from lg_0.mp c2)] at e
        rw [e]
        exact ⟨rfl, rfl⟩
      · exact fun z => c2 (lg_0.mpr z)
      · have hy : ¬ y = 0 := fun z => c2 (lg_0.mpr z)
        rw [cdF, if_neg hy] at e
        have := ih (i + 1) y (x - x / y * y) (by omega) e
        rw [← nI_add i 1] at this
        exact this
  refine ct_vc tX5_commonDivisor [(9, [false, false, false, false, true, false, true, false, true, false, false])] 20 okC kX5_commonDivisor rfl ?_
  exact Lp 100 0 a b rfl rfl
theorem rAdd_size {h : Hp} {m : Nat} {v : Int64} : (rAdd h m v).1 5 0 1 = nI (m + 1) := by unfold rAdd; rw [rdX]; simp
theorem c_addFraction {k m : Nat} {h : Hp} {a b : Int64} (hm : h.1 5 0 1 = nI m) (h8 : m + 1 < 8) (hd : ¬ cmD a b = 0) : Ct alC mX5_addFraction (k + 2) [vR 5 0, vL a, vL b] h (Rv (rAdd (rAdd h m (a / cmD a b)) (m + 1) (b / cmD a b))) := by
  refine ct_vc tX5_addFraction [] 40 okC kX5_addFraction rfl ?_
  refine ⟨_, c_commonDivisor, ?_⟩
  rintro v h' ⟨rfl, rfl⟩
  refine ⟨hd, _, c_radd hm (by omega), ?_⟩
  rintro v h' rfl
  refine ⟨hd, _, c_radd rAdd_size h8, ?_⟩
  rintro v h' rfl
  exact rfl
