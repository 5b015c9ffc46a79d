/-! class Hearsay -/
def hcB (kd v : Int32) : Bool := if kd = nI 0 then decide (0 ≤ v) && decide (v ≤ nI 3) else if kd = nI 1 then decide (0 ≤ v) && decide (v ≤ nI 99) else if kd = nI 2 then decide (0 ≤ v) && decide (v < nI 4) else if kd = nI 3 then decide (nI 1 ≤ v) && decide (v ≤ nI 9) else if kd = nI 4 then decide (v = 0) || decide (v = nI 1) else false
theorem c_canBe {k : Nat} {h : Hp} {kd v : Int32} : Ct alC mX2_canBe k [vI kd, vI v] h (Rd h (b2 (hcB kd v))) := by
  refine ct_vc tX2_canBe [] 30 okC kX2_canBe rfl ?_
  unfold hcB
  refine ⟨fun e => ?_, fun e0 => ⟨fun e => ?_, fun e1 => ⟨fun e => ?_, fun e2 => ⟨fun e => ?_, fun e3 => ⟨fun e => ?_, fun e4 => ?_⟩⟩⟩⟩⟩
  · rw [if_pos e]
    exact ⟨fun c => ⟨Or.inl rfl, bF (by rw [dF (fun z => (i_ltn z) c)]; rfl), rfl⟩, fun c => ⟨fun c2 => ⟨Or.inl rfl, bF (by rw [dF (i_len c2), Bool.and_false]), rfl⟩, fun c2 => ⟨Or.inr rfl, bT (by rw [dT (i_nlt c), dT (i_nlt c2)]; rfl), rfl⟩⟩⟩
  · rw [if_neg e0, if_pos e]
    exact ⟨fun c => ⟨Or.inl rfl, bF (by rw [dF (fun z => (i_ltn z) c)]; rfl), rfl⟩, fun c => ⟨fun c2 => ⟨Or.inl rfl, bF (by rw [dF (i_len c2), Bool.and_false]), rfl⟩, fun c2 => ⟨Or.inr rfl, bT (by rw [dT (i_nlt c), dT (i_nlt c2)]; rfl), rfl⟩⟩⟩
  · rw [if_neg e0, if_neg e1, if_pos e]
    exact ⟨fun c => ⟨Or.inl rfl, bF (by rw [dF (fun z => (i_ltn z) c)]; rfl), rfl⟩, fun c => ⟨fun c2 => ⟨Or.inl rfl, bF (by rw [dF (i_ltn c2), Bool.and_false]), rfl⟩, fun c2 => ⟨Or.inr rfl, bT (by rw [dT (i_nlt c), dT (i_nle c2)]; rfl), rfl⟩⟩⟩
  · rw [if_neg e0, if_neg e1, if_neg e2, if_pos e]
    exact ⟨fun c => ⟨Or.inl rfl, bF (by rw [dF (i_len c)]; rfl), rfl⟩, fun c => ⟨fun c2 => ⟨Or.inl rfl, bF (by rw [dF (i_len c2), Bool.and_false]), rfl⟩, fun c2 => ⟨Or.inr rfl, bT (by rw [dT (i_nlt c), dT (i_nlt c2)]; rfl), rfl⟩⟩⟩
  · rw [if_neg e0, if_neg e1, if_neg e2, if_neg e3, if_pos e]
    exact ⟨fun c => ⟨Or.inr rfl, bT (by rw [dT c]; rfl), rfl⟩, fun c => ⟨fun c2 => ⟨Or.inl rfl, bF (by rw [dF c, dF c2]; rfl), rfl⟩, fun c2 => ⟨Or.inr rfl, bT (by rw [dT (nn c2), Bool.or_true]), rfl⟩⟩⟩
  · rw [if_neg e0, if_neg e1, if_neg e2, if_neg e3, if_neg e4]
    exact ⟨Or.inl rfl, rfl, rfl⟩
/-- one more is heard -/
def hAdd (h : Hp) (m : Nat) (kd v : Int32) : Hp := sX (sX (sX h 20 0 m kd) 21 0 m v) 2 0 2 (nI (m + 1))
theorem c_hadd {k m : Nat} {h : Hp} {kd v : Int32} (hm : h.1 2 0 2 = nI m) (hm2 : m ≤ 12) : Ct alC mX2_add (k + 1) [vR 2 0, vI kd, vI v] h (Rt (b2 (decide (m < 12) && hcB kd v)) (if (decide (m < 12) && hcB kd v) = true then hAdd h m kd v else h)) := by
  refine ct_vc tX2_add [] 40 okC kX2_add rfl ?_
  refine ⟨fun c => ⟨Or.inl rfl, ?_⟩, fun c => ⟨_, c_canBe, ?_⟩⟩
  · rw [hm, nI_leI (by omega) (by omega)] at c
    rw [dF (by omega)]
    exact ⟨rfl, rfl⟩
  · rw [hm, nI_leI (by omega) (by omega)] at c
    rintro v h' ⟨rfl, rfl⟩
    refine ⟨fun c2 => ⟨?_, ?_, Or.inr rfl, ?_⟩, fun c2 => ⟨Or.inl rfl, ?_⟩⟩
    · rw [hm]; exact ix1 12 (by omega)
    · rw [rdX]; simp only [hm]; exact ix1 12 (by omega)
    · have e3 : (sX h' 20 0 m kd).1 2 0 2 = nI m := by rw [rdX]; simp [hm]
      have e4 : (sX (sX h' 20 0 m kd) 21 0 m v).1 2 0 2 = nI m := by rw [rdX]; simp [e3]
      rw [dT (show m < 12 by omega), b2_n0.mp c2, hm, nI_clamp (by omega), e3, nI_clamp (by omega), e4, nI_add]
      exact ⟨rfl, rfl⟩
    · rw [b2_0.mp (nn c2), Bool.and_false]
      exact ⟨rfl, rfl⟩
/-- what was heard fits -/
def foB (kd v : Int32) (R : Nat → Nat → Int32) (s : Nat → Int32) (j : Nat) : Bool := if kd = nI 0 then decide (R 0 j = v) else if kd = nI 1 then decide (v ≤ s j) else if kd = nI 2 then decide (R 3 j = v) else if kd = nI 3 then decide (R 2 j ≤ v) else decide (decide (s (32 + j) = nI 1) = decide (v = nI 1))
abbrev ro (h : Hp) (q : Nat) : Nat → Nat → Int32 := fun p => h.1 38 (5 * q + p)
theorem c_fitsOne {k q i j t : Nat} {h : Hp} (hj : j < 8) (ht : t < 12) : Ct alC mX2_fitsOne (k + 2) [vR 2 0, vR 3 q, vR 8 i, vI (nI j), vI (nI t)] h (Rd h (b2 (foB (h.1 20 0 t) (h.1 21 0 t) (ro h q) (h.1 33 i) j))) := by
  refine ct_vc tX2_fitsOne [] 60 okC kX2_fitsOne rfl ?_
  refine ⟨ix1 12 ht, ix1 12 ht, ?_⟩
  rw [nI_clamp (by omega)]
  unfold foB
  refine ⟨fun e => ⟨_, c_of (by omega) hj, ?_⟩, fun e0 => ⟨fun e => ⟨_, c_favour hj, ?_⟩, fun e1 => ⟨fun e => ⟨_, c_of (by omega) hj, ?_⟩, fun e2 => ⟨fun e => ⟨_, c_of (by omega) hj, ?_⟩, fun e3 => ⟨_, c_isDead hj, ?_⟩⟩⟩⟩⟩
  · rintro v h' ⟨rfl, rfl⟩
    rw [if_pos e]
    exact ⟨fun c => ⟨Or.inl rfl, bF (dF c), rfl⟩, fun c => ⟨Or.inr rfl, bT (dT (nn c)), rfl⟩⟩
  · rintro v h' ⟨rfl, rfl⟩
    rw [if_neg e0, if_pos e]
    exact ⟨fun c => ⟨Or.inl rfl, bF (dF (i_len c)), rfl⟩, fun c => ⟨Or.inr rfl, bT (dT (i_nlt c)), rfl⟩⟩
  · rintro v h' ⟨rfl, rfl⟩
    rw [if_neg e0, if_neg e1, if_pos e]
    exact ⟨fun c => ⟨Or.inl rfl, bF (dF c), rfl⟩, fun c => ⟨Or.inr rfl, bT (dT (nn c)), rfl⟩⟩
  · rintro v h' ⟨rfl, rfl⟩
    rw [if_neg e0, if_neg e1, if_neg e2, if_pos e]
    exact ⟨fun c => ⟨Or.inl rfl, bF (dF (i_len c)), rfl⟩, fun c => ⟨Or.inr rfl, bT (dT (i_nlt c)), rfl⟩⟩
  · rintro v h' ⟨rfl, rfl⟩
    rw [if_neg e0, if_neg e1, if_neg e2, if_neg e3]
    refine ⟨fun c => ⟨fun c2 => ⟨Or.inl rfl, bF (dF ?_), rfl⟩, fun c2 => ⟨Or.inr rfl, bT (dT ?_), rfl⟩⟩, fun c => ⟨fun c2 => ⟨Or.inl rfl, bF (dF ?_), rfl⟩, fun c2 => ⟨Or.inr rfl, bT (dT ?_), rfl⟩⟩⟩
    · rw [dF c]; intro z; rw [z] at c2; exact c2 rfl
    · rw [dF c]; exact b2_0.mp (nn c2)
    · rw [dT (nn c)]; intro z; rw [z] at c2; exact c2 rfl
    · rw [dT (nn c)]
      have c3 := nn c2
      cases hb : decide (h'.1 33 i (32 + j) = nI 1) with
      | true => rfl
      | false => rw [hb] at c3; exact absurd c3 (by decide)
def alF (g : Nat → Bool) : Nat → Bool
  | 0 => true
  | n + 1 => alF g n && g n
theorem alF_no {g : Nat → Bool} {i : Nat} (hg : g i = false) : ∀ {n : Nat}, i < n → alF g n = false
  | 0, h => by omega
  | n + 1, h => by
    rw [alF]
    by_cases c : i = n
    · rw [← c, hg, Bool.and_false]
    · rw [alF_no hg (show i < n by omega)]; rfl
theorem alF_iff {g : Nat → Bool} : ∀ {n : Nat}, alF g n = true ↔ ∀ j, j < n → g j = true
  | 0 => ⟨fun _ j hj => by omega, fun _ => rfl⟩
  | n + 1 => by
    rw [alF, Bool.and_eq_true, alF_iff]
    constructor
    · rintro ⟨h1, h2⟩ j hj
      by_cases c : j = n
      · rw [c]; exact h2
      · exact h1 j (by omega)
    · intro h1
      exact ⟨fun j hj => h1 j (by omega), h1 n (by omega)⟩
def faB (K V : Nat → Int32) (R : Nat → Nat → Int32) (s : Nat → Int32) (m j : Nat) : Bool := alF (fun t => foB (K t) (V t) R s j) m
theorem c_fitsAll {k q i j m : Nat} {h : Hp} (hm : h.1 2 0 2 = nI m) (hm2 : m ≤ 12) (hj : j < 8) : Ct alC mX2_fitsAll (k + 3) [vR 2 0, vR 3 q, vR 8 i, vI (nI j)] h (Rd h (b2 (faB (h.1 20 0) (h.1 21 0) (ro h q) (h.1 33 i) m j))) := by
  have L : ∀ t, t ≤ m → alF (fun t => foB (h.1 20 0 t) (h.1 21 0 t) (ro h q) (h.1 33 i) j) t = true → WP alC mX2_fitsAll (k + 3) (Rd h (b2 (faB (h.1 20 0) (h.1 21 0) (ro h q) (h.1 33 i) m j))) 3 [some (vR 2 0), some (vR 3 q), some (vR 8 i), some (vI (nI j)), some (vI (nI t))] [] h := by
    refine loop_up m ?_ (fun t ht ih => ?_)
    · intro ha
      refine wp_at tX2_fitsAll [] 20 3 okC kX2_fitsAll ⟨fun _ => ⟨Or.inr rfl, bT ha, rfl⟩, fun c => absurd (by rw [hm]; exact nI_le (Nat.le_refl _) (by omega)) c⟩
    · intro ha
      refine wp_at tX2_fitsAll [(3, [true, true, true, true, true])] 40 3 okC kX2_fitsAll ⟨fun c => absurd c (by rw [hm]; exact nI_ge ht (by omega)), fun _ => ⟨_, c_fitsOne hj (by omega), ?_⟩⟩
      rintro v h' ⟨rfl, rfl⟩
      refine ⟨fun c => ?_, fun c => ⟨Or.inl rfl, bF (alF_no (g := fun t => foB (h'.1 20 0 t) (h'.1 21 0 t) (ro h' q) (h'.1 33 i) j) (i := t) (b2_0.mp (nn c)) ht), rfl⟩⟩
      have := ih (by rw [alF, ha, b2_n0.mp c]; rfl)
      rw [← nI_add t 1] at this
      exact this
  exact ct_vc tX2_fitsAll [(3, [true, true, true, true, true])] 20 okC kX2_fitsAll rfl (L 0 (by omega) rfl)
def ftF (K V : Nat → Int32) (R : Nat → Nat → Int32) (s : Nat → Int32) (m n : Nat) : Int32 := orF (fun j => if faB K V R s m j = true then bit j else nI 0) n
theorem ftF_s (K V : Nat → Int32) (R : Nat → Nat → Int32) (s : Nat → Int32) (m t : Nat) : ftF K V R s m (t + 1) = ftF K V R s m t ||| (if faB K V R s m t = true then bit t else nI 0) := rfl
theorem c_fitting {k q i m n : Nat} {h : Hp} (hm : h.1 2 0 2 = nI m) (hm2 : m ≤ 12) (hc : h.1 3 q 3 = nI n) (hn : n ≤ 8) : Ct alC mX2_fitting (k + 4) [vR 2 0, vR 3 q, vR 8 i] h (Rd h (ftF (h.1 20 0) (h.1 21 0) (ro h q) (h.1 33 i) m n)) := by
  have L : ∀ t, t ≤ n → WP alC mX2_fitting (k + 4) (Rd h (ftF (h.1 20 0) (h.1 21 0) (ro h q) (h.1 33 i) m n)) 5 [some (vR 2 0), some (vR 3 q), some (vR 8 i), some (vI (ftF (h.1 20 0) (h.1 21 0) (ro h q) (h.1 33 i) m t)), some (vI (nI t))] [] h := by
    refine loop_up n ?_ (fun t ht ih => ?_)
    · exact wp_at tX2_fitting [] 20 5 okC kX2_fitting ⟨fun _ => ⟨rfl, rfl⟩, fun c => absurd (by rw [hc]; exact nI_le (Nat.le_refl _) (by omega)) c⟩
    · refine wp_at tX2_fitting [(5, [true, true, true, true, true])] 40 5 okC kX2_fitting ⟨fun c => absurd c (by rw [hc]; exact nI_ge ht (by omega)), fun _ => ⟨_, c_fitsAll hm hm2 (by omega), ?_⟩⟩
      rintro v h' ⟨rfl, rfl⟩
      rw [ftF_s, ← nI_add t 1] at ih
      refine ⟨fun c => ?_, fun c => ?_⟩
      · rw [if_neg (by rw [b2_0.mp c]; decide)] at ih; exact ih
      · rw [if_pos (b2_n0.mp c)] at ih; exact ih
  exact ct_vc tX2_fitting [(5, [true, true, true, true, true])] 20 okC kX2_fitting rfl (L 0 (Nat.zero_le n))
def chF (R : Nat → Nat → Int32) (x set : Int32) (n : Nat) : Int32 := smF (fun j => if R 2 j ≤ x then (set >>> (nI j &&& 31)) &&& nI 1 else nI 0) n
theorem chF_s (R : Nat → Nat → Int32) (x set : Int32) (t : Nat) : chF R x set (t + 1) = chF R x set t + (if R 2 t ≤ x then (set >>> (nI t &&& 31)) &&& nI 1 else nI 0) := rfl
theorem c_countHiredFor {k q n : Nat} {h : Hp} {x set : Int32} (hc : h.1 3 q 3 = nI n) (hn : n ≤ 8) : Ct alC mX2_countHiredFor (k + 1) [vR 2 0, vI x, vR 3 q, vI set] h (Rd h (chF (ro h q) x set n)) := by
  have L : ∀ t, t ≤ n → WP alC mX2_countHiredFor (k + 1) (Rd h (chF (ro h q) x set n)) 6 [some (vR 2 0), some (vI x), some (vR 3 q), some (vI set), some (vI (chF (ro h q) x set t)), some (vI (nI t))] [] h := by
    refine loop_up n ?_ (fun t ht ih => ?_)
    · exact wp_at tX2_countHiredFor [] 20 6 okC kX2_countHiredFor ⟨fun _ => ⟨rfl, rfl⟩, fun c => absurd (by rw [hc]; exact nI_le (Nat.le_refl _) (by omega)) c⟩
    · refine wp_at tX2_countHiredFor [(6, [true, true, true, true, true, true])] 40 6 okC kX2_countHiredFor ⟨fun c => absurd c (by rw [hc]; exact nI_ge ht (by omega)), fun _ => ⟨_, c_of (by omega) (by omega), ?_⟩⟩
      rintro v h' ⟨rfl, rfl⟩
      rw [chF_s, ← nI_add t 1] at ih
      refine ⟨fun c => ?_, fun c => ?_⟩
      · rw [if_neg (i_len c)] at ih; exact ih
      · rw [if_pos (i_nlt c)] at ih; exact ih
  exact ct_vc tX2_countHiredFor [(6, [true, true, true, true, true, true])] 20 okC kX2_countHiredFor rfl (L 0 (Nat.zero_le n))
