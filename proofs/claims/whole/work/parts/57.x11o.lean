/-! the class's games -/
abbrev Act : Type := Int32 × Int32 × Int32
def acK (x : Int32) : Bool := decide (x = nI 102) || decide (x = nI 100) || decide (x = nI 115) || decide (x = nI 98)
def acD (T : Nat → Int32) (n p : Nat) : Int32 × Nat := tkD T n 60 (if pk T n 60 p = nI 100 then nI 1 else nI 0) (nI 9) (p + 1)
def acE (T : Nat → Int32) (n p : Nat) : Int32 × Nat := tkD T n 60 (nI 0) (nI 9) (acD T n p).2
/-- one ACT: where its reading ends, what it is -/
def act1 (T : Nat → Int32) (n p : Nat) : Nat × Option Act := if acK (pk T n 60 p) = true then (if (acD T n p).1 = -(nI 1) then ((acD T n p).2, none) else if pk T n 60 p = nI 102 then (if (acE T n p).1 = -(nI 1) then ((acE T n p).2, none) else ((acE T n p).2, some (pk T n 60 p, (acD T n p).1, (acE T n p).1))) else ((acD T n p).2, some (pk T n 60 p, (acD T n p).1, nI 0))) else (p, none)
def acs (T : Nat → Int32) (n : Nat) : Nat → Nat → Nat × Option (List Act)
  | 0, p => (p, if n ≤ p then some [] else none)
  | f + 1, p => if n ≤ p then (p, some []) else (match (act1 T n p).2 with
    | none => ((act1 T n p).1, none)
    | some a => ((acs T n f (act1 T n p).1).1, (acs T n f (act1 T n p).1).2.map (fun l => a :: l)))
theorem acs_E {T : Nat → Int32} {n f p : Nat} (h : n ≤ p) : acs T n f p = (p, some []) := by
  cases f with
  | zero => rw [acs, if_pos h]
  | succ f => rw [acs, if_pos h]
theorem acs_N {T : Nat → Int32} {n f p : Nat} (h : ¬ n ≤ p) (h2 : (act1 T n p).2 = none) : acs T n (f + 1) p = ((act1 T n p).1, none) := by rw [acs, if_neg h, h2]
theorem acs_S {T : Nat → Int32} {n f p : Nat} {a : Act} (h : ¬ n ≤ p) (h2 : (act1 T n p).2 = some a) : acs T n (f + 1) p = ((acs T n f (act1 T n p).1).1, (acs T n f (act1 T n p).1).2.map (fun l => a :: l)) := by rw [acs, if_neg h, h2]
theorem tkD_fail {T : Nat → Int32} {n L p lo : Nat} {hi : Int32} (hlo : lo = 0 ∨ lo = 1) (h : (tkD T n L (nI lo) hi p).1 = -(nI 1)) : (tkD T n L (nI lo) hi p).2 = p := by
  unfold tkD at h ⊢
  split at h
  next c => rw [if_pos c]
  next c =>
    exfalso
    apply c
    left
    dsimp only at h
    rw [h]
    rcases hlo with rfl | rfl <;> decide
theorem tkD_ok {T : Nat → Int32} {n L p : Nat} {lo hi : Int32} (h : ¬ (tkD T n L lo hi p).1 = -(nI 1)) : (tkD T n L lo hi p) = (pk T n L p - nI 48, p + 1) ∧ ¬ pk T n L p - nI 48 < lo ∧ ¬ hi < pk T n L p - nI 48 := by
  unfold tkD at h ⊢
  split at h
  next c => exact absurd rfl h
  next c =>
    rw [if_neg c]
    exact ⟨rfl, fun w => c (Or.inl w), fun w => c (Or.inr w)⟩
theorem tkD_lt {T : Nat → Int32} {n L p lo : Nat} {hi : Int32} (hlo : lo = 0 ∨ lo = 1) (h : ¬ (tkD T n L (nI lo) hi p).1 = -(nI 1)) : p < n ∧ p < L := by
  obtain ⟨h1, h2, h3⟩ := tkD_ok h
  refine Classical.byContradiction fun w => ?_
  have : pk T n L p = -(nI 1) := if_neg w
  rw [this] at h2
  apply h2
  rcases hlo with rfl | rfl <;> decide
theorem acLo {T : Nat → Int32} {n p : Nat} : ∃ lo, (lo = 0 ∨ lo = 1) ∧ (if pk T n 60 p = nI 100 then nI 1 else nI 0) = nI lo := by
  split
  · exact ⟨1, Or.inr rfl, rfl⟩
  · exact ⟨0, Or.inl rfl, rfl⟩
theorem acD_ok {T : Nat → Int32} {n p : Nat} (h : ¬ (acD T n p).1 = -(nI 1)) : acD T n p = (pk T n 60 (p + 1) - nI 48, p + 2) ∧ p + 1 < n ∧ p + 1 < 60 := by
  obtain ⟨lo, h1, h2⟩ := acLo (T := T) (n := n) (p := p)
  unfold acD at h ⊢
  rw [h2] at h ⊢
  exact ⟨(tkD_ok h).1, tkD_lt h1 h⟩
theorem acD_no {T : Nat → Int32} {n p : Nat} (h : (acD T n p).1 = -(nI 1)) : (acD T n p).2 = p + 1 := by
  obtain ⟨lo, h1, h2⟩ := acLo (T := T) (n := n) (p := p)
  unfold acD at h ⊢
  rw [h2] at h ⊢
  exact tkD_fail h1 h
theorem acE_ok {T : Nat → Int32} {n p : Nat} (h : ¬ (acE T n p).1 = -(nI 1)) (hd : ¬ (acD T n p).1 = -(nI 1)) : acE T n p = (pk T n 60 (p + 2) - nI 48, p + 3) ∧ p + 2 < 60 := by
  unfold acE at h ⊢
  have e : (acD T n p).2 = p + 2 := by rw [(acD_ok hd).1]
  rw [e] at h ⊢
  exact ⟨(tkD_ok h).1, (tkD_lt (lo := 0) (Or.inl rfl) h).2⟩
theorem acE_no {T : Nat → Int32} {n p : Nat} (h : (acE T n p).1 = -(nI 1)) (hd : ¬ (acD T n p).1 = -(nI 1)) : (acE T n p).2 = p + 2 := by
  unfold acE at h ⊢
  have e : (acD T n p).2 = p + 2 := by rw [(acD_ok hd).1]
  rw [e] at h ⊢
  exact tkD_fail (lo := 0) (Or.inl rfl) h
theorem act1_in {T : Nat → Int32} {n p : Nat} {a : Act} (h : (act1 T n p).2 = some a) : (act1 T n p).1 ≤ 60 ∧ p + 2 ≤ (act1 T n p).1 := by
  unfold act1 at h ⊢
  split at h
  next c =>
    rw [if_pos c]
    split at h
    next c2 => cases h
    next c2 =>
      rw [if_neg c2]
      have d := acD_ok c2
      split at h
      next c3 =>
        rw [if_pos c3]
        split at h
        next c4 => cases h
        next c4 =>
          rw [if_neg c4]
          have e := acE_ok c4 c2
          show (acE T n p).2 ≤ 60 ∧ p + 2 ≤ (acE T n p).2
          rw [e.1]
          show p + 3 ≤ 60 ∧ p + 2 ≤ p + 3
          omega
      next c3 =>
        rw [if_neg c3]
        show (acD T n p).2 ≤ 60 ∧ p + 2 ≤ (acD T n p).2
        rw [d.1]
        show p + 2 ≤ 60 ∧ p + 2 ≤ p + 2
        omega
  next c => cases h
def waA (r : Nat × Option (List Act)) : Int32 := match r.2 with
  | some _ => -(nI 1)
  | none => nI r.1
theorem c_wrongAct {k n : Nat} {h : Hp} (hx : Tx h n 60 0) : Ct alC mX11_wrongAct (k + 2) [vR 11 0] h (fun v h' => v = vI (waA (acs (h.1 34 0) n 60 0)) ∧ ∃ p, p ≤ 200 ∧ h' = sA h p) := by
  have h0 : h = sA h 0 := (sA_same hx).symm
  have FIN : ∀ f p, p ≤ 60 → acs (h.1 34 0) n f p = (p, if n ≤ p then some [] else none) → waA (acs (h.1 34 0) n 60 0) = waA (acs (h.1 34 0) n f p) → WP alC mX11_wrongAct (k + 2) (fun v h' => v = vI (waA (acs (h.1 34 0) n 60 0)) ∧ ∃ p, p ≤ 200 ∧ h' = sA h p) 137 [some (vR 11 0), none, none] [] (sA h p) := by
    intro f p hp e1 e2
    have tx := hx.at (show p ≤ 200 by omega)
    refine wp_at tX11_wrongAct [] 30 137 okC kX11_wrongAct ⟨_, c_tended tx, ?_⟩
    rintro v h1 ⟨rfl, rfl⟩
    rw [e2, e1]
    refine ⟨fun c => ⟨?_, p, by omega, rfl⟩, fun c => ⟨?_, p, by omega, rfl⟩⟩
    · rw [if_neg (of_decide_eq_false (b2_0.mp c))]
      exact congrArg vI tx.2.1
    · rw [if_pos (of_decide_eq_true (b2_n0.mp c))]
      rfl
  have L : ∀ f i p, i + f = 60 → p ≤ 60 → waA (acs (h.1 34 0) n 60 0) = waA (acs (h.1 34 0) n f p) → WP alC mX11_wrongAct (k + 2) (fun v h' => v = vI (waA (acs (h.1 34 0) n 60 0)) ∧ ∃ p, p ≤ 200 ∧ h' = sA h p) 2 [some (vR 11 0), some (vI (nI i)), none] [] (sA h p) := by
    intro f
    induction f with
    | zero =>
      intro i p hi hp e
      exact wp_at tX11_wrongAct [(137, [true, false, false])] 20 2 okC kX11_wrongAct ⟨fun _ => FIN 0 p hp rfl e, fun c => absurd (nI_le (show 60 ≤ i by omega) (by omega)) c⟩
    | succ f IH =>
      intro i p hi hp e
      have tx := hx.at (show p ≤ 200 by omega)
      have eT : (sA h p).1 34 0 = h.1 34 0 := sA_T
      refine wp_at tX11_wrongAct [(137, [true, false, false]), (58, [true, true, true])] 80 2 okC kX11_wrongAct ⟨fun c => absurd c (nI_ge (by omega) (by omega)), fun _ => ⟨_, c_tended tx, ?_⟩⟩
      rintro v h1 ⟨rfl, rfl⟩
      refine ⟨fun c => FIN (f + 1) p hp (by rw [acs_E (of_decide_eq_true (b2_n0.mp c)), if_pos (of_decide_eq_true (b2_n0.mp c))]) e, fun c => ⟨_, c_peek tx, ?_⟩⟩
      have c' : ¬ n ≤ p := of_decide_eq_false (b2_0.mp (nn c))
      rintro v h1 ⟨rfl, rfl⟩
      rw [eT]
      -- the kind is right
      have YES : acK (pk (h.1 34 0) n 60 p) = true → WP alC mX11_wrongAct (k + 2) (fun v h' => v = vI (waA (acs (h.1 34 0) n 60 0)) ∧ ∃ p, p ≤ 200 ∧ h' = sA h p) 58 [some (vR 11 0), some (vI (nI i)), some (vI (pk (h.1 34 0) n 60 p))] [] (sA h p) := by
        intro hk
        have ep : sX (sA h p) 9 0 2 ((sA h p).1 9 0 2 + nI 1) = sA h (p + 1) := by
          rw [tx.2.1, nI_add]; exact sX_sX
        have tx1 := hx.at (show p + 1 ≤ 200 by omega)
        have eT1 : (sA h (p + 1)).1 34 0 = h.1 34 0 := sA_T
        have NEXT : ∀ q a, (act1 (h.1 34 0) n p) = (q, some a) → WP alC mX11_wrongAct (k + 2) (fun v h' => v = vI (waA (acs (h.1 34 0) n 60 0)) ∧ ∃ p, p ≤ 200 ∧ h' = sA h p) 131 [some (vR 11 0), some (vI (nI i)), some (vI (pk (h.1 34 0) n 60 p))] [] (sA h q) := by
          intro q a hq
          have hin := act1_in (T := h.1 34 0) (n := n) (p := p) (a := a) (by rw [hq])
          rw [acs_S c' (a := a) (by rw [hq]), hq] at e
          rw [hq] at hin
          have e' : waA (acs (h.1 34 0) n 60 0) = waA (acs (h.1 34 0) n f q) := by
            rw [e]
            unfold waA
            dsimp only
            cases (acs (h.1 34 0) n f q).2 <;> rfl
          have := IH (i + 1) q (by omega) hin.1 e'
          rw [← nI_add i 1] at this
          exact wp_at tX11_wrongAct [(2, [true, true, false])] 20 131 okC kX11_wrongAct this
        have BAD : ∀ q, (act1 (h.1 34 0) n p) = (q, none) → q ≤ 200 → (∀ x, x = nI q → x = waA (acs (h.1 34 0) n 60 0)) := by
          intro q hq hq2 x hx2
          rw [e, acs_N c' (by rw [hq]), hq, hx2]
          rfl
        have M : WP alC mX11_wrongAct (k + 2) (fun v h' => v = vI (waA (acs (h.1 34 0) n 60 0)) ∧ ∃ p, p ≤ 200 ∧ h' = sA h p) 86 [some (vR 11 0), some (vI (nI i)), some (vI (pk (h.1 34 0) n 60 p))] [vI (if pk (h.1 34 0) n 60 p = nI 100 then nI 1 else nI 0), vR 9 0] (sA h (p + 1)) := by
          refine wp_at tX11_wrongAct [(131, [true, true, true])] 60 86 okC kX11_wrongAct ⟨_, c_takeDigit tx1, ?_⟩
          rw [eT1, show tkD (h.1 34 0) n 60 (if pk (h.1 34 0) n 60 p = nI 100 then nI 1 else nI 0) (nI 9) (p + 1) = acD (h.1 34 0) n p from rfl]
          rintro v h2 ⟨rfl, rfl⟩
          have es : sA (sA h (p + 1)) (acD (h.1 34 0) n p).2 = sA h (acD (h.1 34 0) n p).2 := sX_sX
          rw [es]
          have a1 : acK (pk (h.1 34 0) n 60 p) = true := hk
          refine ⟨fun c2 => ?_, fun c2 => ?_⟩
          · have d := acD_ok c2
            have dp : (acD (h.1 34 0) n p).2 = p + 2 := by rw [d.1]
            refine ⟨fun c3 => ?_, fun c3 => ?_⟩
            · refine NEXT (acD (h.1 34 0) n p).2 (pk (h.1 34 0) n 60 p, (acD (h.1 34 0) n p).1, nI 0) ?_
              unfold act1
              rw [if_pos a1, if_neg c2, if_neg c3]
            · have c3' := nn c3
              have tx2 := hx.at (show (acD (h.1 34 0) n p).2 ≤ 200 by omega)
              refine ⟨_, c_takeDigit tx2, ?_⟩
              rw [sA_T, show tkD (h.1 34 0) n 60 (nI 0) (nI 9) (acD (h.1 34 0) n p).2 = acE (h.1 34 0) n p from rfl]
              rintro v h3 ⟨rfl, rfl⟩
              have es : sA (sA h (acD (h.1 34 0) n p).2) (acE (h.1 34 0) n p).2 = sA h (acE (h.1 34 0) n p).2 := sX_sX
              rw [es]
              refine ⟨fun c4 => ?_, fun c4 => ?_⟩
              · refine NEXT (acE (h.1 34 0) n p).2 (pk (h.1 34 0) n 60 p, (acD (h.1 34 0) n p).1, (acE (h.1 34 0) n p).1) ?_
                unfold act1
                rw [if_pos a1, if_neg c2, if_pos c3', if_neg c4]
              · have q2 := acE_no (nn c4) c2
                have tx3 := hx.at (show (acE (h.1 34 0) n p).2 ≤ 200 by omega)
                refine ⟨congrArg vI (BAD (acE (h.1 34 0) n p).2 ?_ (by omega) _ tx3.2.1), _, by omega, rfl⟩
                unfold act1
                rw [if_pos a1, if_neg c2, if_pos c3', if_pos (nn c4)]
          · have q2 := acD_no (nn c2)
            have tx3 := hx.at (show (acD (h.1 34 0) n p).2 ≤ 200 by omega)
            refine ⟨congrArg vI (BAD (acD (h.1 34 0) n p).2 ?_ (by omega) _ tx3.2.1), _, by omega, rfl⟩
            unfold act1
            rw [if_pos a1, if_pos (nn c2)]
        refine wp_at tX11_wrongAct [(86, [true, true, true])] 40 58 okC kX11_wrongAct ?_
        refine ⟨fun c2 => ?_, fun c2 => ?_⟩
        · rw [if_neg c2] at M
          rw [← ep] at M
          exact M
        · rw [if_pos (nn c2)] at M
          rw [← ep] at M
          exact M
      refine ⟨fun d => YES (by unfold acK; rw [dT d]; rfl), fun d => ⟨fun d2 => YES (by unfold acK; rw [dT d2]; simp), fun d2 => ⟨fun d3 => YES (by unfold acK; rw [dT d3]; simp), fun d3 => ⟨fun d4 => YES (by unfold acK; rw [dT d4]; simp), fun d4 => ?_⟩⟩⟩⟩
      have hk : ¬ acK (pk (h.1 34 0) n 60 p) = true := by unfold acK; rw [dF d, dF d2, dF d3, dF d4]; decide
      refine ⟨congrArg vI ?_, p, by omega, rfl⟩
      have ea : act1 (h.1 34 0) n p = (p, none) := if_neg hk
      rw [e, acs_N c' (by rw [ea]), ea]
      exact tx.2.1
  refine ct_vc tX11_wrongAct [(2, [true, true, false])] 20 okC kX11_wrongAct rfl ?_
  have := L 60 0 0 rfl (by omega) rfl
  rw [← h0] at this
  exact this
