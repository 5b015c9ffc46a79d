/-! class Search: pairs -/
/-- the best yet: its value, its gain, its turns -/
abbrev Qs : Type := Option (Int32 × Int32 × List Int32)
def cmpQ (q : Qs) (v g : Int32) (p : List Int32) : Qs := match q with
  | some (b, bg, bp) => if v < b ∨ (v = b ∧ g ≤ bg) then some (b, bg, bp) else some (v, g, p)
  | none => some (v, g, p)
/-- turns as an array holds them -/
def pin (f : Nat → Int32) (p : List Int32) : Prop := ∀ j x, p[j]? = some x → f j = x
def sqB (f r : Nat → Int32) (w : Nat) : Qs → Prop
  | none => f 8 = nI 0
  | some (b, g, p) => f 8 = nI 1 ∧ f 9 = b ∧ f 10 = g ∧ p.length = w ∧ pin r p
def SQ (h : Hp) (w : Nat) (p : List Int32) (q : Qs) : Prop := h.1 7 0 6 = nI w ∧ pin (h.1 31 0) p ∧ sqB (h.1 7 0) (h.1 32 0) w q
def seS : List Ad := [(7, 0), (31, 0), (32, 0)]
theorem c_compare {k w : Nat} {h : Hp} {v g : Int32} {p : List Int32} {q : Qs} (hq : SQ h w p q) (hw : w ≤ 4) (hp : p.length = w) : Ct alC mX7_compare (k + 1) [vR 7 0, vI v, vI g] h (fun _ h' => Fr seS h h' ∧ h'.1 7 0 7 = h.1 7 0 7 ∧ SQ h' w p (cmpQ q v g p)) := by
  obtain ⟨q1, q2, q3⟩ := hq
  have E : cmpQ q v g p = some (v, g, p) → WP alC mX7_compare (k + 1) (fun _ h' => Fr seS h h' ∧ h'.1 7 0 7 = h.1 7 0 7 ∧ SQ h' w p (cmpQ q v g p)) 32 [some (vR 7 0), some (vI v), some (vI g)] [] h := by
    intro e
    rw [e]
    refine wp_at tX7_compare [] 40 32 okC kX7_compare ⟨Or.inr rfl, by decide, by decide, by decide, (by decide : (nI 0).toNatClampNeg + (nI 4).toNatClampNeg ≤ 4), (by decide : (nI 0).toNatClampNeg + (nI 4).toNatClampNeg ≤ 4), ?_⟩
    refine ⟨Fr.sV (Fr.sX (Fr.sX (Fr.sX Fr.rf (by simp [seS])) (by simp [seS])) (by simp [seS])) (by simp [seS]), ?_, ?_, ?_, ?_, ?_, ?_, hp, ?_⟩
    · rw [rdVj, if_neg (by simp), rdX, if_neg (by simp), rdX, if_neg (by simp), rdX, if_neg (by simp)]
    · rw [rdVj, if_neg (by simp), rdX, if_neg (by simp), rdX, if_neg (by simp), rdX, if_neg (by simp), q1]
    · rw [rdV, if_neg (by simp), sX_row, if_neg (by simp), sX_row, if_neg (by simp), sX_row, if_neg (by simp)]
      exact q2
    · rw [rdVj, if_neg (by simp), rdX, if_neg (by simp), rdX, if_neg (by simp), rdX, if_pos (by simp)]
    · rw [rdVj, if_neg (by simp), rdX, if_neg (by simp), rdX, if_pos (by simp)]
    · rw [rdVj, if_neg (by simp), rdX, if_pos (by simp)]
    · intro j x hj
      have hj4 : j < 4 := by have := (List.getElem?_eq_some_iff.mp hj).1; omega
      rw [rdV, if_pos (by simp)]
      have e0 : (nI 0).toNatClampNeg = 0 := by decide
      have e4 : (nI 4).toNatClampNeg = 4 := by decide
      rw [e0, e4, pk_cpy_in (Nat.zero_le _) (by omega), Nat.sub_zero, Nat.zero_add]
      exact q2 j x hj
  refine ct_vc tX7_compare [(32, [true, true, true])] 40 okC kX7_compare rfl ?_
  cases q with
  | none => exact ⟨fun c => E rfl, fun c => absurd q3 c⟩
  | some z =>
    obtain ⟨b, bg, bp⟩ := z
    obtain ⟨f8, f9, f10, fl, fp⟩ := q3
    have D : (v < b ∨ (v = b ∧ g ≤ bg)) → Fr seS h h ∧ h.1 7 0 7 = h.1 7 0 7 ∧ SQ h w p (cmpQ (some (b, bg, bp)) v g p) := by
      intro hc
      refine ⟨Fr.rf, rfl, q1, q2, ?_⟩
      unfold cmpQ
      dsimp only
      rw [if_pos hc]
      exact ⟨f8, f9, f10, fl, fp⟩
    have D2 : ¬ (v < b ∨ (v = b ∧ g ≤ bg)) → cmpQ (some (b, bg, bp)) v g p = some (v, g, p) := by
      intro hc
      unfold cmpQ
      dsimp only
      rw [if_neg hc]
    refine ⟨fun c => absurd (f8.symm.trans c) (by decide), fun c => ⟨fun c2 => ?_, fun c2 => ⟨fun c3 => ?_, fun c3 => ⟨fun c4 => ?_, fun c4 => ?_⟩⟩⟩⟩
    · exact D (Or.inl (by rw [← f9]; exact c2))
    · exact E (D2 (fun z => z.elim (fun z => c2 (by rw [f9]; exact z)) (fun z => c3 (by rw [f9]; exact z.1))))
    · exact E (D2 (fun z => z.elim (fun z => c2 (by rw [f9]; exact z)) (fun z => (i_len (by rw [← f10]; exact c4)) z.2)))
    · exact D (Or.inr ⟨by rw [← f9]; exact nn c3, by rw [← f10]; exact i_nlt c4⟩)
theorem c_senter {k a d : Nat} {h : Hp} {x g : Int32} (ha : a < 8) (hd : d < 8) : Ct alC mX7_enter k [vR 7 0, vI (nI a), vI (nI d), vI x, vI g] h (Rv (sX (sX h 29 0 (a * 8 + d) (if x = 0 then nI 0 else nI 1)) 30 0 (a * 8 + d) g)) := by
  have ix : nI a * nI 8 + nI d = nI (a * 8 + d) := by rw [nI_mul, nI_add]
  have hi : vp_in (nI a * nI 8 + nI d) 64 := by rw [ix]; exact ix1 64 (by omega)
  have hc : (nI a * nI 8 + nI d).toNatClampNeg = a * 8 + d := by rw [ix]; exact nI_clamp (by omega)
  refine ct_vc tX7_enter [] 40 okC kX7_enter rfl ?_
  refine ⟨fun c => ⟨hi, hi, ?_⟩, fun c => ⟨hi, hi, ?_⟩⟩
  · rw [hc, if_pos c]; exact rfl
  · rw [hc, if_neg c]; exact rfl
/-- a loop's fold -/
def lpF (F : Nat → Qs → Qs) : Nat → Nat → Qs → Qs
  | 0, _, q => q
  | f + 1, i, q => lpF F f (i + 1) (F i q)
/-- both are free -/
def frB (free : Int32) (a d : Nat) : Bool := decide (¬ ((free >>> (nI a &&& 31)) &&& (free >>> (nI d &&& 31))) &&& nI 1 = 0)
def frN (free : Int32) (a d : Nat) : Int32 := free &&& ((bit a ||| bit d) ^^^ -(nI 1))
def adP (dd gg : Nat → Int32) : Nat → Nat → Int32 → Int32 → Int32 → List Int32 → Qs → Qs
  | 0, _, _, dead, gain, p, q => cmpQ q (-dead) gain p
  | r + 1, frm, free, dead, gain, p, q => lpF (fun one q => lpF (fun oth q => if frB free one oth = true then adP dd gg r (one + 1) (frN free one oth) (dead + dd (one * 8 + oth)) (gain + gg (one * 8 + oth)) (p ++ [nI (one * 8 + oth)]) q else q) (7 - one) (one + 1) q) (8 - frm) frm q
theorem pin_app {f : Nat → Int32} {p : List Int32} {x : Int32} (h : pin f p) : pin (upd f p.length x) (p ++ [x]) := by
  intro j y hj
  by_cases c : j < p.length
  · rw [List.getElem?_append_left c] at hj
    rw [upd_n (by omega)]
    exact h j y hj
  · rw [List.getElem?_append_right (by omega)] at hj
    have : j - p.length = 0 := by
      have := (List.getElem?_eq_some_iff.mp hj).1
      simp at this
      omega
    rw [this] at hj
    cases hj
    rw [show j = p.length by omega, upd_s]
theorem pin_pre {f : Nat → Int32} {p : List Int32} {x : Int32} (h : pin f (p ++ [x])) : pin f p := fun j y hj => h j y (by rw [List.getElem?_append_left (List.getElem?_eq_some_iff.mp hj).1]; exact hj)
theorem c_addPair {w : Nat} (hw : w ≤ 4) : ∀ (r K : Nat) (h : Hp) (frm : Nat) (free dead gain : Int32) (p : List Int32) (q : Qs), p.length + r = w → r + 2 ≤ K → frm ≤ 8 → SQ h w p q → Ct alC mX7_addPair K [vR 7 0, vI (nI p.length), vI (nI frm), vI free, vI dead, vI gain] h (fun _ h' => Fr seS h h' ∧ h'.1 7 0 7 = h.1 7 0 7 ∧ SQ h' w p (adP (h.1 29 0) (h.1 30 0) r frm free dead gain p q)) := by
  intro r
  induction r with
  | zero =>
    intro K h frm free dead gain p q h1 h2 h3 hq
    obtain ⟨K, rfl⟩ : ∃ K', K = K' + 2 := ⟨K - 2, by omega⟩
    refine ct_vc tX7_addPair [] 40 okC kX7_addPair rfl ⟨fun _ => ⟨_, c_compare hq hw (by omega), ?_⟩, fun c => ?_⟩
    · rintro v h' hh; exact hh
    · exfalso
      have c' : ¬ h.1 7 0 6 ≤ nI p.length := c
      rw [hq.1] at c'
      exact c' (nI_le (by omega) (by omega))
  | succ r ihr =>
    intro K h frm free dead gain p q h1 h2 h3 hq
    obtain ⟨K, rfl⟩ : ∃ K', K = K' + 1 := ⟨K - 1, by omega⟩
    have ID : ∀ (a : Nat), a < 8 → ∀ f d h' q', d + f = 8 → a < d → Fr seS h h' → h'.1 7 0 7 = h.1 7 0 7 → SQ h' w p q' → ∀ (F : Qs → Qs), (∀ h' q', Fr seS h h' → h'.1 7 0 7 = h.1 7 0 7 → SQ h' w p q' → WP alC mX7_addPair (K + 1) (fun _ h' => Fr seS h h' ∧ h'.1 7 0 7 = h.1 7 0 7 ∧ SQ h' w p (F q')) 135 [some (vR 7 0), some (vI (nI p.length)), none, some (vI free), some (vI dead), some (vI gain), some (vI (nI a)), none, none, none] [] h') → WP alC mX7_addPair (K + 1) (fun _ h' => Fr seS h h' ∧ h'.1 7 0 7 = h.1 7 0 7 ∧ SQ h' w p (F (lpF (fun oth q => if frB free a oth = true then adP (h.1 29 0) (h.1 30 0) r (a + 1) (frN free a oth) (dead + h.1 29 0 (a * 8 + oth)) (gain + h.1 30 0 (a * 8 + oth)) (p ++ [nI (a * 8 + oth)]) q else q) f d q'))) 39 [some (vR 7 0), some (vI (nI p.length)), none, some (vI free), some (vI dead), some (vI gain), some (vI (nI a)), some (vI (nI d)), none, none] [] h' := by
      intro a ha f
      induction f with
      | zero =>
        intro d h' q' e1 e2 f1 f7 hq' F KK
        exact wp_at tX7_addPair [(135, [true, true, false, true, true, true, true, false, false, false])] 10 39 okC kX7_addPair ⟨fun _ => KK h' q' f1 f7 hq', fun c => absurd (nI_le (show 8 ≤ d by omega) (by omega)) c⟩
      | succ f ihf =>
        intro d h' q' e1 e2 f1 f7 hq' F KK
        rw [lpF]
        refine wp_at tX7_addPair [(129, [true, true, false, true, true, true, true, true, false, false])] 60 39 okC kX7_addPair ⟨fun c => absurd c (nI_ge (show d < 8 by omega) (by omega)), fun _ => ⟨fun c => ?_, fun c => ?_⟩⟩
        · have cB : frB free a d = true := dT c
          have ix : nI a * nI 8 + nI d = nI (a * 8 + d) := by rw [nI_mul, nI_add]
          rw [if_pos cB]
          refine ⟨ix1 4 (by omega), by rw [ix]; exact ix1 64 (by omega), by rw [ix]; exact ix1 64 (by omega), ?_⟩
          have e29 : (sX h' 31 0 p.length (nI (a * 8 + d))).1 29 0 = h.1 29 0 := by rw [sX_row, if_neg (by simp), f1.2 29 0 (by simp [seS])]
          have e30 : (sX h' 31 0 p.length (nI (a * 8 + d))).1 30 0 = h.1 30 0 := by rw [sX_row, if_neg (by simp), f1.2 30 0 (by simp [seS])]
          have e7 : (sX h' 31 0 p.length (nI (a * 8 + d))).1 7 0 = h'.1 7 0 := by rw [sX_row, if_neg (by simp)]
          have e32 : (sX h' 31 0 p.length (nI (a * 8 + d))).1 32 0 = h'.1 32 0 := by rw [sX_row, if_neg (by simp)]
          have e31 : (sX h' 31 0 p.length (nI (a * 8 + d))).1 31 0 = upd (h'.1 31 0) p.length (nI (a * 8 + d)) := by rw [sX_row, if_pos (by simp)]
          have hq2 : SQ (sX h' 31 0 p.length (nI (a * 8 + d))) w (p ++ [nI (a * 8 + d)]) q' := by
            refine ⟨?_, ?_, ?_⟩
            · rw [e7]; exact hq'.1
            · rw [e31]; exact pin_app hq'.2.1
            · rw [e7, e32]; exact hq'.2.2
          have hC := ihr K (sX h' 31 0 p.length (nI (a * 8 + d))) (a + 1) (frN free a d) (dead + h.1 29 0 (a * 8 + d)) (gain + h.1 30 0 (a * 8 + d)) (p ++ [nI (a * 8 + d)]) q' (by simp; omega) (by omega) (by omega) hq2
          have cl : (nI (a * 8 + d)).toNatClampNeg = a * 8 + d := nI_clamp (by omega)
          refine ⟨_, ct_cv hC ?_ ?_, ?_⟩
          · rw [ix, cl, nI_clamp (show p.length < 2 ^ 31 by omega)]
            rw [e29, e30, List.length_append, ← nI_add a 1, List.length_singleton, ← nI_add p.length 1]
            rfl
          · rw [ix, nI_clamp (show p.length < 2 ^ 31 by omega)]
          · rw [e29, e30]
            rintro v h2 ⟨g1, g7, g2⟩
            have f2 : Fr seS h h2 := (Fr.sX f1 (by simp [seS])).tr g1 (fun _ z => z)
            have := ihf (d + 1) h2 _ (by omega) (by omega) f2 (by rw [g7, e7, f7]) ⟨g2.1, pin_pre g2.2.1, g2.2.2⟩ F KK
            rw [← nI_add d 1] at this
            exact wp_at tX7_addPair [(39, [true, true, false, true, true, true, true, true, false, false])] 10 129 okC kX7_addPair this
        · have cB : ¬ frB free a d = true := fun z => absurd (of_decide_eq_true z) (fun z2 => z2 (nn c))
          rw [if_neg cB]
          have := ihf (d + 1) h' q' (by omega) (by omega) f1 f7 hq' F KK
          rw [← nI_add d 1] at this
          exact wp_at tX7_addPair [(39, [true, true, false, true, true, true, true, true, false, false])] 10 129 okC kX7_addPair this
    have OD : ∀ f a h' q', a + f = 8 → Fr seS h h' → h'.1 7 0 7 = h.1 7 0 7 → SQ h' w p q' → WP alC mX7_addPair (K + 1) (fun _ h' => Fr seS h h' ∧ h'.1 7 0 7 = h.1 7 0 7 ∧ SQ h' w p (lpF (fun one q => lpF (fun oth q => if frB free one oth = true then adP (h.1 29 0) (h.1 30 0) r (one + 1) (frN free one oth) (dead + h.1 29 0 (one * 8 + oth)) (gain + h.1 30 0 (one * 8 + oth)) (p ++ [nI (one * 8 + oth)]) q else q) (7 - one) (one + 1) q) f a q')) 26 [some (vR 7 0), some (vI (nI p.length)), none, some (vI free), some (vI dead), some (vI gain), some (vI (nI a)), none, none, none] [] h' := by
      intro f
      induction f with
      | zero =>
        intro a h' q' e1 f1 f7 hq'
        exact wp_at tX7_addPair [] 10 26 okC kX7_addPair ⟨fun _ => ⟨f1, f7, hq'⟩, fun c => absurd (nI_le (show 8 ≤ a by omega) (by omega)) c⟩
      | succ f ihf =>
        intro a h' q' e1 f1 f7 hq'
        rw [lpF]
        have := ID a (by omega) (7 - a) (a + 1) h' q' (by omega) (by omega) f1 f7 hq' (fun q => lpF (fun one q => lpF (fun oth q => if frB free one oth = true then adP (h.1 29 0) (h.1 30 0) r (one + 1) (frN free one oth) (dead + h.1 29 0 (one * 8 + oth)) (gain + h.1 30 0 (one * 8 + oth)) (p ++ [nI (one * 8 + oth)]) q else q) (7 - one) (one + 1) q) f (a + 1) q) (fun h2 q2 g1 g7 g2 => by
          have := ihf (a + 1) h2 q2 (by omega) g1 g7 g2
          rw [← nI_add a 1] at this
          exact wp_at tX7_addPair [(26, [true, true, false, true, true, true, true, false, false, false])] 10 135 okC kX7_addPair this)
        rw [← nI_add a 1] at this
        exact wp_at tX7_addPair [(39, [true, true, false, true, true, true, true, true, false, false])] 20 26 okC kX7_addPair ⟨fun c => absurd c (nI_ge (show a < 8 by omega) (by omega)), fun _ => this⟩
    refine ct_vc tX7_addPair [(26, [true, true, false, true, true, true, true, false, false, false])] 20 okC kX7_addPair rfl ⟨fun c => ?_, fun _ => ⟨fun _ => ?_, fun c => absurd (nI_lt (show p.length < 4 by omega) (by omega)) c⟩⟩
    · exfalso
      have c' : h.1 7 0 6 ≤ nI p.length := c
      rw [hq.1] at c'
      exact nI_ge (show p.length < w by omega) (by omega) c'
    · exact OD (8 - frm) frm h q (by omega) Fr.rf rfl hq
def resQ (q : Qs) : Int32 := match q with
  | some (b, _, _) => -b
  | none => -(nI 1)
theorem c_leastDead {K w : Nat} {h : Hp} {free : Int32} (hw : w ≤ 4) : Ct alC mX7_leastDead (K + 7) [vR 7 0, vI (nI w), vI free] h (fun v h' => v = vI (resQ (adP (h.1 29 0) (h.1 30 0) w 0 free (nI 0) (nI 0) [] none)) ∧ Fr seS h h' ∧ SQ h' w [] (adP (h.1 29 0) (h.1 30 0) w 0 free (nI 0) (nI 0) [] none)) := by
  refine ct_vc tX7_leastDead [] 40 okC kX7_leastDead rfl ⟨Or.inl rfl, ?_⟩
  have e29 : (sX (sX h 7 0 6 (nI w)) 7 0 8 (nI 0)).1 29 0 = h.1 29 0 := by rw [sX_row, if_neg (by simp), sX_row, if_neg (by simp)]
  have e30 : (sX (sX h 7 0 6 (nI w)) 7 0 8 (nI 0)).1 30 0 = h.1 30 0 := by rw [sX_row, if_neg (by simp), sX_row, if_neg (by simp)]
  have hq : SQ (sX (sX h 7 0 6 (nI w)) 7 0 8 (nI 0)) w [] none := by
    refine ⟨?_, fun j x hj => by simp at hj, ?_⟩
    · rw [rdX, if_neg (by simp), rdX, if_pos (by simp)]
    · show (sX (sX h 7 0 6 (nI w)) 7 0 8 (nI 0)).1 7 0 8 = nI 0
      rw [rdX, if_pos (by simp)]
  refine ⟨_, c_addPair hw w _ _ 0 free (nI 0) (nI 0) [] none (by simp) (by omega) (by omega) hq, ?_⟩
  rw [e29, e30]
  rintro v h' ⟨f1, f7, g2⟩
  have f2 : Fr seS h h' := (Fr.sX (Fr.sX Fr.rf (by simp [seS])) (by simp [seS])).tr f1 (fun _ z => z)
  have g3 := g2.2.2
  refine ⟨fun c => ⟨?_, f2, g2⟩, fun c => ⟨?_, f2, g2⟩⟩
  · cases hz : adP (h.1 29 0) (h.1 30 0) w 0 free (nI 0) (nI 0) [] none with
    | none => rfl
    | some z =>
      rw [hz] at g3
      obtain ⟨b, g, p⟩ := z
      exact absurd (g3.1.symm.trans c) (by decide)
  · cases hz : adP (h.1 29 0) (h.1 30 0) w 0 free (nI 0) (nI 0) [] none with
    | none =>
      rw [hz] at g3
      exact absurd g3 c
    | some z =>
      rw [hz] at g3
      obtain ⟨b, g, p⟩ := z
      show vI (-(h'.1 7 0 9)) = vI (-b)
      rw [g3.2.1]
