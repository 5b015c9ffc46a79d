/-! the reference: card -/
def f32 (p : List Int32) : List Int32 := match p with
  | [] => []
  | t :: r => (t / nI 8) :: (t - t / nI 8 * nI 8) :: f32 r
theorem f32_app : ∀ (p : List Int32) (t : Int32), f32 (p ++ [t]) = f32 p ++ [t / nI 8, t - t / nI 8 * nI 8]
  | [], t => rfl
  | x :: p, t => by
    show _ :: _ :: f32 (p ++ [t]) = _
    rw [f32_app p t]; rfl
theorem f32_len : ∀ (p : List Int32), (f32 p).length = 2 * p.length
  | [] => rfl
  | x :: p => by
    show (f32 p).length + 1 + 1 = 2 * (p.length + 1)
    rw [f32_len p]; omega
theorem f32_P : ∀ (p : List Int32), flP p = (f32 p).map Int32.toInt64
  | [] => rfl
  | x :: p => by
    show _ :: _ :: flP p = _
    rw [f32_P p]; rfl
theorem pin_snoc2 {f : Nat → Int32} {p : List Int32} {x y : Int32} (h : pin f p) (h1 : f p.length = x) (h2 : f (p.length + 1) = y) : pin f (p ++ [x, y]) := by
  intro j w hj
  by_cases c : j < p.length
  · rw [List.getElem?_append_left c] at hj; exact h j w hj
  · rw [List.getElem?_append_right (by omega)] at hj
    have l := (List.getElem?_eq_some_iff.mp hj).1
    simp at l
    by_cases c2 : j = p.length
    · subst c2; rw [Nat.sub_self] at hj; cases hj; exact h1
    · have : j = p.length + 1 := by omega
      subst this
      rw [Nat.add_sub_cancel_left] at hj; cases hj; exact h2
theorem pin_pr2 {f : Nat → Int32} {p r : List Int32} (h : pin f (p ++ r)) : pin f p := by
  intro j w hj
  have := (List.getElem?_eq_some_iff.mp hj).1
  exact h j w (by rw [List.getElem?_append_left this]; exact hj)
def bdQ (h : Hp) (n : Nat) : Qs → Prop
  | none => h.1 12 0 32 = nI 1000000
  | some (b, bg, bp) => (∃ bd, bd < 5 ∧ b = -(nI bd) ∧ h.1 12 0 32 = nI bd) ∧ h.1 12 0 33 = bg ∧ bp.length = n ∧ pin (h.1 50 0) (f32 bp)
def GQ (h : Hp) (n : Nat) (p : List Int32) (q : Qs) : Prop := pin (h.1 49 0) (f32 p) ∧ bdQ h n q
theorem bdQ_cg {h h' : Hp} {n : Nat} {q : Qs} (a : bdQ h n q) (e1 : h'.1 12 0 32 = h.1 12 0 32) (e2 : h'.1 12 0 33 = h.1 12 0 33) (e3 : h'.1 50 0 = h.1 50 0) : bdQ h' n q := by
  match q with
  | none => exact e1.trans a
  | some (b, bg, bp) => exact ⟨by rw [e1]; exact a.1, e2.trans a.2.1, a.2.2.1, by rw [e3]; exact a.2.2.2⟩
theorem ng_lt : ∀ a, a < 5 → ∀ b, b < 5 → (-(nI a) < -(nI b) ↔ b < a) := by decide
theorem ng_eq : ∀ a, a < 5 → ∀ b, b < 5 → (-(nI a) = -(nI b) ↔ a = b) := by decide
theorem lpF_id {F : Nat → Qs → Qs} : ∀ (f a : Nat) (q : Qs), (∀ i, a ≤ i → i < a + f → F i q = q) → lpF F f a q = q
  | 0, _, _, _ => rfl
  | f + 1, a, q, h => by rw [lpF, h a (Nat.le_refl _) (by omega)]; exact lpF_id f (a + 1) q (fun i h1 h2 => h i (by omega) (by omega))
def fre (g : GS) (u : Nat) : Nat → Bool := fun j => (decide (j < gN g) && canF (gS g) j) && !u.testBit j
theorem fre_rm {g : GS} {u a b : Nat} : rmB (fre g u) a b = fre g ((u ||| 2 ^ a) ||| 2 ^ b) := by
  funext j
  unfold rmB fre
  rw [Nat.testBit_or, Nat.testBit_or, Nat.testBit_two_pow, Nat.testBit_two_pow]
  by_cases c1 : j = a
  · subst c1; simp
  · by_cases c2 : j = b
    · subst c2; simp
    · have e1 : ¬ a = j := fun w => c1 w.symm
      have e2 : ¬ b = j := fun w => c2 w.symm
      simp [c1, c2, e1, e2]
def cd2 (g : GS) (r u : Nat) (d gn : Int32) (p : List Int32) (one oth : Nat) (q : Qs) : Qs := if fre g u one = true ∧ fre g u oth = true then cdN (cdD g) (cdG g) r (one + 1) (rmB (fre g u) one oth) (d + cdD g one oth) (gn + cdG g one oth) (p ++ [nI (one * 8 + oth)]) q else q
def cd1 (g : GS) (r u : Nat) (d gn : Int32) (p : List Int32) (one : Nat) (q : Qs) : Qs := lpF (cd2 g r u d gn p one) (7 - one) (one + 1) q
theorem cdN_s {g : GS} {r u frm : Nat} {d gn : Int32} {p : List Int32} {q : Qs} : cdN (cdD g) (cdG g) (r + 1) frm (fre g u) d gn p q = lpF (cd1 g r u d gn p) (8 - frm) frm q := rfl
theorem cd2_no {g : GS} {r u one oth : Nat} {d gn : Int32} {p : List Int32} {q : Qs} (h : fre g u one = false ∨ fre g u oth = false) : cd2 g r u d gn p one oth q = q := by
  unfold cd2
  rw [if_neg]
  rintro ⟨h1, h2⟩
  rcases h with e | e
  · rw [e] at h1; cases h1
  · rw [e] at h2; cases h2
theorem fre_hi {g : GS} {u j : Nat} (h : gN g ≤ j) : fre g u j = false := by unfold fre; rw [dF (show ¬ j < gN g by omega)]; rfl
theorem c_goCard {B D : Nat} {g : GS} (z : Sz g) (iv : Inv D g) : ∀ (r k t n u frm d : Nat) (gn : Int32) (p : List Int32) (q : Qs) (h : Hp), MI B h g → t + r = n → n ≤ 4 → u < 256 → frm ≤ gN g → d ≤ t → p.length = t → GQ h n p q → Ct alM mX12_goCard (k + 322 + r) [vR 12 0, vI (nI u), vI (nI frm), vI (nI t), vI (nI n), vI (nI d), vI gn] h (fun _ h' => MI B h' g ∧ GQ h' n p (cdN (cdD g) (cdG g) r frm (fre g u) (nI d) gn p q)) := by
  have hn := z.1
  intro r
  induction r with
  | zero =>
    intro k t n u frm d gn p q h a htn hn4 hu hf hd hp hq
    obtain rfl : t = n := by omega
    have es : cdN (cdD g) (cdG g) 0 frm (fre g u) (nI d) gn p q = cmpQ q (-(nI d)) gn p := rfl
    rw [es]
    have NO : cmpQ q (-(nI d)) gn p = q → WP alM mX12_goCard (k + 322 + 0) (fun _ h' => MI B h' g ∧ GQ h' t p (cmpQ q (-(nI d)) gn p)) 33 [none, none, none, none, none, none, none, none, none] [] h := by
      intro e
      refine wp_at tX12_goCard [] 10 33 okM kX12_goCard ?_
      show MI B h g ∧ GQ h t p (cmpQ q (-(nI d)) gn p)
      rw [e]
      exact ⟨a, hq⟩
    have YES : cmpQ q (-(nI d)) gn p = some (-(nI d), gn, p) → WP alM mX12_goCard (k + 322 + 0) (fun _ h' => MI B h' g ∧ GQ h' t p (cmpQ q (-(nI d)) gn p)) 34 [some (vR 12 0), none, none, none, some (vI (nI t)), some (vI (nI d)), some (vI gn), none, none] [] h := by
      intro e
      have a1 := (a.fld (j := 32) (x := nI d) (by decide)).fld (j := 33) (x := gn) (by decide)
      have L : ∀ i, i ≤ 2 * t → ∀ H, MI B H g → H.1 12 0 32 = nI d → H.1 12 0 33 = gn → H.1 49 0 = h.1 49 0 → (∀ j, j < i → H.1 50 0 j = h.1 49 0 j) → WP alM mX12_goCard (k + 322 + 0) (fun _ h' => MI B h' g ∧ GQ h' t p (cmpQ q (-(nI d)) gn p)) 49 [some (vR 12 0), none, none, none, some (vI (nI t)), none, none, some (vI (nI i)), none] [] H := by
        refine loop_up (2 * t) ?_ (fun i hi ih => ?_)
        · intro H aH e1 e2 e3 e4
          refine wp_at tX12_goCard [] 20 49 okM kX12_goCard ⟨fun _ => ?_, fun c => absurd (by rw [nI_mul]; exact nI_le (Nat.le_refl _) (by omega)) c⟩
          show MI B H g ∧ GQ H t p (cmpQ q (-(nI d)) gn p)
          rw [e]
          refine ⟨aH, by rw [e3]; exact hq.1, ⟨d, by omega, rfl, e1⟩, e2, hp, fun j x hj => ?_⟩
          have := (List.getElem?_eq_some_iff.mp hj).1
          rw [f32_len] at this
          rw [e4 j (by omega)]
          exact hq.1 j x hj
        · intro H aH e1 e2 e3 e4
          rw [← nI_add i 1] at ih
          refine wp_at tX12_goCard [(49, [true, false, false, false, true, false, false, true, false])] 40 49 okM kX12_goCard ⟨fun c => absurd c (by rw [nI_mul]; exact nI_ge hi (by omega)), fun _ => ⟨ix1 8 (by omega), ix1 8 (by omega), ?_⟩⟩
          rw [nI_clamp (by omega)]
          refine ih _ (aH.scr (S := [(50, 0)]) (F := []) (Fm.rf.sX (by simp) (by decide)) (by simp [scA]) (by simp)) (by rw [rdX, if_neg (by simp)]; exact e1) (by rw [rdX, if_neg (by simp)]; exact e2) (by rw [sX_row, if_neg (by simp)]; exact e3) (fun j hj => ?_)
          rw [rdX]
          by_cases c : j = i
          · subst c; rw [if_pos (by simp), e3]
          · rw [if_neg (by simp [c])]; exact e4 j (by omega)
      refine wp_at tX12_goCard [(49, [true, false, false, false, true, false, false, true, false])] 20 34 okM kX12_goCard ?_
      exact L 0 (Nat.zero_le _) _ a1 (by rw [rdX, if_neg (by simp), rdX, if_pos (by simp)]) (by rw [rdX, if_pos (by simp)]) (by rw [sX_row, if_neg (by simp), sX_row, if_neg (by simp)]) (fun j hj => absurd hj (by omega))
    refine ct_vc tX12_goCard [(33, [false, false, false, false, false, false, false, false, false]), (34, [true, false, false, false, true, true, true, false, false])] 60 okM kX12_goCard rfl ?_
    match q, hq, NO, YES with
    | none, hq, NO, YES =>
      have e32 : h.1 12 0 32 = nI 1000000 := hq.2
      refine ⟨fun c => absurd rfl c, fun _ => ⟨fun c2 => absurd c2 ?_, fun _ => ⟨fun _ => YES rfl, fun c3 => absurd (nn c3) ?_⟩⟩⟩
      · rw [e32]; exact Int32.not_lt.mpr (nI_le (by omega) (by decide))
      · rw [e32]; exact fun w => absurd (nI_inj (by omega) (by decide) w) (by omega)
    | some (b, bg, bp), hq, NO, YES =>
      obtain ⟨⟨bd, hbd, rfl, e32⟩, e33, -, -⟩ := hq.2
      have eQ : cmpQ (some (-(nI bd), bg, bp)) (-(nI d)) gn p = if -(nI d) < -(nI bd) ∨ (-(nI d) = -(nI bd) ∧ gn ≤ bg) then some (-(nI bd), bg, bp) else some (-(nI d), gn, p) := rfl
      have nl := ng_lt d (by omega) bd hbd
      have ne := ng_eq d (by omega) bd hbd
      have NO := fun w => NO (eQ.trans w)
      have YES := fun w => YES (eQ.trans w)
      refine ⟨fun c => absurd rfl c, fun _ => ⟨fun c2 => NO (if_pos (Or.inl (nl.mpr ?_))), fun c2 => ⟨fun c3 => YES (if_neg ?_), fun c3 => ⟨fun c4 => YES (if_neg ?_), fun c4 => NO (if_pos (Or.inr ?_))⟩⟩⟩⟩
      · rw [e32] at c2
        refine Classical.byContradiction fun w => Int32.not_lt.mpr (nI_le (show d ≤ bd by omega) (by omega)) c2
      · rw [e32] at c2 c3
        have h1 : ¬ bd < d := fun w => c2 (nI_lt w (by omega))
        rintro (w | ⟨w, -⟩)
        · exact h1 (nl.mp w)
        · exact c3 (by rw [ne.mp w])
      · rw [e32] at c2
        rw [e33] at c4
        have h1 : ¬ bd < d := fun w => c2 (nI_lt w (by omega))
        rintro (w | ⟨-, w⟩)
        · exact h1 (nl.mp w)
        · exact Int32.not_lt.mpr w c4
      · rw [e32] at c3
        rw [e33] at c4
        exact ⟨ne.mpr (nI_inj (by omega) (by omega) (nn c3)), Int32.not_lt.mp c4⟩
  | succ r IH =>
    intro k t n u frm d gn p q h a htn hn4 hu hf hd hp hq
    obtain ⟨Q, hQ⟩ : ∃ Q, Q = cdN (cdD g) (cdG g) (r + 1) frm (fre g u) (nI d) gn p q := ⟨_, rfl⟩
    rw [← hQ]
    rw [cdN_s] at hQ
    let P : AV → Hp → Prop := fun _ h' => MI B h' g ∧ GQ h' n p Q
    have OU : ∀ f i (q : Qs) H, MI B H g → i + f = gN g → GQ H n p q → Q = lpF (cd1 g r u (nI d) gn p) (8 - i) i q → WP alM mX12_goCard (k + 322 + (r + 1)) P 82 [some (vR 12 0), some (vI (nI u)), none, some (vI (nI t)), some (vI (nI n)), some (vI (nI d)), some (vI gn), some (vI (nI i)), none] [] H := by
      intro f
      induction f with
      | zero =>
        intro i q H aH hi gq e
        have ei : lpF (cd1 g r u (nI d) gn p) (8 - i) i q = q := lpF_id _ _ _ (fun i' h1 h2 => by
          unfold cd1
          exact lpF_id _ _ _ (fun j h3 h4 => cd2_no (Or.inl (fre_hi (by omega)))))
        rw [ei] at e
        rw [← e] at gq
        exact wp_at tX12_goCard [] 20 82 okM kX12_goCard ⟨fun _ => ⟨aH, gq⟩, fun c => absurd (by rw [aH.n1]; exact nI_le (show gN g ≤ i by omega) (by omega)) c⟩
      | succ f IHo =>
        intro i q H aH hi gq e
        have e8 : 8 - i = (8 - (i + 1)) + 1 := by omega
        have IN : ∀ f' j (q : Qs) H, MI B H g → i < j → j + f' = gN g → GQ H n p q → Q = lpF (cd1 g r u (nI d) gn p) (8 - (i + 1)) (i + 1) (lpF (cd2 g r u (nI d) gn p i) (8 - j) j q) → WP alM mX12_goCard (k + 322 + (r + 1)) P 97 [some (vR 12 0), some (vI (nI u)), none, some (vI (nI t)), some (vI (nI n)), some (vI (nI d)), some (vI gn), some (vI (nI i)), some (vI (nI j))] [] H := by
          intro f'
          induction f' with
          | zero =>
            intro j q H aH hij hj gq e
            have ej : lpF (cd2 g r u (nI d) gn p i) (8 - j) j q = q := lpF_id _ _ _ (fun j' h3 h4 => cd2_no (Or.inr (fre_hi (by omega))))
            rw [ej] at e
            have := IHo (i + 1) q H aH (by omega) gq e
            rw [← nI_add i 1] at this
            exact wp_at tX12_goCard [(82, [true, true, false, true, true, true, true, true, false])] 20 97 okM kX12_goCard ⟨fun _ => this, fun c => absurd (by rw [aH.n1]; exact nI_le (show gN g ≤ j by omega) (by omega)) c⟩
          | succ f' IH2 =>
            intro j q H aH hij hj gq e
            have e8 : 8 - j = (8 - (j + 1)) + 1 := by omega
            rw [e8, lpF] at e
            have SK : ∀ H q', MI B H g → GQ H n p q' → cd2 g r u (nI d) gn p i j q = q' → WP alM mX12_goCard (k + 322 + (r + 1)) P 234 [some (vR 12 0), some (vI (nI u)), none, some (vI (nI t)), some (vI (nI n)), some (vI (nI d)), some (vI gn), some (vI (nI i)), some (vI (nI j))] [] H := by
              intro H q' aH gq es
              rw [es] at e
              have := IH2 (j + 1) q' H aH (by omega) (by omega) gq e
              rw [← nI_add j 1] at this
              exact wp_at tX12_goCard [(97, [true, true, false, true, true, true, true, true, true])] 20 234 okM kX12_goCard this
            have fi : fre g u i = (canF (gS g) i && !u.testBit i) := by unfold fre; rw [dT (show i < gN g by omega), Bool.true_and]
            have fj : fre g u j = (canF (gS g) j && !u.testBit j) := by unfold fre; rw [dT (show j < gN g by omega), Bool.true_and]
            refine wp_at tX12_goCard [(234, [true, true, false, true, true, true, true, true, true]), (223, [true, true, false, true, true, true, true, true, true])] 80 97 okM kX12_goCard ⟨fun c => absurd c (by rw [aH.n1]; exact nI_ge (by omega) (by omega)), fun _ => ⟨_, c_mhas, ?_⟩⟩
            rintro v H1 ⟨rfl, rfl⟩
            rw [hsB_tb hu (by omega)]
            refine ⟨fun c => SK H1 q aH gq (cd2_no (Or.inl (by rw [fi, b2_n0.mp c, Bool.not_true, Bool.and_false]))), fun c => ⟨_, c_mhas, ?_⟩⟩
            rintro v H1 ⟨rfl, rfl⟩
            rw [hsB_tb hu (by omega)]
            refine ⟨fun c2 => SK H1 q aH gq (cd2_no (Or.inr (by rw [fj, b2_n0.mp c2, Bool.not_true, Bool.and_false]))), fun c2 => ⟨_, c_mcan aH.1.1 (by omega), ?_⟩⟩
            rintro v H1 ⟨rfl, rfl⟩
            refine ⟨fun c3 => SK H1 q aH gq (cd2_no (Or.inl (by rw [fi, b2_0.mp c3, Bool.false_and]))), fun c3 => ⟨_, c_mcan aH.1.1 (by omega), ?_⟩⟩
            rintro v H1 ⟨rfl, rfl⟩
            refine ⟨fun c4 => ?_, fun c4 => SK H1 q aH gq (cd2_no (Or.inr (by rw [fj, b2_0.mp (nn c4), Bool.false_and])))⟩
            have k1 := b2_n0.mp c3
            have k2 := b2_n0.mp c4
            have es : cd2 g r u (nI d) gn p i j q = cdN (cdD g) (cdG g) r (i + 1) (fre g ((u ||| 2 ^ i) ||| 2 ^ j)) (nI d + cdD g i j) (gn + cdG g i j) (p ++ [nI (i * 8 + j)]) q := by
              unfold cd2
              rw [if_pos ⟨by rw [fi, k1, b2_0.mp (nn c)]; rfl, by rw [fj, k2, b2_0.mp (nn c2)]; rfl⟩, fre_rm]
            have tf := c_tryFight (k := k + 1 + r) (aH.ww z iv) aH.1.1 (show i < gN g by omega) (show j < gN g by omega) (by omega) iv.pi (can_z k1) (can_z k2)
            rw [show k + 1 + r + 321 = k + 322 + r by omega] at tf
            refine ⟨_, tf, ?_⟩
            rintro v H2 ⟨rfl, fm2, e2, g2, d2⟩
            have a2 := aH.try_ fm2
            rw [gn_eq (by omega) (by omega) (by omega)] at g2
            refine ⟨by rw [nI_mul]; exact ix1 8 (by omega), by rw [nI_mul, nI_add]; exact ix1 8 (by omega), ?_⟩
            rw [nI_mul, nI_add, nI_clamp (by omega), nI_clamp (by omega)]
            obtain ⟨H3, hH3⟩ : ∃ H3, H3 = sX (sX H2 49 0 (2 * t) (nI i)) 49 0 (2 * t + 1) (nI j) := ⟨_, rfl⟩
            have a3 : MI B H3 g := by
              rw [hH3]
              exact a2.scr (S := [(49, 0)]) (F := []) ((Fm.rf.sX (by simp) (by decide)).sX (by simp) (by decide)) (by simp [scA]) (by simp)
            have e29 : H3.1 12 0 29 = b2 (decide (mtG g (gS g) i j (32 + (i + j - wnG g (gS g) i j)) = nI 1)) := by rw [hH3, rdX, if_neg (by simp), rdX, if_neg (by simp)]; exact d2
            have e28 : H3.1 12 0 28 = cdG g i j := by rw [hH3, rdX, if_neg (by simp), rdX, if_neg (by simp)]; exact g2
            have p8 := pair8 i (by omega) j (by omega)
            have gq3 : GQ H3 n (p ++ [nI (i * 8 + j)]) q := by
              refine ⟨?_, bdQ_cg gq.2 ?_ ?_ ?_⟩
              · rw [f32_app, p8.2, p8.1]
                refine pin_snoc2 (fun x y hy => ?_) ?_ ?_
                · have := (List.getElem?_eq_some_iff.mp hy).1
                  rw [f32_len, hp] at this
                  rw [hH3, rdX, if_neg (by simp; omega), rdX, if_neg (by simp; omega), fm2.2.2.1 49 0 (by simp) (by simp [tfS])]
                  exact gq.1 x y hy
                · rw [f32_len, hp, hH3, rdX, if_neg (by simp), rdX, if_pos (by simp)]
                · rw [f32_len, hp, hH3, rdX, if_pos (by simp)]
              · rw [hH3, rdX, if_neg (by simp), rdX, if_neg (by simp), fm2.2.2.2 32 (by simp [tfI])]
              · rw [hH3, rdX, if_neg (by simp), rdX, if_neg (by simp), fm2.2.2.2 33 (by simp [tfI])]
              · rw [hH3, sX_row, if_neg (by simp), sX_row, if_neg (by simp), fm2.2.2.1 50 0 (by simp) (by simp [tfS])]
            have u2 : (u ||| 2 ^ i) ||| 2 ^ j < 256 := Nat.or_lt_two_pow (n := 8) (Nat.or_lt_two_pow (n := 8) hu (Nat.pow_lt_pow_right (by decide) (by omega))) (Nat.pow_lt_pow_right (by decide) (by omega))
            have F : ∀ m, m ≤ 1 → cdD g i j = nI m → WP alM mX12_goCard (k + 322 + (r + 1)) P 223 [some (vR 12 0), some (vI (nI u)), none, some (vI (nI t)), some (vI (nI n)), some (vI (nI d)), some (vI gn), some (vI (nI i)), some (vI (nI j))] [vI (nI m), vI (nI d), vI (nI n), vI (nI t + nI 1), vI (nI i + nI 1), vI (nI u ||| bit i ||| bit j), vR 12 0] H3 := by
              intro m hm ed
              rw [bit_nI i (by omega), bit_nI j (by omega), nI_or, nI_or, nI_add, nI_add]
              refine wp_at tX12_goCard [(234, [true, true, false, true, true, true, true, true, true])] 20 223 okM kX12_goCard ⟨_, ct_cv (IH k (t + 1) n _ (i + 1) (d + m) (gn + cdG g i j) (p ++ [nI (i * 8 + j)]) q H3 a3 (by omega) hn4 u2 (by omega) (by omega) (by rw [List.length_append, hp]; rfl) gq3) ?_ rfl, ?_⟩
              · rw [nI_add, e28]
              · rintro v H4 ⟨a4, gq4⟩
                refine SK H4 _ a4 ⟨pin_pr2 (by have := gq4.1; rw [f32_app] at this; exact this), gq4.2⟩ ?_
                rw [es, ed, nI_add]
            rw [← hH3]
            refine ⟨fun c5 => F 0 (by omega) ?_, fun c5 => F 1 (by omega) ?_⟩
            · have c6 : H3.1 12 0 29 = 0 := c5
              rw [e29] at c6
              unfold cdD
              rw [if_neg (of_decide_eq_false (b2_0.mp c6))]
            · have c6 : ¬ H3.1 12 0 29 = 0 := c5
              rw [e29] at c6
              unfold cdD
              rw [if_pos (of_decide_eq_true (b2_n0.mp c6))]
        rw [e8, lpF] at e
        have e7 : cd1 g r u (nI d) gn p i q = lpF (cd2 g r u (nI d) gn p i) (8 - (i + 1)) (i + 1) q := by unfold cd1; rw [show 7 - i = 8 - (i + 1) by omega]
        rw [e7] at e
        have := IN (gN g - 1 - i) (i + 1) q H aH (by omega) (by omega) gq e
        rw [← nI_add i 1] at this
        exact wp_at tX12_goCard [(97, [true, true, false, true, true, true, true, true, true])] 20 82 okM kX12_goCard ⟨fun c => absurd c (by rw [aH.n1]; exact nI_ge (by omega) (by omega)), fun _ => this⟩
    refine ct_vc tX12_goCard [(82, [true, true, false, true, true, true, true, true, false])] 30 okM kX12_goCard rfl ?_
    refine ⟨fun _ => OU (gN g - frm) frm q h a (by omega) hq hQ, fun c => absurd (nn c) (fun w => absurd (nI_inj (by omega) (by omega) w) (by omega))⟩
theorem m_Card {B D k : Nat} {h : Hp} {g : GS} {x : Int32} (a : MI B h g) (z : Sz g) (iv : Inv D g) : Ct alM mX12_card (k + 327) [vR 12 0, vI x] h (fun v h' => v = vI (aCard g x) ∧ MI B h' (nCard g x)) := by
  have hn := z.1
  have a0 := a.fld (j := 10) (x := nI 0) (by decide)
  refine ct_vc tX12_card [(58, [true, true, true])] 80 okM kX12_card rfl ?_
  refine ⟨_, c_min, ?_⟩
  rintro v h1 ⟨rfl, rfl⟩
  unfold aCard nCard
  refine ⟨fun c => ?_, fun c => ?_⟩
  · have q2 : inB (nI 1) (nI 4) x = true := b2_n0.mp c
    simp only [if_pos q2]
    obtain ⟨w, hw1, hw2, rfl⟩ := inB_get q2 (by omega) (by omega)
    rw [nI_clamp (show w < 2 ^ 31 by omega)]
    have a1 := (a0.fld (j := 32) (x := nI 1000000) (by decide)).fld (j := 33) (x := nI 0) (by decide)
    have hq0 : GQ (sX (sX (sX h 12 0 10 (nI 0)) 12 0 32 (nI 1000000)) 12 0 33 (nI 0)) w [] none := ⟨fun j x hj => by simp [f32] at hj, by show _ = _; rw [rdX, if_neg (by simp), rdX, if_pos (by simp)]⟩
    have gc := c_goCard z iv w (k + 4 - w) 0 w 0 0 0 (nI 0) [] none _ a1 (by omega) hw2 (by decide) (by omega) (by omega) rfl hq0
    rw [show k + 4 - w + 322 + w = k + 326 by omega] at gc
    refine ⟨_, gc, ?_⟩
    have ef : fre g 0 = fun j => decide (j < gN g) && canF (gS g) j := by funext j; unfold fre; rw [Nat.zero_testBit, Bool.not_false, Bool.and_true]
    rw [ef]
    have eq : cdN (cdD g) (cdG g) w 0 (fun j => decide (j < gN g) && canF (gS g) j) (nI 0) (nI 0) [] none = cdQ g w := rfl
    rw [eq]
    rintro v h2 ⟨a2, gq⟩
    cases hQ : cdQ g w with
    | none =>
      rw [hQ] at gq
      have e32 : h2.1 12 0 32 = nI 1000000 := gq.2
      exact ⟨fun c => absurd e32 c, fun _ => ⟨rfl, a2⟩⟩
    | some bp =>
      obtain ⟨bb, bg, bl⟩ := bp
      rw [hQ] at gq
      obtain ⟨⟨bd, hbd, rfl, e32⟩, -, hlen, hpin⟩ := gq.2
      refine ⟨fun _ => ?_, fun c => absurd (nn c) (by rw [e32]; exact fun w => absurd (nI_inj (by omega) (by decide) w) (by omega))⟩
      let Q : AV → Hp → Prop := fun v h' => v = vI (-(-(nI bd))) ∧ MI B h' (uL g (flP bl))
      have L : ∀ t, t ≤ 2 * w → ∀ h4, MI B h4 (uL g ((f32 bl).take t |>.map Int32.toInt64)) → h4.1 50 0 = h2.1 50 0 → h4.1 12 0 32 = nI bd → WP alM mX12_card (k + 327) Q 58 [some (vR 12 0), some (vI (nI w)), some (vI (nI t))] [] h4 := by
        refine loop_up (2 * w) ?_ (fun t ht ih => ?_)
        · intro h4 a4 e4 e5
          refine wp_at tX12_card [] 20 58 okM kX12_card ⟨fun _ => ⟨?_, ?_⟩, fun c => absurd (by rw [nI_mul]; exact nI_le (Nat.le_refl _) (by omega)) c⟩
          · show vI (h4.1 12 0 32) = _
            rw [e5, Int32.neg_neg]
          · rw [List.take_of_length_le (by rw [f32_len]; omega), ← f32_P] at a4
            exact a4
        · intro h4 a4 e4 e5
          rw [← nI_add t 1] at ih
          have hl : (f32 bl).length = 2 * w := by rw [f32_len]; omega
          have hbt : (f32 bl)[t]? = some (f32 bl)[t] := List.getElem?_eq_getElem (by omega)
          have e6 : h4.1 50 0 t = (f32 bl)[t] := by rw [e4]; exact hpin t _ hbt
          refine wp_at tX12_card [(58, [true, true, true])] 40 58 okM kX12_card ⟨fun c => absurd c (by rw [nI_mul]; exact nI_ge ht (by omega)), fun _ => ⟨ix1 8 (by omega), _, c_tellR a4 ?_, ?_⟩⟩
          · show ((f32 bl).take t |>.map Int32.toInt64).length < 16
            rw [List.length_map, List.length_take]; omega
          · rintro v h5 ⟨a5, k5, j5, -⟩
            refine ih h5 ?_ (by rw [k5 50 0 (by simp)]; exact e4) (by rw [j5 32 (by simp)]; exact e5)
            rw [nI_clamp (by omega), e6] at a5
            rw [List.take_add_one, hbt, Option.toList_some, List.map_append]
            exact a5
      exact L 0 (Nat.zero_le _) _ a2.clr (by rw [sX_row, if_neg (by simp)]) (by rw [rdX, if_neg (by simp)]; exact e32)
  · have c' : ¬ inB (nI 1) (nI 4) x = true := by rw [b2_0.mp (nn c)]; decide
    rw [if_neg c', if_neg c']
    exact ⟨rfl, a0⟩
