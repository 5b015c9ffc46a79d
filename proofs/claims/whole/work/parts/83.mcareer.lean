/-! the reference: career -/
theorem cl_6 : ∀ v, v < 100 → clampN (nI 0) (nI 99) (nI v + nI 6) = nI (min 99 (v + 6)) := by decide +kernel
theorem cl_4 : ∀ v, v < 100 → clampN (nI 0) (nI 99) (nI v + nI 4) = nI (min 99 (v + 4)) := by decide +kernel
theorem cl_2 : ∀ v, v < 100 → clampN (nI 0) (nI 99) (nI v + -(nI 2)) = nI (v - 2) := by decide +kernel
theorem cl_m {v : Nat} {m : Int32} (hv : v ≤ 99) (hm : m = nI 6 ∨ m = -(nI 2)) : ∃ w, w ≤ 99 ∧ w ≤ v + 6 ∧ clampN (nI 0) (nI 99) (nI v + m) = nI w := by
  rcases hm with rfl | rfl
  · exact ⟨_, by omega, by omega, cl_6 v (by omega)⟩
  · exact ⟨_, by omega, by omega, cl_2 v (by omega)⟩
theorem fav_10 {g : GS} {s : Sta} {one oth v : Nat} (hn : gN g ≤ 8) (hR : RoK (gR g) (gN g)) (h1 : one < gN g) (h2 : oth < gN g) (hne : one ≠ oth) (hv : v ≤ 99) (hs : s one = nI v) : ∃ w, w ≤ 99 ∧ w ≤ v + 10 ∧ mtG g s one oth one = nI w := by
  have cs := wl_cs (g := g) (s := s) (one := one) (oth := oth)
  obtain ⟨wi, hwi⟩ : ∃ wi, wi = wnG g s one oth := ⟨_, rfl⟩
  obtain ⟨lo, hlo⟩ : ∃ lo, lo = one + oth - wnG g s one oth := ⟨_, rfl⟩
  rw [← hlo, ← hwi] at cs
  have wi8 : wi < gN g := by rcases cs with ⟨r, -⟩ | ⟨r, -⟩ <;> omega
  have lo8 : lo < gN g := by rcases cs with ⟨-, r⟩ | ⟨-, r⟩ <;> omega
  have o4 := (own4 hR lo8).1
  have eM : mtG g s one oth = hsF (gW g) (hsF (gW g) (jgF (gR g) (nI (lsG g)) (m3F (exF (gR g) (pyH (gR g) (pyH (gR g) s one) oth) wi lo) one oth wi lo) lo) one) oth := by rw [hwi, hlo]; rfl
  rw [eM, hs_o (by omega), hs_o (by omega), jg_o (by omega) (by omega) (by omega), m3_o (by omega) (by omega) (by omega) (by omega)]
  obtain ⟨s2, hs2⟩ : ∃ s2, s2 = pyH (gR g) (pyH (gR g) s one) oth := ⟨_, rfl⟩
  have e2 : s2 one = nI v := by rw [hs2, py_o hR h2 (by omega), py_o hR h1 (by omega)]; exact hs
  rw [← hs2]
  unfold exF
  obtain ⟨m, hm⟩ : ∃ m, m = (if s2 44 &&& prI (gR g 0 wi) (gR g 0 lo) = 0 then nI 6 else -(nI 2)) := ⟨_, rfl⟩
  have hm' : m = nI 6 ∨ m = -(nI 2) := by
    rw [hm]
    by_cases c : s2 44 &&& prI (gR g 0 wi) (gR g 0 lo) = 0
    · rw [if_pos c]; exact Or.inl rfl
    · rw [if_neg c]; exact Or.inr rfl
  rw [← hm]
  obtain ⟨w, w1, w2, w3⟩ := cl_m hv hm'
  rcases cs with ⟨rfl, rfl⟩ | ⟨rfl, rfl⟩
  · refine ⟨min 99 (w + 4), by omega, by omega, ?_⟩
    have es : likF (likF (upd s2 44 (s2 44 ||| prI (gR g 0 wi) (gR g 0 lo))) wi m) lo m wi = nI w := by
      rw [lik_o hne]; unfold likF; rw [upd_s, upd_n (show wi ≠ 44 by omega), e2]; exact w3
    show upd _ wi _ wi = _
    rw [upd_s, es]
    exact cl_4 w (by omega)
  · refine ⟨w, w1, by omega, ?_⟩
    rw [lik_o hne]
    show upd _ lo _ lo = _
    rw [upd_s, lik_o hne, upd_n (show lo ≠ 44 by omega), e2]
    exact w3
def mo1 (g : GS) (f : Nat) (s : Sta) (F : Nat → Qs → Qs) (oth : Nat) (q : Qs) : Qs := if hnF (gN g) s (nI f) (nI oth) = 0 then F oth q else q
def moC (g : GS) (f : Nat) : Nat → Sta → List Int32 → Qs → Qs
  | 0, s, p, q => if s (32 + f) = nI 1 then q else cmpQ q (s f) (nI 0) p
  | r + 1, s, p, q => lpF (mo1 g f s (fun oth q => moC g f r (mtG g s f oth) (p ++ [nI oth]) q)) 8 0 q
theorem moC_dead {g : GS} {f : Nat} (hn : gN g ≤ 8) (hf : f < gN g) : ∀ r s p q, s (32 + f) = nI 1 → moC g f r s p q = q
  | 0, s, p, q, h => if_pos h
  | r + 1, s, p, q, h => by
    rw [moC]
    refine lpF_id _ _ _ (fun i _ hi => if_neg (fun w => ?_))
    obtain ⟨-, -, -, f1, -⟩ := hnF_yes hn w (by omega) (by omega)
    rw [f1] at h
    exact absurd h (by decide)
theorem moC_lo {g : GS} {D f b : Nat} {bp : List Int32} (z : Sz g) (iv : Inv D g) (hf : f < gN g) : ∀ r s p v, PI (gN g) s → s f = nI v → v ≤ 99 → min 99 (v + 10 * r) ≤ b → b ≤ 99 → moC g f r s p (some (nI b, nI 0, bp)) = some (nI b, nI 0, bp)
  | 0, s, p, v, pi, hs, hv, hb, hb9 => by
    rw [moC]
    split
    · rfl
    · rw [hs]
      unfold cmpQ
      dsimp only
      rw [if_pos]
      by_cases c : v = b
      · exact Or.inr ⟨by rw [c], Int32.le_refl _⟩
      · exact Or.inl (nI_lt (by omega) (by omega))
  | r + 1, s, p, v, pi, hs, hv, hb, hb9 => by
    rw [moC]
    refine lpF_id _ _ _ (fun i _ hi => ?_)
    unfold mo1
    split
    next c =>
      obtain ⟨-, hi', hne, f1, f2⟩ := hnF_yes z.1 c (by have := z.1; omega) (by omega)
      obtain ⟨v', h1, h2, h3⟩ := fav_10 z.1 z.r hf hi' hne hv hs
      exact moC_lo z iv hf r _ _ v' (PI_mt z.1 z.r iv.sw hf hi' hne pi f1 f2).1 h3 h1 (by omega) hb9
    next => rfl
def BQ (q : Qs) : Prop := ∀ b g bp, q = some (b, g, bp) → g = nI 0 ∧ ∃ v, v ≤ 99 ∧ b = nI v
theorem lpF_eqI {I : Qs → Prop} {F G : Nat → Qs → Qs} : ∀ (f a : Nat) (q : Qs), I q → (∀ i q, I q → a ≤ i → i < a + f → F i q = G i q ∧ I (G i q)) → lpF F f a q = lpF G f a q ∧ I (lpF G f a q)
  | 0, _, _, h, _ => ⟨rfl, h⟩
  | f + 1, a, q, hq, h => by
    rw [lpF, lpF, (h a q hq (Nat.le_refl _) (by omega)).1]
    exact lpF_eqI f (a + 1) _ (h a q hq (Nat.le_refl _) (by omega)).2 (fun i q hq h1 h2 => h i q hq (by omega) (by omega))
theorem adC_mo {g : GS} {D f : Nat} (z : Sz g) (iv : Inv D g) (hf : f < gN g) : ∀ r s p q, r ≤ 4 → PI (gN g) s → BQ q → (r = 0 → ¬ s (32 + f) = nI 1) → adC (gC g) (gR g) (nI (lsG g)) (gW g) (gN g) f r s p q = moC g f r s p q ∧ BQ (moC g f r s p q)
  | 0, s, p, q, _, pi, bq, h0 => by
    obtain ⟨v, hv, hs⟩ := pi.2.2 f hf
    have e : moC g f 0 s p q = cmpQ q (s f) (nI 0) p := if_neg (h0 rfl)
    rw [e]
    refine ⟨rfl, ?_⟩
    intro b gg bp hb
    have : cmpQ q (s f) (nI 0) p = some (s f, nI 0, p) ∨ cmpQ q (s f) (nI 0) p = q := by
      match q with
      | none => exact Or.inl rfl
      | some (x, y, w) =>
        unfold cmpQ
        dsimp only
        split
        · exact Or.inr rfl
        · exact Or.inl rfl
    rcases this with w | w
    · rw [w] at hb; cases hb; exact ⟨rfl, v, hv, hs⟩
    · rw [w] at hb; exact bq b gg bp hb
  | r + 1, s, p, q, hr4, pi, bq, h0 => by
    have key : lpF (fun oth q => if hnF (gN g) s (nI f) (nI oth) = 0 ∧ ¬ mtF (gC g) (gR g) (nI (lsG g)) (gW g) s f oth (32 + f) = nI 1 then adC (gC g) (gR g) (nI (lsG g)) (gW g) (gN g) f r (mtF (gC g) (gR g) (nI (lsG g)) (gW g) s f oth) (p ++ [nI oth]) q else q) 8 0 q = moC g f (r + 1) s p q ∧ BQ (moC g f (r + 1) s p q) := by
      rw [moC]
      refine lpF_eqI 8 0 q bq (fun i q bq _ hi => ?_)
      show (if hnF (gN g) s (nI f) (nI i) = 0 ∧ ¬ mtG g s f i (32 + f) = nI 1 then adC (gC g) (gR g) (nI (lsG g)) (gW g) (gN g) f r (mtG g s f i) (p ++ [nI i]) q else q) = _ ∧ _
      unfold mo1
      by_cases c : hnF (gN g) s (nI f) (nI i) = 0
      · rw [if_pos c]
        obtain ⟨-, hi', hne, f1, f2⟩ := hnF_yes z.1 c (by have := z.1; omega) (by omega)
        by_cases c2 : mtG g s f i (32 + f) = nI 1
        · rw [if_neg (fun w => w.2 c2)]
          show q = moC g f r (mtG g s f i) (p ++ [nI i]) q ∧ BQ (moC g f r (mtG g s f i) (p ++ [nI i]) q)
          rw [moC_dead z.1 hf _ _ _ _ c2]
          exact ⟨rfl, bq⟩
        · rw [if_pos ⟨c, c2⟩]
          exact adC_mo z iv hf r _ _ q (by omega) (PI_mt z.1 z.r iv.sw hf hi' hne pi f1 f2).1 bq (fun _ => c2)
      · rw [if_neg (fun w => c w.1), if_neg c]
        exact ⟨rfl, bq⟩
    rw [adC]
    by_cases c : prB q (s f) (r + 1) = true
    · rw [if_pos c]
      match q, bq, c with
      | none, _, c => exact absurd c Bool.false_ne_true
      | some (b, gg, bp), bq, c =>
        obtain ⟨rfl, b', hb, rfl⟩ := bq _ _ _ rfl
        obtain ⟨v, hv, hs⟩ := pi.2.2 f hf
        have c := of_decide_eq_true c
        rw [hs, nI_mul, nI_add] at c
        rw [mn_nI (by omega) (by omega)] at c
        have c := (nI_leI (by omega) (by omega)).mp c
        rw [moC_lo z iv hf (r + 1) s p v pi hs hv c hb]
        exact ⟨rfl, fun _ _ _ w => by cases w; exact ⟨rfl, b', hb, rfl⟩⟩
    · rw [if_neg c]
      exact key
def bcQ (h : Hp) (w : Nat) : Qs → Prop
  | none => h.1 12 0 35 = -(nI 1)
  | some (b, gg, bp) => (∃ v, v ≤ 99 ∧ b = nI v) ∧ gg = nI 0 ∧ h.1 12 0 35 = b ∧ bp.length = w ∧ pin (h.1 50 0) bp
def CQ (h : Hp) (w : Nat) (p : List Int32) (q : Qs) : Prop := pin (h.1 49 0) p ∧ bcQ h w q
theorem bcQ_cg {h h' : Hp} {n : Nat} {q : Qs} (a : bcQ h n q) (e1 : h'.1 12 0 35 = h.1 12 0 35) (e3 : h'.1 50 0 = h.1 50 0) : bcQ h' n q := by
  match q with
  | none => exact e1.trans a
  | some (b, bg, bp) => exact ⟨a.1, a.2.1, by rw [e1]; exact a.2.2.1, a.2.2.2.1, by rw [e3]; exact a.2.2.2.2⟩
theorem n1lt : ∀ v, v < 100 → -(nI 1) < nI v := by decide +kernel
theorem c_goCareer {B D : Nat} {g : GS} {f w : Nat} (z : Sz g) (iv : Inv D g) (hf : f < gN g) (hw : w ≤ 4) : ∀ (r k t : Nat) (s : Sta) (p : List Int32) (q : Qs) (h : Hp), MI B h g → t + r = w → p.length = t → h.1 40 (3 + t) = mS s → PI (gN g) s → CQ h w p q → Ct alM mX12_goCareer (k + 321 + r) [vR 12 0, vI (nI f), vI (nI t), vI (nI w)] h (fun _ h' => MI B h' g ∧ CQ h' w p (moC g f r s p q) ∧ ∀ i, i ≤ 3 + t → h'.1 40 i = h.1 40 i) := by
  have hn := z.1
  intro r
  induction r with
  | zero =>
    intro k t s p q h a ht hp hs pi hq
    obtain rfl : t = w := by omega
    obtain ⟨v, hv, ev⟩ := pi.2.2 f hf
    have es : moC g f 0 s p q = if s (32 + f) = nI 1 then q else cmpQ q (s f) (nI 0) p := rfl
    obtain ⟨Q, hQ⟩ : ∃ Q, Q = moC g f 0 s p q := ⟨_, rfl⟩
    rw [← hQ]
    rw [es] at hQ
    have NO : Q = q → WP alM mX12_goCareer (k + 321 + 0) (fun _ h' => MI B h' g ∧ CQ h' t p Q ∧ ∀ i, i ≤ 3 + t → h'.1 40 i = h.1 40 i) 35 [none, none, none, none, none, none] [] h := by
      intro e
      refine wp_at tX12_goCareer [] 10 35 okM kX12_goCareer ?_
      show MI B h g ∧ CQ h t p Q ∧ ∀ i, i ≤ 3 + t → h.1 40 i = h.1 40 i
      rw [e]
      exact ⟨a, hq, fun _ _ => rfl⟩
    have YES : Q = some (s f, nI 0, p) → WP alM mX12_goCareer (k + 321 + 0) (fun _ h' => MI B h' g ∧ CQ h' t p Q ∧ ∀ i, i ≤ 3 + t → h'.1 40 i = h.1 40 i) 36 [some (vR 12 0), some (vI (nI f)), none, some (vI (nI t)), some (vR 40 (3 + t)), none] [] h := by
      intro e
      have a1 := a.fld (j := 35) (x := s f) (by decide)
      have L : ∀ i, i ≤ t → ∀ H, MI B H g → H.1 12 0 35 = s f → H.1 49 0 = h.1 49 0 → (∀ j, j < i → H.1 50 0 j = h.1 49 0 j) → (∀ i, H.1 40 i = h.1 40 i) → WP alM mX12_goCareer (k + 321 + 0) (fun _ h' => MI B h' g ∧ CQ h' t p Q ∧ ∀ i, i ≤ 3 + t → h'.1 40 i = h.1 40 i) 47 [some (vR 12 0), none, none, some (vI (nI t)), none, some (vI (nI i))] [] H := by
        refine loop_up t ?_ (fun i hi ih => ?_)
        · intro H aH e1 e3 e4 e5
          refine wp_at tX12_goCareer [] 20 47 okM kX12_goCareer ⟨fun _ => ?_, fun c => absurd (nI_le (Nat.le_refl _) (by omega)) c⟩
          show MI B H g ∧ CQ H t p Q ∧ ∀ i, i ≤ 3 + t → H.1 40 i = h.1 40 i
          rw [e]
          refine ⟨aH, ⟨by rw [e3]; exact hq.1, ⟨v, hv, ev⟩, rfl, e1, hp, fun j x hj => ?_⟩, fun i _ => e5 i⟩
          have := (List.getElem?_eq_some_iff.mp hj).1
          rw [e4 j (by omega)]
          exact hq.1 j x hj
        · intro H aH e1 e3 e4 e5
          rw [← nI_add i 1] at ih
          refine wp_at tX12_goCareer [(47, [true, false, false, true, false, true])] 40 47 okM kX12_goCareer ⟨fun c => absurd c (nI_ge hi (by omega)), fun _ => ⟨ix1 8 (by omega), ix1 8 (by omega), ?_⟩⟩
          rw [nI_clamp (by omega)]
          refine ih _ (aH.scr (S := [(50, 0)]) (F := []) (Fm.rf.sX (by simp) (by decide)) (by simp [scA]) (by simp)) (by rw [rdX, if_neg (by simp)]; exact e1) (by rw [sX_row, if_neg (by simp)]; exact e3) (fun j hj => ?_) (fun j => by rw [sX_row, if_neg (by simp)]; exact e5 j)
          rw [rdX]
          by_cases c : j = i
          · subst c; rw [if_pos (by simp), e3]
          · rw [if_neg (by simp [c])]; exact e4 j (by omega)
      refine wp_at tX12_goCareer [(47, [true, false, false, true, false, true])] 20 36 okM kX12_goCareer ⟨ix1 47 (by omega), ?_⟩
      rw [nI_clamp (by omega), hs, mS_lo (by omega)]
      exact L 0 (Nat.zero_le _) _ a1 (by rw [rdX, if_pos (by simp)]) (by rw [sX_row, if_neg (by simp)]) (fun j hj => absurd hj (by omega)) (fun j => by rw [sX_row, if_neg (by simp)])
    refine ct_vc tX12_goCareer [(35, [false, false, false, false, false, false]), (36, [true, true, false, true, true, false])] 60 okM kX12_goCareer rfl ?_
    refine ⟨ix1 5 (by omega), fun c => absurd rfl c, fun _ => ⟨by rw [nI_add]; exact ix1 47 (by omega), ?_⟩⟩
    rw [nI_add, nI_clamp (by omega), nI_clamp (by omega)]
    have e32 : h.1 40 (3 + t) (32 + f) = s (32 + f) := by rw [hs, mS_lo (by omega)]
    have ef : h.1 40 (3 + t) f = nI v := by rw [hs, mS_lo (by omega), ev]
    refine ⟨fun c2 => NO ?_, fun c2 => ⟨ix1 47 (by omega), ?_⟩⟩
    · have c3 : s (32 + f) = nI 1 := by rw [← e32]; exact c2
      rw [if_pos c3] at hQ
      exact hQ
    · have c3 : ¬ s (32 + f) = nI 1 := by rw [← e32]; exact c2
      rw [if_neg c3] at hQ
      rw [nI_clamp (by omega)]
      match q, hq, hQ, NO with
      | none, hq, hQ, NO =>
        have e35 : h.1 12 0 35 = -(nI 1) := hq.2
        refine ⟨fun _ => YES hQ, fun c4 => absurd ?_ c4⟩
        rw [ef, e35]
        exact n1lt v (by omega)
      | some (b, gg, bp), hq, hQ, NO =>
        obtain ⟨⟨vb, hvb, rfl⟩, rfl, e35, -, -⟩ := hq.2
        have eQ : cmpQ (some (nI vb, nI 0, bp)) (s f) (nI 0) p = if s f < nI vb ∨ (s f = nI vb ∧ nI 0 ≤ nI 0) then some (nI vb, nI 0, bp) else some (s f, nI 0, p) := rfl
        rw [eQ] at hQ
        refine ⟨fun c4 => YES (hQ.trans (if_neg ?_)), fun c4 => NO (hQ.trans (if_pos ?_))⟩
        · rw [ef, e35] at c4
          rw [ev]
          rintro (y | ⟨y, -⟩)
          · exact Int32.lt_irrefl (Int32.lt_trans c4 y)
          · rw [y] at c4; exact Int32.lt_irrefl c4
        · rw [ef, e35] at c4
          rw [ev]
          have := (nI_leI (by omega) (by omega)).mp (Int32.not_lt.mp c4)
          by_cases y : v = vb
          · exact Or.inr ⟨by rw [y], Int32.le_refl _⟩
          · exact Or.inl (nI_lt (by omega) (by omega))
  | succ r IH =>
    intro k t s p q h a ht hp hs pi hq
    obtain ⟨Q, hQ⟩ : ∃ Q, Q = moC g f (r + 1) s p q := ⟨_, rfl⟩
    rw [← hQ]
    rw [moC] at hQ
    obtain ⟨F, hF⟩ : ∃ F : Nat → Qs → Qs, F = mo1 g f s (fun oth q => moC g f r (mtG g s f oth) (p ++ [nI oth]) q) := ⟨_, rfl⟩
    rw [← hF] at hQ
    have OU : ∀ fu i (q : Qs) H, MI B H g → i + fu = gN g → CQ H w p q → (∀ j, j ≤ 3 + t → H.1 40 j = h.1 40 j) → Q = lpF F (8 - i) i q → WP alM mX12_goCareer (k + 321 + (r + 1)) (fun _ h' => MI B h' g ∧ CQ h' w p Q ∧ ∀ i, i ≤ 3 + t → h'.1 40 i = h.1 40 i) 77 [some (vR 12 0), some (vI (nI f)), some (vI (nI t)), some (vI (nI w)), some (vR 40 (3 + t)), some (vI (nI i))] [] H := by
      intro fu
      induction fu with
      | zero =>
        intro i q H aH hi cq er e
        have ei : lpF F (8 - i) i q = q := lpF_id _ _ _ (fun i' h1 h2 => by
          rw [hF]
          unfold mo1
          rw [if_neg (fun c => by have := (hnF_yes hn c (by omega) (by omega)).2.1; omega)])
        rw [ei] at e
        rw [← e] at cq
        exact wp_at tX12_goCareer [] 20 77 okM kX12_goCareer ⟨fun _ => ⟨aH, cq, er⟩, fun c => absurd (by rw [aH.n1]; exact nI_le (show gN g ≤ i by omega) (by omega)) c⟩
      | succ fu IHo =>
        intro i q H aH hi cq er e
        rw [show 8 - i = (8 - (i + 1)) + 1 by omega, lpF] at e
        have SK : ∀ H q', MI B H g → CQ H w p q' → (∀ j, j ≤ 3 + t → H.1 40 j = h.1 40 j) → F i q = q' → WP alM mX12_goCareer (k + 321 + (r + 1)) (fun _ h' => MI B h' g ∧ CQ h' w p Q ∧ ∀ i, i ≤ 3 + t → h'.1 40 i = h.1 40 i) 148 [some (vR 12 0), some (vI (nI f)), some (vI (nI t)), some (vI (nI w)), some (vR 40 (3 + t)), some (vI (nI i))] [] H := by
          intro H q' aH cq er es
          rw [es] at e
          have := IHo (i + 1) q' H aH (by omega) cq er e
          rw [← nI_add i 1] at this
          exact wp_at tX12_goCareer [(77, [true, true, true, true, true, true])] 20 148 okM kX12_goCareer this
        have esF : F i q = if hnF (gN g) s (nI f) (nI i) = 0 then moC g f r (mtG g s f i) (p ++ [nI i]) q else q := by rw [hF]; rfl
        have hsH : H.1 40 (3 + t) = mS s := by rw [er _ (Nat.le_refl _)]; exact hs
        have mr := c_mrefuse (k := k + 318 + r) (x := nI f) (y := nI i) aH.n1 hn hsH
        rw [show k + 318 + r + 3 = k + 321 + r by omega] at mr
        refine wp_at tX12_goCareer [(148, [true, true, true, true, true, true])] 80 77 okM kX12_goCareer ⟨fun c => absurd c (by rw [aH.n1]; exact nI_ge (by omega) (by omega)), fun _ => ⟨_, mr, ?_⟩⟩
        rintro v H1 ⟨rfl, rfl⟩
        refine ⟨fun c => ?_, fun c => SK H1 q aH cq er (by rw [esF, if_neg (fun y => c (by rw [y]; exact Int32.le_refl _))])⟩
        have hz : hnF (gN g) s (nI f) (nI i) = 0 := Classical.byContradiction fun y => absurd (hnF_neg y) (i_ltn c)
        obtain ⟨-, hi', hne, f1, f2⟩ := hnF_yes hn hz (by omega) (by omega)
        rw [if_pos hz] at esF
        have piN := (PI_mt hn z.r iv.sw hf hi' hne pi f1 f2).1
        have mem1 : (40, 3 + (t + 1)) ∈ scA := by
          have : t = 0 ∨ t = 1 ∨ t = 2 ∨ t = 3 := by omega
          rcases this with y | y | y | y <;> rw [y] <;> simp [scA]
        refine ⟨by rw [nI_add]; exact ix1 5 (by omega), ?_⟩
        rw [nI_add, nI_clamp (show t + 1 < 2 ^ 31 by omega)]
        refine ⟨_, c_layS (i := 3 + t) (i2 := 3 + (t + 1)) (by omega), ?_⟩
        rintro v H2 rfl
        rw [hsH]
        obtain ⟨H2, hH2⟩ : ∃ H2, H2 = sV H1 40 (3 + (t + 1)) (mS s) := ⟨_, rfl⟩
        rw [← hH2]
        have fm2 : Fm [(40, 3 + (t + 1))] [] H1 H2 := by rw [hH2]; exact Fm.rf.sV (by simp) (by decide)
        have a2 : MI B H2 g := aH.scr fm2 (by intro x hx; simp at hx; rw [hx]; exact mem1) (by simp)
        refine ⟨by rw [nI_add]; exact ix1 5 (by omega), ?_⟩
        have gf := c_goFight (k := k + 1 + r) (i := 3 + (t + 1)) (a2.ww z iv) (by rw [hH2]; exact sV_same) hf hi' hne pi f1 f2
        rw [show k + 1 + r + 320 = k + 321 + r by omega] at gf
        refine ⟨_, ct_cv gf (congrArg (fun x => [vR 12 0, vR 40 (3 + x), vI (nI f), vI (nI i)]) (show (nI t + nI 1).toNatClampNeg = t + 1 by rw [nI_add, nI_clamp (by omega)])) rfl, ?_⟩
        rintro v H3 ⟨rfl, fm3, e3, -⟩
        have a3 : MI B H3 g := a2.scr fm3 (by intro x hx; simp [goS] at hx; rcases hx with y | y <;> rw [y]; exact mem1; simp [scA]) (by simp [goI, scI])
        refine ⟨ix1 8 (by omega), ?_⟩
        rw [nI_clamp (show t < 2 ^ 31 by omega)]
        have a4 : MI B (sX H3 49 0 t (nI i)) g := a3.scr (S := [(49, 0)]) (F := []) (Fm.rf.sX (by simp) (by decide)) (by simp [scA]) (by simp)
        have q4 : CQ (sX H3 49 0 t (nI i)) w (p ++ [nI i]) q := by
          refine ⟨?_, bcQ_cg cq.2 ?_ ?_⟩
          · intro j x hj
            rw [rdX]
            by_cases c : j < p.length
            · rw [List.getElem?_append_left c] at hj
              rw [if_neg (by simp; omega), fm3.2.2.1 49 0 (by simp) (by simp [goS]), fm2.2.2.1 49 0 (by simp) (by simp)]
              exact cq.1 j x hj
            · rw [List.getElem?_append_right (by omega)] at hj
              have l := (List.getElem?_eq_some_iff.mp hj).1
              simp at l
              have : j = t := by omega
              subst this
              rw [← hp, Nat.sub_self] at hj
              cases hj
              rw [if_pos (by simp)]
          · rw [rdX, if_neg (by simp), fm3.2.2.2 35 (by simp [goI]), fm2.2.2.2 35 (by simp)]
          · rw [sX_row, if_neg (by simp), fm3.2.2.1 50 0 (by simp) (by simp [goS]), fm2.2.2.1 50 0 (by simp) (by simp)]
        have r4 : ∀ j, j ≤ 3 + t → (sX H3 49 0 t (nI i)).1 40 j = h.1 40 j := by
          intro j hj
          rw [sX_row, if_neg (by simp), fm3.2.2.1 40 j (by simp) (by simp [goS]; omega), fm2.2.2.1 40 j (by simp) (by simp; omega)]
          exact er j hj
        refine ⟨_, ct_cv (IH k (t + 1) (mtG g s f i) (p ++ [nI i]) q _ a4 (by omega) (by rw [List.length_append, hp]; rfl) (by rw [sX_row, if_neg (by simp)]; exact e3) piN q4) (by rw [nI_add]) rfl, ?_⟩
        rintro v H5 ⟨a5, q5, r5⟩
        exact SK H5 _ a5 ⟨pin_pre q5.1, q5.2⟩ (fun j hj => by rw [r5 j (by omega)]; exact r4 j hj) esF
    refine ct_vc tX12_goCareer [(77, [true, true, true, true, true, true])] 30 okM kX12_goCareer rfl ?_
    refine ⟨ix1 5 (by omega), fun _ => ?_, fun c => absurd (nn c) (fun y => absurd (nI_inj (by omega) (by omega) y) (by omega))⟩
    rw [nI_clamp (by omega)]
    exact OU (gN g) 0 q h a (by omega) hq (fun _ _ => rfl) hQ
theorem m_Career {B D k : Nat} {h : Hp} {g : GS} {x n : Int32} (a : MI B h g) (z : Sz g) (iv : Inv D g) : Ct alM mX12_career (k + 326) [vR 12 0, vI x, vI n] h (fun v h' => v = vI (aCareer g x n) ∧ MI B h' (nCareer g x n)) := by
  have hn := z.1
  have a0 := a.fld (j := 10) (x := nI 0) (by decide)
  have NO : ¬ okCa g x n = true → WP alM mX12_career (k + 326) (fun v h' => v = vI (aCareer g x n) ∧ MI B h' (nCareer g x n)) 22 [none, none, none, none] [] (sX h 12 0 10 (nI 0)) := by
    intro hno
    refine wp_at tX12_career [] 10 22 okM kX12_career ?_
    unfold aCareer nCareer
    rw [if_neg hno, if_neg hno]
    exact ⟨rfl, a0⟩
  refine ct_vc tX12_career [(22, [false, false, false, false]), (68, [true, false, true, true])] 80 okM kX12_career rfl ?_
  refine ⟨_, c_isMan a0.n1 hn, ?_⟩
  rintro v h1 ⟨rfl, rfl⟩
  refine ⟨fun c => NO (fun y => by rw [(and3 y).1] at c; exact absurd c (by decide)), fun c => ⟨_, c_min, ?_⟩⟩
  rintro v h1 ⟨rfl, rfl⟩
  refine ⟨fun c2 => ?_, fun c2 => NO (fun y => by rw [(and3 y).2] at c2; exact c2 (by decide))⟩
  have q1 := b2_n0.mp c
  have q2 := b2_n0.mp c2
  have hok : okCa g x n = true := by unfold okCa; rw [q1, q2]; rfl
  unfold aCareer nCareer
  simp only [if_pos hok]
  obtain ⟨p, hp, rfl⟩ := hasN_get q1 (by omega)
  obtain ⟨w, hw1, hw2, rfl⟩ := inB_get q2 (by omega) (by omega)
  rw [nI_clamp (show p < 2 ^ 31 by omega), nI_clamp (show w < 2 ^ 31 by omega)]
  refine ⟨ix1 (j := 0) 5 (by omega), ?_⟩
  refine ⟨_, c_layS (i := 0) (i2 := 3) (by omega), ?_⟩
  rintro v h2 rfl
  rw [a0.1.1]
  have a1 : MI B (sV (sX h 12 0 10 (nI 0)) 40 3 (mS (gS g))) g := a0.scr (S := [(40, 3)]) (F := []) (Fm.rf.sV (by simp) (by decide)) (by simp [scA]) (by simp)
  have a2 := a1.fld (j := 35) (x := -(nI 1)) (by decide)
  have bq0 : BQ none := fun _ _ _ y => by cases y
  obtain ⟨em, -⟩ := adC_mo z iv hp w (gS g) [] none hw2 iv.pi bq0 (fun y => by omega)
  have gc := c_goCareer (B := B) z iv hp hw2 w (k + 4 - w) 0 (gS g) [] none _ a2 (by omega) rfl (by rw [sX_row, if_neg (by simp)]; exact sV_same) iv.pi ⟨fun j x hj => by simp at hj, by show _ = _; rw [rdX, if_pos (by simp)]⟩
  rw [show k + 4 - w + 321 + w = k + 325 by omega] at gc
  refine ⟨_, gc, ?_⟩
  have eq : moC g p w (gS g) [] none = cqG g p w := em.symm
  rw [eq]
  rintro v h3 ⟨a3, cq, -⟩
  cases hq : cqG g p w with
  | none =>
    rw [hq] at cq
    have e35 : h3.1 12 0 35 = -(nI 1) := cq.2
    exact ⟨fun c => absurd e35 c, fun _ => ⟨rfl, a3⟩⟩
  | some bp =>
    obtain ⟨bb, bg, bl⟩ := bp
    rw [hq] at cq
    obtain ⟨⟨vb, hvb, rfl⟩, -, e35, hlen, hpin⟩ := cq.2
    have hne : ¬ nI vb = -(nI 1) := fun y => by
      have := n1lt vb (by omega)
      rw [y] at this
      exact Int32.lt_irrefl this
    have hr : ¬ resC (some (nI vb, bg, bl)) = -(nI 1) := hne
    simp only [if_neg hr]
    refine ⟨fun _ => ?_, fun c => absurd (nn c) (by rw [e35]; exact hne)⟩
    have L : ∀ t, t ≤ w → ∀ h4, MI B h4 (uL g ((bl.take t).map Int32.toInt64)) → h4.1 50 0 = h3.1 50 0 → h4.1 12 0 35 = nI vb → WP alM mX12_career (k + 326) (fun v h' => v = vI (nI vb) ∧ MI B h' (uL g (bl.map Int32.toInt64))) 68 [some (vR 12 0), none, some (vI (nI w)), some (vI (nI t))] [] h4 := by
      refine loop_up w ?_ (fun t ht ih => ?_)
      · intro h4 a4 e4 e5
        refine wp_at tX12_career [] 20 68 okM kX12_career ⟨fun _ => ⟨?_, ?_⟩, fun c => absurd (nI_le (Nat.le_refl _) (by omega)) c⟩
        · show vI (h4.1 12 0 35) = _
          rw [e5]
        · rw [List.take_of_length_le (by omega)] at a4
          exact a4
      · intro h4 a4 e4 e5
        rw [← nI_add t 1] at ih
        have hbt : bl[t]? = some bl[t] := List.getElem?_eq_getElem (by omega)
        have e6 : h4.1 50 0 t = bl[t] := by rw [e4]; exact hpin t _ hbt
        refine wp_at tX12_career [(68, [true, false, true, true])] 40 68 okM kX12_career ⟨fun c => absurd c (nI_ge ht (by omega)), fun _ => ⟨ix1 8 (by omega), _, c_tellR a4 ?_, ?_⟩⟩
        · show ((bl.take t).map Int32.toInt64).length < 16
          rw [List.length_map, List.length_take]; omega
        · rintro v h5 ⟨a5, k5, j5, -⟩
          refine ih h5 ?_ (by rw [k5 50 0 (by simp)]; exact e4) (by rw [j5 35 (by simp)]; exact e5)
          rw [nI_clamp (by omega), e6] at a5
          rw [take_s hbt]
          exact a5
    exact L 0 (Nat.zero_le _) _ a3.clr (by rw [sX_row, if_neg (by simp)]) (by rw [rdX, if_neg (by simp)]; exact e35)
