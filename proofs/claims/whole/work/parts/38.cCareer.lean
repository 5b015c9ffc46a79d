/-! class Search: careers -/
/-- what fights rest on: the FIGHTERS, the RULE, the crowd, SWORD -/
def Wd (h : Hp) (n b : Nat) (c : List Int32) (R : Nat → Nat → Int32) (lsp sw : Int32) : Prop := h.1 3 0 3 = nI n ∧ n ≤ 8 ∧ ro h 0 = R ∧ RoK R n ∧ h.2.2 0 = b ∧ RuK h b c ∧ h.1 1 0 1 = lsp ∧ h.1 0 0 4 = sw
theorem Wd.go {S : List Ad} {h h' : Hp} {n b : Nat} {c : List Int32} {R : Nat → Nat → Int32} {lsp sw : Int32} (a : Wd h n b c R lsp sw) (f : Fr S h h') (h1 : (3, 0) ∉ S) (h2 : ∀ p, (38, 5 * 0 + p) ∉ S) (h3 : (6, b) ∉ S) (h4 : (26, b) ∉ S) (h5 : (1, 0) ∉ S) (h6 : (0, 0) ∉ S) : Wd h' n b c R lsp sw := by
  obtain ⟨a1, a2, a3, a4, a5, a6, a7, a8⟩ := a
  exact ⟨by rw [f.2 3 0 h1, a1], a2, by rw [ro_fr f h2, a3], a4, by rw [f.1, a5], a6.go f h3 h4, by rw [f.2 1 0 h5, a7], by rw [f.2 0 0 h6, a8]⟩
theorem c_meetW {k n i b : Nat} {h : Hp} {x y : Int32} {c : List Int32} {R : Nat → Nat → Int32} {lsp sw : Int32} (w : Wd h n b c R lsp sw) : Ct alC mX0_meet (k + 4) [vR 0 0, vR 8 i, vI x, vI y] h (fun v h' => v = vI (if hnF n (h.1 33 i) x y = 0 then nI (wnF c R (h.1 33 i) x.toNatClampNeg y.toNatClampNeg) else hnF n (h.1 33 i) x y) ∧ Fr [(33, i), (27, b)] h h' ∧ h'.1 33 i = if hnF n (h.1 33 i) x y = 0 then mtF c R lsp sw (h.1 33 i) x.toNatClampNeg y.toNatClampNeg else h.1 33 i) := by
  obtain ⟨a1, a2, a3, a4, a5, a6, a7, a8⟩ := w
  have := c_meet (k := k) (i := i) (x := x) (y := y) a1 a2 (by rw [a3]; exact a4) a5 a6
  rw [a3, a7, a8] at this
  exact this
theorem hnF_cs {n : Nat} {s : Nat → Int32} {x y : Int32} : hnF n s x y = 0 ∨ hnF n s x y = -(nI 1) ∨ hnF n s x y = -(nI 2) ∨ hnF n s x y = -(nI 3) := by
  unfold hnF
  split
  · split
    · split
      · exact Or.inl rfl
      · simp
    · simp
  · simp
theorem hnF_neg {n : Nat} {s : Nat → Int32} {x y : Int32} (h : ¬ hnF n s x y = 0) : hnF n s x y < 0 := by
  rcases hnF_cs (n := n) (s := s) (x := x) (y := y) with e | e | e | e
  · exact absurd e h
  · rw [e]; decide
  · rw [e]; decide
  · rw [e]; decide
theorem hnF_in {n : Nat} {s : Nat → Int32} {x y : Int32} (hn : n ≤ 8) (h : hnF n s x y = 0) : ∃ a d, a < n ∧ d < n ∧ a ≠ d ∧ x = nI a ∧ y = nI d := by
  have hall : hasN x n = true ∧ hasN y n = true ∧ x ≠ y := by
    unfold hnF at h
    split at h
    · assumption
    · exact absurd h (by decide)
  obtain ⟨a, ha, rfl⟩ := hasN_get hall.1 (by omega)
  obtain ⟨d, hd, rfl⟩ := hasN_get hall.2.1 (by omega)
  exact ⟨a, d, ha, hd, fun z => hall.2.2 (by rw [z]), rfl, rfl⟩
theorem wnF_in {c : List Int32} {R : Nat → Nat → Int32} {s : Nat → Int32} {a d : Nat} : wnF c R s a d = a ∨ wnF c R s a d = d := by
  unfold wnF
  split
  · exact Or.inl rfl
  · exact Or.inr rfl
theorem meet_sg {n : Nat} {s : Nat → Int32} {x y : Int32} {c : List Int32} {R : Nat → Nat → Int32} (hn : n ≤ 8) : (if hnF n s x y = 0 then nI (wnF c R s x.toNatClampNeg y.toNatClampNeg) else hnF n s x y) < 0 ↔ ¬ hnF n s x y = 0 := by
  constructor
  · intro h e
    rw [if_pos e] at h
    obtain ⟨a, d, ha, hd, -, rfl, rfl⟩ := hnF_in hn e
    rw [nI_clamp (by omega), nI_clamp (by omega)] at h
    rcases wnF_in (c := c) (R := R) (s := s) (a := a) (d := d) with z | z
    · rw [z] at h; exact (i_ltn (nI_le (Nat.zero_le a) (by omega))) h
    · rw [z] at h; exact (i_ltn (nI_le (Nat.zero_le d) (by omega))) h
  · intro e
    rw [if_neg e]
    exact hnF_neg e
/-- nothing better is left -/
def prB (q : Qs) (fav : Int32) (r : Nat) : Bool := match q with
  | some (b, _, _) => decide (mnI (nI 99) (fav + nI 10 * nI r) ≤ b)
  | none => false
def adC (c : List Int32) (R : Nat → Nat → Int32) (lsp sw : Int32) (n f : Nat) : Nat → (Nat → Int32) → List Int32 → Qs → Qs
  | 0, s, p, q => cmpQ q (s f) (nI 0) p
  | r + 1, s, p, q => if prB q (s f) (r + 1) = true then q else lpF (fun oth q => if hnF n s (nI f) (nI oth) = 0 ∧ ¬ mtF c R lsp sw s f oth (32 + f) = nI 1 then adC c R lsp sw n f r (mtF c R lsp sw s f oth) (p ++ [nI oth]) q else q) 8 0 q
def sfS (b : Nat) : List Ad := [(7, 0), (31, 0), (32, 0), (27, b), (33, 18), (33, 19), (33, 20), (33, 21)]
theorem c_addFight {n b f w : Nat} {c : List Int32} {R : Nat → Nat → Int32} {lsp sw : Int32} (hf : f < n) (hw : w ≤ 4) : ∀ (r K : Nat) (h : Hp) (p : List Int32) (q : Qs), p.length + r = w → r + 5 ≤ K → Wd h n b c R lsp sw → SQ h w p q → h.1 7 0 7 = nI f → Ct alC mX7_addFight K [vR 7 0, vI (nI p.length)] h (fun _ h' => Fr (sfS b) h h' ∧ (∀ j, j ≤ 17 + p.length → h'.1 33 j = h.1 33 j) ∧ h'.1 7 0 7 = nI f ∧ SQ h' w p (adC c R lsp sw n f r (h.1 33 (17 + p.length)) p q)) := by
  intro r
  induction r with
  | zero =>
    intro K h p q h1 h2 wd hq h7
    obtain ⟨K, rfl⟩ : ∃ K', K = K' + 2 := ⟨K - 2, by omega⟩
    have hn := wd.2.1
    refine ct_vc tX7_addFight [] 40 okC kX7_addFight rfl ⟨ix1 5 (by omega), fun _ => ?_, fun c => ?_⟩
    · rw [nI_clamp (by omega)]
      refine ⟨_, ct_cv (c_favour (j := f) (by omega)) (congrArg (fun x => [vR 8 (17 + p.length), vI x]) h7) rfl, ?_⟩
      rintro v h' ⟨rfl, rfl⟩
      refine ⟨_, c_compare hq hw (by omega), ?_⟩
      rintro v h2 ⟨f1, f7, g⟩
      exact ⟨f1.mo (by simp [seS, sfS]), fun j _ => f1.2 33 j (by simp [seS]), by rw [f7, h7], g⟩
    · exfalso
      have c' : ¬ h.1 7 0 6 ≤ nI p.length := c
      rw [hq.1] at c'
      exact c' (nI_le (by omega) (by omega))
  | succ r ihr =>
    intro K h p q h1 h2 wd hq h7
    obtain ⟨K, rfl⟩ : ∃ K', K = K' + 1 := ⟨K - 1, by omega⟩
    obtain ⟨K1, rfl⟩ : ∃ K', K = K' + 4 := ⟨K - 4, by omega⟩
    have hn := wd.2.1
    have r18 : (33, 17 + (p.length + 1)) ∈ sfS b := by
      have : p.length = 0 ∨ p.length = 1 ∨ p.length = 2 ∨ p.length = 3 := by omega
      rcases this with e | e | e | e <;> rw [e] <;> simp [sfS]
    have LP : ∀ t o h' q', o + t = 8 → Fr (sfS b) h h' → (∀ j, j ≤ 17 + p.length → h'.1 33 j = h.1 33 j) → h'.1 7 0 7 = nI f → SQ h' w p q' → WP alC mX7_addFight (K1 + 4 + 1) (fun _ h' => Fr (sfS b) h h' ∧ (∀ j, j ≤ 17 + p.length → h'.1 33 j = h.1 33 j) ∧ h'.1 7 0 7 = nI f ∧ SQ h' w p (lpF (fun oth q => if hnF n (h.1 33 (17 + p.length)) (nI f) (nI oth) = 0 ∧ ¬ mtF c R lsp sw (h.1 33 (17 + p.length)) f oth (32 + f) = nI 1 then adC c R lsp sw n f r (mtF c R lsp sw (h.1 33 (17 + p.length)) f oth) (p ++ [nI oth]) q else q) t o q')) 84 [some (vR 7 0), some (vI (nI p.length)), some (vR 8 (17 + p.length)), some (vR 8 (17 + (p.length + 1))), some (vI (nI o))] [] h' := by
      intro t
      induction t with
      | zero =>
        intro o h' q' e1 f1 f2 f7 hq'
        exact wp_at tX7_addFight [] 10 84 okC kX7_addFight ⟨fun _ => ⟨f1, f2, f7, hq'⟩, fun c => absurd (nI_le (show 8 ≤ o by omega) (by omega)) c⟩
      | succ t iht =>
        intro o h' q' e1 f1 f2 f7 hq'
        rw [lpF]
        have NX : ∀ h2 q2, Fr (sfS b) h h2 → (∀ j, j ≤ 17 + p.length → h2.1 33 j = h.1 33 j) → h2.1 7 0 7 = nI f → SQ h2 w p q2 → WP alC mX7_addFight (K1 + 4 + 1) (fun _ h' => Fr (sfS b) h h' ∧ (∀ j, j ≤ 17 + p.length → h'.1 33 j = h.1 33 j) ∧ h'.1 7 0 7 = nI f ∧ SQ h' w p (lpF (fun oth q => if hnF n (h.1 33 (17 + p.length)) (nI f) (nI oth) = 0 ∧ ¬ mtF c R lsp sw (h.1 33 (17 + p.length)) f oth (32 + f) = nI 1 then adC c R lsp sw n f r (mtF c R lsp sw (h.1 33 (17 + p.length)) f oth) (p ++ [nI oth]) q else q) t (o + 1) q2)) 139 [some (vR 7 0), some (vI (nI p.length)), some (vR 8 (17 + p.length)), some (vR 8 (17 + (p.length + 1))), some (vI (nI o))] [] h2 := by
          intro h2 q2 g1 g2 g7 g8
          have := iht (o + 1) h2 q2 (by omega) g1 g2 g7 g8
          rw [← nI_add o 1] at this
          exact wp_at tX7_addFight [(84, [true, true, true, true, true])] 10 139 okC kX7_addFight this
        refine wp_at tX7_addFight [(139, [true, true, true, true, true])] 60 84 okC kX7_addFight ⟨fun c => absurd c (nI_ge (show o < 8 by omega) (by omega)), fun _ => ⟨_, c_take, ?_⟩⟩
        rintro v h2 rfl
        have es : h'.1 33 (17 + p.length) = h.1 33 (17 + p.length) := f2 _ (Nat.le_refl _)
        rw [es]
        have fA : Fr (sfS b) h (sV h' 33 (17 + (p.length + 1)) (h.1 33 (17 + p.length))) := Fr.sV f1 r18
        have wd2 : Wd (sV h' 33 (17 + (p.length + 1)) (h.1 33 (17 + p.length))) n b c R lsp sw := wd.go fA (by simp [sfS]) (by simp [sfS]) (by simp [sfS]) (by simp [sfS]) (by simp [sfS]) (by simp [sfS])
        have e7 : (sV h' 33 (17 + (p.length + 1)) (h.1 33 (17 + p.length))).1 7 0 = h'.1 7 0 := by rw [rdV, if_neg (by simp)]
        refine ⟨_, ct_cv (c_meetW (x := nI f) (y := nI o) wd2) (congrArg (fun x => [vR 0 0, vR 8 (17 + (p.length + 1)), vI x, vI (nI o)]) (by rw [e7, f7])) rfl, ?_⟩
        rw [sV_same, nI_clamp (show f < 2 ^ 31 by omega), nI_clamp (show o < 2 ^ 31 by omega)]
        rintro v h3 ⟨rfl, g1, g2⟩
        have fB : Fr (sfS b) h h3 := fA.tr g1 (by intro x hx; simp at hx; rcases hx with rfl | rfl; exact r18; simp [sfS])
        have fB2 : ∀ j, j ≤ 17 + p.length → h3.1 33 j = h.1 33 j := by
          intro j hj
          rw [g1.2 33 j (by simp; omega), rdV, if_neg (by omega), f2 j hj]
        have e7' : h3.1 7 0 = h'.1 7 0 := by rw [g1.2 7 0 (by simp), e7]
        have hq3 : SQ h3 w p q' := by
          refine ⟨by rw [e7']; exact hq'.1, ?_, ?_⟩
          · rw [g1.2 31 0 (by simp), rdV, if_neg (by simp)]; exact hq'.2.1
          · rw [e7', g1.2 32 0 (by simp), rdV, if_neg (by simp)]; exact hq'.2.2
        have hsg := meet_sg (n := n) (s := h.1 33 (17 + p.length)) (x := nI f) (y := nI o) (c := c) (R := R) hn
        rw [nI_clamp (show f < 2 ^ 31 by omega), nI_clamp (show o < 2 ^ 31 by omega)] at hsg
        refine ⟨fun c1 => ?_, fun c1 => ?_⟩
        · have c2 := hsg.mp c1
          rw [if_neg (fun z => c2 z.1)]
          exact NX h3 q' fB fB2 (by rw [e7', f7]) hq3
        · have c2 : hnF n (h.1 33 (17 + p.length)) (nI f) (nI o) = 0 := Classical.byContradiction fun z => c1 (hsg.mpr z)
          rw [if_pos c2] at g2
          refine ⟨_, ct_cv (c_isDead (j := f) (by omega)) (congrArg (fun x => [vR 8 (17 + (p.length + 1)), vI x]) (by rw [e7', f7])) rfl, ?_⟩
          rintro v h4 ⟨rfl, rfl⟩
          rw [g2]
          refine ⟨fun c3 => ?_, fun c3 => ?_⟩
          · rw [if_neg (fun z => z.2 (of_decide_eq_true (b2_n0.mp c3)))]
            exact NX h4 q' fB fB2 (by rw [e7', f7]) hq3
          · rw [if_pos ⟨c2, of_decide_eq_false (b2_0.mp (nn c3))⟩]
            refine ⟨ix1 4 (by omega), ?_⟩
            rw [nI_clamp (show p.length < 2 ^ 31 by omega)]
            have fC : Fr (sfS b) h (sX h4 31 0 p.length (nI o)) := Fr.sX fB (by simp [sfS])
            have k7 : (sX h4 31 0 p.length (nI o)).1 7 0 = h'.1 7 0 := by rw [sX_row, if_neg (by simp), e7']
            have hq4 : SQ (sX h4 31 0 p.length (nI o)) w (p ++ [nI o]) q' := by
              refine ⟨by rw [k7]; exact hq'.1, ?_, ?_⟩
              · rw [sX_row, if_pos (by simp)]; exact pin_app hq3.2.1
              · rw [k7, sX_row, if_neg (by simp), ← e7']; exact hq3.2.2
            have el : (p ++ [nI o]).length = p.length + 1 := by simp
            have hC := ihr (K1 + 4) (sX h4 31 0 p.length (nI o)) (p ++ [nI o]) q' (by rw [el]; omega) (by omega) (wd.go fC (by simp [sfS]) (by simp [sfS]) (by simp [sfS]) (by simp [sfS]) (by simp [sfS]) (by simp [sfS])) hq4 (by rw [k7, f7])
            rw [el] at hC
            refine ⟨_, ct_cv hC (by rw [← nI_add p.length 1]) rfl, ?_⟩
            have es3 : (sX h4 31 0 p.length (nI o)).1 33 (17 + (p.length + 1)) = mtF c R lsp sw (h.1 33 (17 + p.length)) f o := by rw [sX_row, if_neg (by simp), g2]
            rw [es3]
            rintro v h5 ⟨k1, k2, k3, k4⟩
            refine NX h5 _ (fC.tr k1 (fun _ z => z)) (fun j hj => ?_) k3 ⟨k4.1, pin_pre k4.2.1, k4.2.2⟩
            rw [k2 j (by omega), sX_row, if_neg (by simp), fB2 j hj]
    have ST : WP alC mX7_addFight (K1 + 4 + 1) (fun _ h' => Fr (sfS b) h h' ∧ (∀ j, j ≤ 17 + p.length → h'.1 33 j = h.1 33 j) ∧ h'.1 7 0 7 = nI f ∧ SQ h' w p (lpF (fun oth q => if hnF n (h.1 33 (17 + p.length)) (nI f) (nI oth) = 0 ∧ ¬ mtF c R lsp sw (h.1 33 (17 + p.length)) f oth (32 + f) = nI 1 then adC c R lsp sw n f r (mtF c R lsp sw (h.1 33 (17 + p.length)) f oth) (p ++ [nI oth]) q else q) 8 0 q)) 72 [some (vR 7 0), some (vI (nI p.length)), some (vR 8 (17 + p.length)), none, none] [] h := by
      have ix : vp_in (nI p.length + nI 1) 5 := by rw [nI_add]; exact ix1 5 (by omega)
      have ic : (nI p.length + nI 1).toNatClampNeg = p.length + 1 := by rw [nI_add]; exact nI_clamp (by omega)
      refine wp_at tX7_addFight [(84, [true, true, true, true, true])] 20 72 okC kX7_addFight ⟨ix, ?_⟩
      rw [ic]
      exact LP 8 0 h q rfl Fr.rf (fun _ _ => rfl) h7 hq
    have ew : nI w - nI p.length = nI (r + 1) := by
      rw [← h1, Nat.add_comm, ← nI_add]
      exact Int32.add_sub_cancel _ _
    rw [adC]
    refine ct_vc tX7_addFight [(72, [true, true, true, false, false])] 60 okC kX7_addFight rfl ⟨ix1 5 (by omega), fun c => ?_, fun _ => ⟨fun _ => ?_, fun c => absurd (nI_lt (show p.length < 4 by omega) (by omega)) c⟩⟩
    · exfalso
      have c' : h.1 7 0 6 ≤ nI p.length := c
      rw [hq.1] at c'
      exact nI_ge (show p.length < w by omega) (by omega) c'
    · rw [nI_clamp (by omega)]
      have q3 := hq.2.2
      cases q with
      | none =>
        rw [if_neg (by show ¬ false = true; decide)]
        exact ⟨fun _ => ST, fun c => absurd q3 c⟩
      | some z =>
        obtain ⟨bb, bg, bp⟩ := z
        refine ⟨fun c => absurd (q3.1.symm.trans c) (by decide), fun _ => ⟨_, ct_cv (c_favour (j := f) (by omega)) (congrArg (fun x => [vR 8 (17 + p.length), vI x]) h7) rfl, ?_⟩⟩
        rintro v h' ⟨rfl, rfl⟩
        have eq1 : h'.1 33 (17 + p.length) f + nI 10 * (h'.1 7 0 6 - nI p.length) = h'.1 33 (17 + p.length) f + nI 10 * nI (r + 1) := by rw [hq.1, ew]
        refine ⟨fun c => ?_, fun c => ?_⟩
        · have c' : h'.1 7 0 9 < mnI (nI 99) (h'.1 33 (17 + p.length) f + nI 10 * (h'.1 7 0 6 - nI p.length)) := c
          rw [eq1, q3.2.1] at c'
          rw [if_neg (show ¬ prB (some (bb, bg, bp)) (h'.1 33 (17 + p.length) f) (r + 1) = true from fun z => i_len c' (of_decide_eq_true z))]
          exact ST
        · have c' : ¬ h'.1 7 0 9 < mnI (nI 99) (h'.1 33 (17 + p.length) f + nI 10 * (h'.1 7 0 6 - nI p.length)) := c
          rw [eq1, q3.2.1] at c'
          rw [if_pos (show prB (some (bb, bg, bp)) (h'.1 33 (17 + p.length) f) (r + 1) = true from dT (i_nlt c'))]
          exact ⟨Fr.rf, fun _ _ => rfl, h7, hq⟩
def resC (q : Qs) : Int32 := match q with
  | some (b, _, _) => b
  | none => -(nI 1)
def smS (b : Nat) : List Ad := (33, 17) :: sfS b
theorem c_mostFavour {K w n b f : Nat} {h : Hp} {c : List Int32} {R : Nat → Nat → Int32} {lsp sw : Int32} (hw : w ≤ 4) (hf : f < n) (wd : Wd h n b c R lsp sw) : Ct alC mX7_mostFavour (K + 10) [vR 7 0, vR 8 0, vI (nI f), vI (nI w)] h (fun v h' => v = vI (resC (adC c R lsp sw n f w (h.1 33 0) [] none)) ∧ Fr (smS b) h h' ∧ SQ h' w [] (adC c R lsp sw n f w (h.1 33 0) [] none)) := by
  refine ct_vc tX7_mostFavour [] 40 okC kX7_mostFavour rfl ⟨Or.inl rfl, ix1 5 (by omega), ?_⟩
  refine ⟨_, c_take, ?_⟩
  rintro v h' rfl
  have e0 : 17 + (nI 0).toNatClampNeg = 17 := by decide
  rw [e0]
  have fr : Fr (smS b) h (sV (sX (sX (sX h 7 0 6 (nI w)) 7 0 7 (nI f)) 7 0 8 (nI 0)) 33 17 ((sX (sX (sX h 7 0 6 (nI w)) 7 0 7 (nI f)) 7 0 8 (nI 0)).1 33 0)) := Fr.sV (Fr.sX (Fr.sX (Fr.sX Fr.rf (by simp [smS, sfS])) (by simp [smS, sfS])) (by simp [smS, sfS])) (by simp [smS])
  have hq : SQ (sV (sX (sX (sX h 7 0 6 (nI w)) 7 0 7 (nI f)) 7 0 8 (nI 0)) 33 17 ((sX (sX (sX h 7 0 6 (nI w)) 7 0 7 (nI f)) 7 0 8 (nI 0)).1 33 0)) w [] none := by
    refine ⟨?_, fun j x hj => by simp at hj, ?_⟩
    · rw [rdVj, if_neg (by simp), rdX, if_neg (by simp), rdX, if_neg (by simp), rdX, if_pos (by simp)]
    · show (sV (sX (sX (sX h 7 0 6 (nI w)) 7 0 7 (nI f)) 7 0 8 (nI 0)) 33 17 _).1 7 0 8 = nI 0
      rw [rdVj, if_neg (by simp), rdX, if_pos (by simp)]
  have h7 : (sV (sX (sX (sX h 7 0 6 (nI w)) 7 0 7 (nI f)) 7 0 8 (nI 0)) 33 17 ((sX (sX (sX h 7 0 6 (nI w)) 7 0 7 (nI f)) 7 0 8 (nI 0)).1 33 0)).1 7 0 7 = nI f := by
    rw [rdVj, if_neg (by simp), rdX, if_neg (by simp), rdX, if_pos (by simp)]
  have e33 : (sV (sX (sX (sX h 7 0 6 (nI w)) 7 0 7 (nI f)) 7 0 8 (nI 0)) 33 17 ((sX (sX (sX h 7 0 6 (nI w)) 7 0 7 (nI f)) 7 0 8 (nI 0)).1 33 0)).1 33 17 = h.1 33 0 := by
    rw [sV_same, sX_row, if_neg (by simp), sX_row, if_neg (by simp), sX_row, if_neg (by simp)]
  refine ⟨_, c_addFight hf hw w _ _ [] none (by simp) (by omega) (wd.go fr (by simp [smS, sfS]) (by simp [smS, sfS]) (by simp [smS, sfS]) (by simp [smS, sfS]) (by simp [smS, sfS]) (by simp [smS, sfS])) hq h7, ?_⟩
  rw [show 17 + ([] : List Int32).length = 17 from rfl, e33]
  rintro v h' ⟨f1, -, -, g2⟩
  have f2 : Fr (smS b) h h' := fr.tr f1 (fun _ z => List.mem_cons_of_mem _ z)
  have g3 := g2.2.2
  refine ⟨fun c0 => ⟨?_, f2, g2⟩, fun c0 => ⟨?_, f2, g2⟩⟩
  · cases hz : adC c R lsp sw n f w (h.1 33 0) [] none with
    | none => rfl
    | some z =>
      rw [hz] at g3
      obtain ⟨b, g, p⟩ := z
      exact absurd (g3.1.symm.trans c0) (by decide)
  · cases hz : adC c R lsp sw n f w (h.1 33 0) [] none with
    | none =>
      rw [hz] at g3
      exact absurd g3 c0
    | some z =>
      rw [hz] at g3
      obtain ⟨b, g, p⟩ := z
      show vI (h'.1 7 0 9) = vI b
      rw [g3.2.1]
