/-! class Lines: reading -/
def arF (x : Int32) : Int32 := if x = nI 110 then nI 0 else if x = nI 115 then nI 1 else if x = nI 112 then nI 2 else if x = nI 108 then nI 3 else -(nI 1)
theorem c_armsOf {k : Nat} {h : Hp} {x : Int32} : Ct alC mX3_armsOf k [vI x] h (Rd h (arF x)) := by
  refine ct_vc tX3_armsOf [] 30 okC kX3_armsOf rfl ?_
  refine swP_of _ (fun q hq e => ?_) (fun hn => ?_)
  · simp only [prs, List.tail_cons, List.mem_cons, List.not_mem_nil, or_false] at hq
    subst e
    rcases hq with rfl | rfl | rfl | rfl | rfl | rfl | rfl | rfl <;> exact ⟨rfl, rfl⟩
  · refine ⟨?_, rfl⟩
    unfold arF
    rw [if_neg (hn (110, 48) (by decide)), if_neg (hn (115, 50) (by decide)), if_neg (hn (112, 52) (by decide)), if_neg (hn (108, 54) (by decide))]
/-- arms read -/
def raF (T : Nat → Int32) (n L p : Nat) : Int32 × Nat := if arF (pk T n L p) = -(nI 1) then (-(nI 1), p) else (arF (pk T n L p), p + 1)
theorem c_readArms {k : Nat} {h : Hp} {n L p : Nat} (hx : Tx h n L p) : Ct alC mX3_readArms (k + 1) [vR 9 0] h (Rt (raF (h.1 34 0) n L p).1 (sA h (raF (h.1 34 0) n L p).2)) := by
  refine ct_vc tX3_readArms [] 30 okC kX3_readArms rfl ?_
  refine ⟨_, c_peek hx, ?_⟩
  rintro v h' ⟨rfl, rfl⟩
  refine ⟨_, c_armsOf, ?_⟩
  rintro v h' ⟨rfl, rfl⟩
  unfold raF
  refine ⟨fun c => ?_, fun c => ?_⟩
  · have c' : arF (pk (h'.1 34 0) n L p) = -(nI 1) := c
    rw [if_pos c', c']
    exact ⟨rfl, (sA_same hx).symm⟩
  · have c' : ¬ arF (pk (h'.1 34 0) n L p) = -(nI 1) := c
    rw [if_neg c']
    refine ⟨rfl, ?_⟩
    show sX h' 9 0 2 (h'.1 9 0 2 + nI 1) = sX h' 9 0 2 (nI (p + 1))
    rw [hx.2.1, nI_add]
/-- a number above 0 -/
def rnF (T : Nat → Int32) (n L p : Nat) : Int32 × Nat := if (tkN T n L 2 p).1 = 0 then (-(nI 1), (tkN T n L 2 p).2 - 1) else tkN T n L 2 p
theorem tkN_le {T : Nat → Int32} {n L m p : Nat} (hp : p ≤ L) : (tkN T n L m p).2 ≤ L := by
  unfold tkN; exact (tkR_in _ _ _ _ hp).2
theorem tkN_1 {T : Nat → Int32} {n L m p : Nat} (h : (tkN T n L m p).1 = 0) : 1 ≤ (tkN T n L m p).2 := by
  have := (tkN_in (T := T) (n := n) (L := L) (m := m) (p := p) (by rw [h]; decide)).2.1
  omega
theorem c_readAbove {k : Nat} {h : Hp} {n L p : Nat} (hx : Tx h n L p) (hp : p ≤ L) : Ct alC mX3_readAboveNothing (k + 3) [vR 9 0] h (Rt (rnF (h.1 34 0) n L p).1 (sA h (rnF (h.1 34 0) n L p).2)) := by
  have hL := hx.2.2.2.2.1
  refine ct_vc tX3_readAboveNothing [] 30 okC kX3_readAboveNothing rfl ?_
  refine ⟨_, c_takeNumber (m := 2) hx (by omega) (by omega), ?_⟩
  rintro v h' ⟨rfl, rfl⟩
  unfold rnF
  refine ⟨fun c => ?_, fun c => ?_⟩
  · have c' : (tkN (h.1 34 0) n L 2 p).1 = 0 := c
    have h1 := tkN_1 c'
    have h2 := tkN_le (T := h.1 34 0) (n := n) (m := 2) hp
    rw [if_pos c']
    refine ⟨rfl, ?_⟩
    have e : (sA h (tkN (h.1 34 0) n L 2 p).2).1 9 0 2 - nI 1 = nI ((tkN (h.1 34 0) n L 2 p).2 - 1) := by
      rw [rdX, if_pos ⟨rfl, rfl, rfl⟩]
      obtain ⟨z, hz⟩ : ∃ z, (tkN (h.1 34 0) n L 2 p).2 = z + 1 := ⟨(tkN (h.1 34 0) n L 2 p).2 - 1, by omega⟩
      rw [hz]
      exact pk_sub (by omega)
    show sX (sA h (tkN (h.1 34 0) n L 2 p).2) 9 0 2 ((sA h (tkN (h.1 34 0) n L 2 p).2).1 9 0 2 - nI 1) = sA h ((tkN (h.1 34 0) n L 2 p).2 - 1)
    rw [e]
    exact sX_sX
  · rw [if_neg c]
    exact ⟨rfl, rfl⟩
/-- a part of a LINE by the form's sign -/
def rdP (T : Nat → Int32) (n L : Nat) (x : Int32) (p : Nat) : Int32 × Nat := if x = nI 97 then raF T n L p else if x = nI 43 then tkD T n L (nI 1) (nI 9) p else if x = nI 111 then tkD T n L (nI 0) (nI 3) p else if x = nI 100 then tkD T n L (nI 0) (nI 9) p else if x = nI 110 then tkN T n L 2 p else if x = nI 112 then rnF T n L p else (if (tkS T n L x p).1 = true then nI 0 else -(nI 1), (tkS T n L x p).2)
theorem rdP_a {T : Nat → Int32} {n L p : Nat} : rdP T n L (nI 97) p = raF T n L p := by unfold rdP; rw [if_pos rfl]
theorem rdP_1 {T : Nat → Int32} {n L p : Nat} : rdP T n L (nI 43) p = tkD T n L (nI 1) (nI 9) p := by unfold rdP; rw [if_neg (by decide), if_pos rfl]
theorem rdP_o {T : Nat → Int32} {n L p : Nat} : rdP T n L (nI 111) p = tkD T n L (nI 0) (nI 3) p := by unfold rdP; rw [if_neg (by decide), if_neg (by decide), if_pos rfl]
theorem rdP_d {T : Nat → Int32} {n L p : Nat} : rdP T n L (nI 100) p = tkD T n L (nI 0) (nI 9) p := by unfold rdP; rw [if_neg (by decide), if_neg (by decide), if_neg (by decide), if_pos rfl]
theorem rdP_n {T : Nat → Int32} {n L p : Nat} : rdP T n L (nI 110) p = tkN T n L 2 p := by unfold rdP; rw [if_neg (by decide), if_neg (by decide), if_neg (by decide), if_neg (by decide), if_pos rfl]
theorem rdP_p {T : Nat → Int32} {n L p : Nat} : rdP T n L (nI 112) p = rnF T n L p := by unfold rdP; rw [if_neg (by decide), if_neg (by decide), if_neg (by decide), if_neg (by decide), if_neg (by decide), if_pos rfl]
theorem c_readPart {k : Nat} {h : Hp} {n L p : Nat} {x : Int32} (hx : Tx h n L p) (hp : p ≤ L) : Ct alC mX3_readPart (k + 4) [vR 9 0, vI x] h (Rt (rdP (h.1 34 0) n L x p).1 (sA h (rdP (h.1 34 0) n L x p).2)) := by
  have hL := hx.2.2.2.2.1
  refine ct_vc tX3_readPart [] 30 okC kX3_readPart rfl ?_
  refine swP_of _ (fun q hq e => ?_) (fun hn => ?_)
  · simp only [prs, List.tail_cons, List.mem_cons, List.not_mem_nil, or_false] at hq
    subst e
    rcases hq with rfl | rfl | rfl | rfl | rfl | rfl
    · rw [show ((43, 65) : Nat × Nat).1 = 43 from rfl, rdP_1]; refine ⟨_, c_takeDigit hx, ?_⟩; rintro v h' ⟨rfl, rfl⟩; exact ⟨rfl, rfl⟩
    · rw [show ((97, 60) : Nat × Nat).1 = 97 from rfl, rdP_a]; refine ⟨_, c_readArms hx, ?_⟩; rintro v h' ⟨rfl, rfl⟩; exact ⟨rfl, rfl⟩
    · rw [show ((100, 80) : Nat × Nat).1 = 100 from rfl, rdP_d]; refine ⟨_, c_takeDigit hx, ?_⟩; rintro v h' ⟨rfl, rfl⟩; exact ⟨rfl, rfl⟩
    · rw [show ((110, 88) : Nat × Nat).1 = 110 from rfl, rdP_n]; refine ⟨_, c_takeNumber (m := 2) hx (by omega) (by omega), ?_⟩; rintro v h' ⟨rfl, rfl⟩; exact ⟨rfl, rfl⟩
    · rw [show ((111, 73) : Nat × Nat).1 = 111 from rfl, rdP_o]; refine ⟨_, c_takeDigit hx, ?_⟩; rintro v h' ⟨rfl, rfl⟩; exact ⟨rfl, rfl⟩
    · rw [show ((112, 94) : Nat × Nat).1 = 112 from rfl, rdP_p]; refine ⟨_, c_readAbove hx hp, ?_⟩; rintro v h' ⟨rfl, rfl⟩; exact ⟨rfl, rfl⟩
  · refine ⟨_, c_ttake hx, ?_⟩
    rintro v h' ⟨rfl, rfl⟩
    unfold rdP
    rw [if_neg (hn (97, 60) (by decide)), if_neg (hn (43, 65) (by decide)), if_neg (hn (111, 73) (by decide)), if_neg (hn (100, 80) (by decide)), if_neg (hn (110, 88) (by decide)), if_neg (hn (112, 94) (by decide))]
    refine ⟨fun c => ⟨?_, rfl⟩, fun c => ⟨?_, rfl⟩⟩
    · rw [if_neg (by rw [b2_0.mp c]; decide)]
    · rw [if_pos (b2_n0.mp c)]
theorem tkS_in {T : Nat → Int32} {n L p : Nat} {x : Int32} (hx : x ≠ -(nI 1)) (hp : p ≤ L) : (tkS T n L x p).2 ≤ L := by
  unfold tkS
  split
  next c => exact pk_c c hx
  · exact hp
theorem tkD_in2 {T : Nat → Int32} {n L p lo : Nat} {hi : Int32} (hp : p ≤ L) (hlo : lo = 0 ∨ lo = 1) : (tkD T n L (nI lo) hi p).2 ≤ L := by
  unfold tkD
  split
  · exact hp
  next c =>
    refine (pkP (T := T) (n := n) (fun z => ?_)).2
    rw [z] at c
    rcases hlo with rfl | rfl
    · exact c (Or.inl (by decide))
    · exact c (Or.inl (by decide))
theorem rdP_in {T : Nat → Int32} {n L p : Nat} {x : Int32} (hx : x ≠ -(nI 1)) (hp : p ≤ L) : (rdP T n L x p).2 ≤ L := by
  unfold rdP
  split
  · unfold raF
    split
    · exact hp
    next c =>
      refine (pkP (T := T) (n := n) (fun z => ?_)).2
      rw [z] at c
      exact c (by decide)
  · split
    · exact tkD_in2 hp (Or.inr rfl)
    · split
      · exact tkD_in2 hp (Or.inl rfl)
      · split
        · exact tkD_in2 hp (Or.inl rfl)
        · split
          · exact tkN_le hp
          · split
            · unfold rnF
              have := tkN_le (T := T) (n := n) (m := 2) hp
              split
              · dsimp only; omega
              · exact this
            · exact tkS_in hx hp
/-- parts of a LINE from the j-th on -/
def rdLn (T : Nat → Int32) (n L fm : Nat) : Nat → Nat → Nat → Nat × Option (List Int32)
  | 0, _, p => (p, some [])
  | f + 1, j, p => if (rdP T n L (chS fm j) p).1 = -(nI 1) then ((rdP T n L (chS fm j) p).2, none) else ((rdLn T n L fm f (j + 1) (rdP T n L (chS fm j) p).2).1, (rdLn T n L fm f (j + 1) (rdP T n L (chS fm j) p).2).2.map (fun l => (rdP T n L (chS fm j) p).1 :: l))
theorem rdLn_s (T : Nat → Int32) (n L fm f j p : Nat) : rdLn T n L fm (f + 1) j p = if (rdP T n L (chS fm j) p).1 = -(nI 1) then ((rdP T n L (chS fm j) p).2, none) else ((rdLn T n L fm f (j + 1) (rdP T n L (chS fm j) p).2).1, (rdLn T n L fm f (j + 1) (rdP T n L (chS fm j) p).2).2.map (fun l => (rdP T n L (chS fm j) p).1 :: l)) := rfl
theorem chS_nn : ∀ fm, fm < 3 → ∀ j, j < 5 → chS fm j ≠ -(nI 1) := by decide
theorem rdLn_in {T : Nat → Int32} {n L fm : Nat} (hf : fm < 3) : ∀ (f j p : Nat), j + f ≤ 5 → p ≤ L → (rdLn T n L fm f j p).1 ≤ L
  | 0, _, p, _, h => h
  | f + 1, j, p, hj, h => by
    have h1 := rdP_in (T := T) (n := n) (chS_nn fm hf j (by omega)) h
    rw [rdLn]
    split
    · exact h1
    · exact rdLn_in hf f (j + 1) _ (by omega) h1
theorem rdLn_len {T : Nat → Int32} {n L fm : Nat} : ∀ (f j p : Nat) (l : List Int32), (rdLn T n L fm f j p).2 = some l → l.length = f
  | 0, _, p, l, h => by cases h; rfl
  | f + 1, j, p, l, h => by
    rw [rdLn] at h
    split at h
    · cases h
    · obtain ⟨l0, h1, rfl⟩ := Option.map_eq_some_iff.mp h
      rw [List.length_cons, rdLn_len f (j + 1) _ l0 h1]
/-- the first m columns have f's values at a LINE, the reading place is p -/
def coH (h : Hp) (q ln : Nat) (f : Nat → Int32) (m p : Nat) : Hp := (fun k i => if k = 38 ∧ 5 * q ≤ i ∧ i < 5 * q + m then upd (h.1 38 i) ln (f (i - 5 * q)) else if k = 9 ∧ i = 0 then upd (h.1 9 0) 2 (nI p) else h.1 k i, h.2)
theorem coH_s {h : Hp} {q ln m p p' : Nat} {f : Nat → Int32} {x : Int32} : sX (sA (coH h q ln f m p) p') 38 (5 * q + m) ln x = coH h q ln (upd f m x) (m + 1) p' := by
  refine hp_eq (fun k i => ?_) rfl
  unfold sA
  rw [sX_row, sX_row, sX_row]
  unfold coH
  dsimp only
  by_cases c : k = 38
  · subst c
    by_cases c1 : i = 5 * q + m
    · subst c1
      rw [if_pos ⟨rfl, rfl⟩, if_neg (by simp), if_neg (by omega), if_neg (by simp), if_pos (by omega), show 5 * q + m - 5 * q = m by omega, upd_s]
    · rw [if_neg (by omega), if_neg (by simp)]
      by_cases c2 : 5 * q ≤ i ∧ i < 5 * q + m
      · rw [if_pos ⟨rfl, c2⟩, if_pos ⟨rfl, c2.1, by omega⟩, upd_n (by omega)]
      · rw [if_neg (fun z => c2 z.2), if_neg (by simp), if_neg (fun z => c2 ⟨z.2.1, by omega⟩), if_neg (by simp)]
  · rw [if_neg (fun z => c z.1)]
    by_cases c1 : k = 9 ∧ i = 0
    · obtain ⟨rfl, rfl⟩ := c1
      simp
      funext j
      unfold upd
      split <;> simp_all
    · rw [if_neg c1, if_neg (fun z => c z.1), if_neg c1, if_neg (fun z => c z.1), if_neg c1]
theorem coH_Tx {h : Hp} {q ln m p p0 n L : Nat} {f : Nat → Int32} (hx : Tx h n L p0) (hp : p ≤ 200) : Tx (coH h q ln f m p) n L p := by
  obtain ⟨h1, h2, h3, h4⟩ := hx
  unfold coH
  refine ⟨?_, ?_, ?_, h4.1, h4.2.1, hp⟩
  · show (if 9 = 38 ∧ 5 * q ≤ 0 ∧ 0 < 5 * q + m then upd (h.1 38 0) ln (f (0 - 5 * q)) else if 9 = 9 ∧ 0 = 0 then upd (h.1 9 0) 2 (nI p) else h.1 9 0) 1 = nI n
    rw [if_neg (by simp), if_pos (by simp), upd_n (by simp), h1]
  · show (if 9 = 38 ∧ 5 * q ≤ 0 ∧ 0 < 5 * q + m then upd (h.1 38 0) ln (f (0 - 5 * q)) else if 9 = 9 ∧ 0 = 0 then upd (h.1 9 0) 2 (nI p) else h.1 9 0) 2 = nI p
    rw [if_neg (by simp), if_pos (by simp), upd_s]
  · show (if 9 = 38 ∧ 5 * q ≤ 0 ∧ 0 < 5 * q + m then upd (h.1 38 0) ln (f (0 - 5 * q)) else if 9 = 9 ∧ 0 = 0 then upd (h.1 9 0) 2 (nI p) else h.1 9 0) 3 = nI L
    rw [if_neg (by simp), if_pos (by simp), upd_n (by simp), h3]
theorem coH_T {h : Hp} {q ln m p : Nat} {f : Nat → Int32} : (coH h q ln f m p).1 34 0 = h.1 34 0 := by
  unfold coH
  dsimp only
  rw [if_neg (by simp), if_neg (by simp)]
theorem coH_at {h : Hp} {q ln m p p' : Nat} {f : Nat → Int32} : sA (coH h q ln f m p) p' = coH h q ln f m p' := by
  refine hp_eq (fun k i => ?_) rfl
  unfold sA
  rw [sX_row]
  unfold coH
  dsimp only
  by_cases c1 : k = 9 ∧ i = 0
  · obtain ⟨rfl, rfl⟩ := c1
    simp
    funext j
    unfold upd
    split <;> simp_all
  · rw [if_neg c1, if_neg c1, if_neg c1]
def coS (q : Nat) : List Ad := [(9, 0), (38, 5 * q), (38, 5 * q + 1), (38, 5 * q + 2), (38, 5 * q + 3), (38, 5 * q + 4)]
theorem coH_fr {h : Hp} {q ln m p : Nat} {f : Nat → Int32} (hm : m ≤ 5) : Fr (coS q) h (coH h q ln f m p) := by
  refine ⟨rfl, fun k i n => ?_⟩
  unfold coH
  dsimp only
  rw [if_neg, if_neg]
  · rintro ⟨rfl, rfl⟩; exact n (by simp [coS])
  · rintro ⟨rfl, h1, h2⟩
    apply n
    have : i = 5 * q ∨ i = 5 * q + 1 ∨ i = 5 * q + 2 ∨ i = 5 * q + 3 ∨ i = 5 * q + 4 := by omega
    rcases this with rfl | rfl | rfl | rfl | rfl <;> simp [coS]
/-- what a reading of one LINE leaves -/
def lnP (h : Hp) (n L q ln : Nat) (res : Nat × Option (List Int32)) : AV → Hp → Prop := fun v h' => v = vI (b2 res.2.isSome) ∧ Fr (coS q) h h' ∧ Tx h' n L res.1 ∧ (∀ pt, pt < 5 → ∀ j, j ≠ ln → h'.1 38 (5 * q + pt) j = h.1 38 (5 * q + pt) j) ∧ ∀ l, res.2 = some l → ∀ pt, pt < 5 → h'.1 38 (5 * q + pt) ln = l.getD pt 0
theorem coH_lo {h : Hp} {q ln m p pt j : Nat} {f : Nat → Int32} (hj : j ≠ ln) : (coH h q ln f m p).1 38 (5 * q + pt) j = h.1 38 (5 * q + pt) j := by
  unfold coH
  dsimp only
  by_cases c : pt < m
  · rw [if_pos (by omega), upd_n hj]
  · rw [if_neg (by omega), if_neg (by simp)]
theorem coH_ln {h : Hp} {q ln m p pt : Nat} {f : Nat → Int32} (hp : pt < m) : (coH h q ln f m p).1 38 (5 * q + pt) ln = f pt := by
  unfold coH
  dsimp only
  rw [if_pos (by omega), upd_s, show 5 * q + pt - 5 * q = pt by omega]
theorem lS2 : ∀ fm, fm < 2 → lenS.getD fm 0 = 5 := by decide
theorem c_readLine {k : Nat} {h : Hp} {n L p q ln : Nat} (hx : Tx h n L p) (hp : p ≤ L) (hq : q < 2) (hln : ln < 8) : Ct alC mX3_readLine (k + 5) [vR 3 q, vR 9 0, vI (nI ln)] h (lnP h n L q ln (rdLn (h.1 34 0) n L q 5 0 p)) := by
  have hL := hx.2.2.2.2.1
  have L0 : ∀ f j p1 (g : Nat → Int32), j + f = 5 → p1 ≤ L → ((rdLn (h.1 34 0) n L q 5 0 p).1 = (rdLn (h.1 34 0) n L q f j p1).1) → ((rdLn (h.1 34 0) n L q 5 0 p).2.isSome = (rdLn (h.1 34 0) n L q f j p1).2.isSome) → (∀ l, (rdLn (h.1 34 0) n L q 5 0 p).2 = some l → ∃ l0, (rdLn (h.1 34 0) n L q f j p1).2 = some l0 ∧ ∀ t, t < 5 → l.getD t 0 = if t < j then g t else l0.getD (t - j) 0) → WP alC mX3_readLine (k + 5) (lnP h n L q ln (rdLn (h.1 34 0) n L q 5 0 p)) 2 [some (vR 3 q), some (vR 9 0), some (vI (nI ln)), some (vI (nI j)), none] [] (coH h q ln g j p1) := by
    intro f
    induction f with
    | zero =>
      intro j p1 g hj hp1 e1 e2 e3
      have hj5 : j = 5 := by omega
      subst hj5
      refine wp_at tX3_readLine [] 20 2 okC kX3_readLine ⟨fun _ => ?_, fun c => absurd (by decide) c⟩
      refine ⟨Or.inr rfl, ?_, coH_fr (by omega), ?_, fun pt _ j hj => coH_lo hj, fun l hl pt hpt => ?_⟩
      · rw [e2]; rfl
      · rw [e1]; exact coH_Tx hx (by show p1 ≤ 200; omega)
      · obtain ⟨l0, -, h2⟩ := e3 l hl
        rw [coH_ln hpt, h2 pt hpt, if_pos hpt]
    | succ f ih =>
      intro j p1 g hj hp1 e1 e2 e3
      have tx := coH_Tx (q := q) (ln := ln) (m := j) (f := g) hx (show p1 ≤ 200 by omega)
      have hl5 := lS2 q hq
      refine wp_at tX3_readLine [(2, [true, true, true, true, false])] 60 2 okC kX3_readLine ⟨fun c => absurd c (nI_ge (show j < 5 by omega) (by omega)), fun _ => ⟨_, c_length okC, ?_⟩⟩
      rintro v h' ⟨rfl, rfl⟩
      refine ⟨fun c => absurd c (by rw [hl5]; exact nI_ge (show j < 5 by omega) (by omega)), fun _ => ⟨_, c_charAt okC (by omega) (by rw [hl5]; omega), ?_⟩⟩
      rintro v h' ⟨rfl, rfl⟩
      refine ⟨_, c_readPart tx hp1, ?_⟩
      rintro v h' ⟨rfl, rfl⟩
      rw [coH_T]
      have hin := rdP_in (T := h.1 34 0) (n := n) (chS_nn q (by omega) j (by omega)) hp1
      rw [rdLn_s _ n L q f j p1] at e1 e2 e3
      refine ⟨fun c => ⟨ix1 5 (by omega), ix1 8 hln, ?_⟩, fun c => ?_⟩
      · have c' : ¬ (rdP (h.1 34 0) n L (chS q j) p1).1 = -(nI 1) := c
        rw [if_neg c'] at e1 e2 e3
        rw [nI_clamp (by omega), nI_clamp (by omega)]
        have := ih (j + 1) (rdP (h.1 34 0) n L (chS q j) p1).2 (upd g j (rdP (h.1 34 0) n L (chS q j) p1).1) (by omega) hin e1 (by rw [e2, Option.isSome_map]) (fun l hl => by
          obtain ⟨l0, h1, h2⟩ := e3 l hl
          obtain ⟨l1, h3, h4⟩ := Option.map_eq_some_iff.mp h1
          refine ⟨l1, h3, fun t ht => ?_⟩
          rw [h2 t ht, ← h4]
          by_cases ct : t < j
          · rw [if_pos ct, if_pos (by omega), upd_n (by omega)]
          · rw [if_neg ct]
            by_cases ct2 : t = j
            · subst ct2
              rw [if_pos (by omega), upd_s, Nat.sub_self]
              rfl
            · rw [if_neg (by omega), show t - j = (t - (j + 1)) + 1 by omega]
              rfl)
        rw [← nI_add j 1, ← coH_s (p := p1)] at this
        exact this
      · have c' : (rdP (h.1 34 0) n L (chS q j) p1).1 = -(nI 1) := nn c
        rw [if_pos c'] at e1 e2 e3
        refine ⟨Or.inl rfl, ?_, ?_, ?_, fun pt _ j hj => ?_, fun l hl pt hpt => ?_⟩
        · rw [e2]; rfl
        · rw [coH_at]; exact coH_fr (by omega)
        · rw [coH_at, e1]; exact coH_Tx hx (by omega)
        · rw [coH_at]; exact coH_lo hj
        · obtain ⟨l0, h1, -⟩ := e3 l hl
          cases h1
  refine ct_vc tX3_readLine [(2, [true, true, true, true, false])] 20 okC kX3_readLine rfl ?_
  have := L0 5 0 p (fun _ => 0) rfl hp rfl rfl (fun l hl => ⟨l, hl, fun t _ => by rw [if_neg (by omega), Nat.sub_zero]⟩)
  have e : coH h q ln (fun _ => 0) 0 p = h := by
    refine hp_eq (fun k i => ?_) rfl
    unfold coH
    dsimp only
    rw [if_neg (by omega)]
    split
    next c =>
      obtain ⟨rfl, rfl⟩ := c
      rw [← hx.2.1]
      funext j
      unfold upd
      split
      next c => rw [c]
      · rfl
    · rfl
  rw [e] at this
  exact this
/-- LINES, up to room more -/
def rdLs (T : Nat → Int32) (n L fm : Nat) : Nat → Nat → Nat × Option (List (List Int32))
  | 0, p => (p, none)
  | r + 1, p => match (rdLn T n L fm 5 0 p).2 with
    | none => ((rdLn T n L fm 5 0 p).1, none)
    | some l => if n ≤ (rdLn T n L fm 5 0 p).1 then ((rdLn T n L fm 5 0 p).1, some [l]) else if pk T n L (rdLn T n L fm 5 0 p).1 = nI 59 then ((rdLs T n L fm r ((rdLn T n L fm 5 0 p).1 + 1)).1, (rdLs T n L fm r ((rdLn T n L fm 5 0 p).1 + 1)).2.map (fun ls => l :: ls)) else ((rdLn T n L fm 5 0 p).1, none)
section
variable {T : Nat → Int32} {n L fm r p : Nat} {l : List Int32}
theorem rdLs_N (h : (rdLn T n L fm 5 0 p).2 = none) : rdLs T n L fm (r + 1) p = ((rdLn T n L fm 5 0 p).1, none) := by rw [rdLs, h]
theorem rdLs_E (h : (rdLn T n L fm 5 0 p).2 = some l) (h2 : n ≤ (rdLn T n L fm 5 0 p).1) : rdLs T n L fm (r + 1) p = ((rdLn T n L fm 5 0 p).1, some [l]) := by rw [rdLs, h]; dsimp only; rw [if_pos h2]
theorem rdLs_M (h : (rdLn T n L fm 5 0 p).2 = some l) (h2 : ¬ n ≤ (rdLn T n L fm 5 0 p).1) (h3 : pk T n L (rdLn T n L fm 5 0 p).1 = nI 59) : rdLs T n L fm (r + 1) p = ((rdLs T n L fm r ((rdLn T n L fm 5 0 p).1 + 1)).1, (rdLs T n L fm r ((rdLn T n L fm 5 0 p).1 + 1)).2.map (fun ls => l :: ls)) := by rw [rdLs, h]; dsimp only; rw [if_neg h2, if_pos h3]
theorem rdLs_X (h : (rdLn T n L fm 5 0 p).2 = some l) (h2 : ¬ n ≤ (rdLn T n L fm 5 0 p).1) (h3 : ¬ pk T n L (rdLn T n L fm 5 0 p).1 = nI 59) : rdLs T n L fm (r + 1) p = ((rdLn T n L fm 5 0 p).1, none) := by rw [rdLs, h]; dsimp only; rw [if_neg h2, if_neg h3]
end
theorem rdLs_len {T : Nat → Int32} {n L fm : Nat} : ∀ (r p : Nat) (ls : List (List Int32)), (rdLs T n L fm r p).2 = some ls → 1 ≤ ls.length ∧ ls.length ≤ r
  | 0, p, ls, h => by cases h
  | r + 1, p, ls, h => by
    cases h0 : (rdLn T n L fm 5 0 p).2 with
    | none => rw [rdLs_N h0] at h; cases h
    | some l =>
      by_cases h2 : n ≤ (rdLn T n L fm 5 0 p).1
      · rw [rdLs_E h0 h2] at h; cases h; simp
      · by_cases h3 : pk T n L (rdLn T n L fm 5 0 p).1 = nI 59
        · rw [rdLs_M h0 h2 h3] at h
          obtain ⟨ls0, h4, rfl⟩ := Option.map_eq_some_iff.mp h
          have := rdLs_len r _ ls0 h4
          simp; omega
        · rw [rdLs_X h0 h2 h3] at h; cases h
def rlA (r : Nat × Option (List (List Int32))) : Int32 := match r.2 with
  | some _ => -(nI 1)
  | none => nI r.1
def loS (q : Nat) : List Ad := (3, q) :: coS q
/-- what a reading of LINES leaves: n0 are known -/
def lsP (h : Hp) (q n0 : Nat) (res : Nat × Option (List (List Int32))) : AV → Hp → Prop := fun v h' => v = vI (rlA res) ∧ Fr (loS q) h h' ∧ h'.1 9 0 1 = h.1 9 0 1 ∧ h'.1 3 q 1 = h.1 3 q 1 ∧ h'.1 3 q 3 = h.1 3 q 3 ∧ (∀ pt, pt < 5 → ∀ j, j < n0 → h'.1 38 (5 * q + pt) j = h.1 38 (5 * q + pt) j) ∧ ∀ ls, res.2 = some ls → h'.1 3 q 4 = nI ls.length ∧ ∀ pt, pt < 5 → ∀ j l, ls[j]? = some l → h'.1 38 (5 * q + pt) (n0 + j) = l.getD pt 0
theorem c_lread {k : Nat} {h : Hp} {n L q n0 : Nat} (hn : h.1 9 0 1 = nI n) (hn8 : n ≤ 80) (hL : h.1 3 q 1 = nI L) (hL8 : L ≤ 80) (hc : h.1 3 q 3 = nI n0) (hc8 : n0 ≤ 8) (hq : q < 2) : Ct alC mX3_read (k + 6) [vR 3 q, vR 9 0] h (lsP h q n0 (rdLs (h.1 34 0) n L q (8 - n0) 0)) := by
  have L0 : ∀ r t p h1 (ls0 : List (List Int32)), n0 + t + r = 8 → p ≤ L → Fr (loS q) h h1 → Tx h1 n L p → h1.1 3 q 1 = nI L → h1.1 3 q 3 = nI n0 → h1.1 3 q 4 = nI t → ls0.length = t → (∀ pt, pt < 5 → ∀ j, j < n0 → h1.1 38 (5 * q + pt) j = h.1 38 (5 * q + pt) j) → (∀ pt, pt < 5 → ∀ j l, ls0[j]? = some l → h1.1 38 (5 * q + pt) (n0 + j) = l.getD pt 0) → rdLs (h.1 34 0) n L q (8 - n0) 0 = ((rdLs (h.1 34 0) n L q r p).1, (rdLs (h.1 34 0) n L q r p).2.map (fun ls => ls0 ++ ls)) → WP alC mX3_read (k + 6) (lsP h q n0 (rdLs (h.1 34 0) n L q (8 - n0) 0)) 13 [some (vR 3 q), some (vR 9 0)] [] h1 := by
    intro r
    induction r with
    | zero =>
      intro t p h1 ls0 ht hp hF hx hm hco hfr hlen hold hnew e
      refine wp_at tX3_read [] 30 13 okC kX3_read ⟨fun _ => ?_, fun c => absurd (by rw [hco, hfr, nI_add]; exact nI_le (show 8 ≤ n0 + t by omega) (by omega)) c⟩
      rw [e]
      refine ⟨?_, hF, ?_, ?_, ?_, hold, fun ls hls => by cases hls⟩
      · exact congrArg vI hx.2.1
      · rw [hx.1, hn]
      · rw [hm, hL]
      · rw [hco, hc]
    | succ r ih =>
      intro t p h1 ls0 ht hp hF hx hm hco hfr hlen hold hnew e
      have e34 : h1.1 34 0 = h.1 34 0 := hF.2 34 0 (by simp [loS, coS])
      refine wp_at tX3_read [(13, [true, true])] 60 13 okC kX3_read ⟨fun c => absurd c (by rw [hco, hfr, nI_add]; exact nI_ge (show n0 + t < 8 by omega) (by omega)), fun _ => ⟨_, ct_cv (c_readLine (ln := n0 + t) hx hp hq (by omega)) (congrArg (fun x => [vR 3 q, vR 9 0, vI x]) (show h1.1 3 q 3 + h1.1 3 q 4 = nI (n0 + t) by rw [hco, hfr, nI_add])) rfl, ?_⟩⟩
      rw [e34]
      rintro v h2 ⟨rfl, hF2, hx2, hlo, hln⟩
      have hF3 : Fr (loS q) h h2 := hF.tr hF2 (fun x hx => List.mem_cons_of_mem _ hx)
      have hr3 : h2.1 3 q = h1.1 3 q := hF2.2 3 q (by simp [coS])
      have hin := rdLn_in (T := h.1 34 0) (n := n) (L := L) (fm := q) (by omega) 5 0 p (by omega) hp
      refine ⟨fun c => ⟨_, c_tended hx2, ?_⟩, fun c => ?_⟩
      · obtain ⟨l, hl⟩ := b2_sS c
        rintro v h3 ⟨rfl, rfl⟩
        refine ⟨fun c2 => ⟨_, c_ttake hx2, ?_⟩, fun c2 => ?_⟩
        · have c3 := of_decide_eq_false (b2_0.mp c2)
          rintro v h4 ⟨rfl, rfl⟩
          have e34' : h3.1 34 0 = h.1 34 0 := hF3.2 34 0 (by simp [loS, coS])
          rw [e34']
          refine ⟨fun c4 => ?_, fun c4 => ?_⟩
          · obtain ⟨c5, c6⟩ := tkS_1 c4
            rw [c6]
            rw [rdLs_M hl c3 c5] at e
            have hlt : (rdLn (h.1 34 0) n L q 5 0 p).1 < L := pk_c c5 (by decide)
            have hf4 : (sA h3 ((rdLn (h.1 34 0) n L q 5 0 p).1 + 1)).1 3 q = h1.1 3 q := by rw [sX_row, if_neg (by simp), hr3]
            have := ih (t + 1) ((rdLn (h.1 34 0) n L q 5 0 p).1 + 1) (sX (sA h3 ((rdLn (h.1 34 0) n L q 5 0 p).1 + 1)) 3 q 4 (nI (t + 1))) (ls0 ++ [l]) (by omega) (by omega) (Fr.sX (Fr.sX hF3 (by simp [loS, coS])) (by simp [loS, coS])) ?_ ?_ ?_ ?_ (by simp; omega) ?_ ?_ ?_
            · rw [← nI_add t 1, ← hfr, ← hf4] at this
              exact this
            · have := hx2.at (q := (rdLn (h.1 34 0) n L q 5 0 p).1 + 1) (by omega)
              refine ⟨?_, ?_, ?_, this.2.2.2⟩
              · rw [rdX, if_neg (by simp), this.1]
              · rw [rdX, if_neg (by simp), this.2.1]
              · rw [rdX, if_neg (by simp), this.2.2.1]
            · rw [rdX, if_neg (by simp), hf4, hm]
            · rw [rdX, if_neg (by simp), hf4, hco]
            · rw [rdX, if_pos (by simp)]
            · intro pt hpt j hj
              rw [rdX, if_neg (by simp), rdX, if_neg (by simp), hlo pt hpt j (by omega), hold pt hpt j hj]
            · intro pt hpt j l' hl'
              rw [rdX, if_neg (by simp), rdX, if_neg (by simp)]
              by_cases cj : j < t
              · rw [List.getElem?_append_left (by omega)] at hl'
                rw [hlo pt hpt (n0 + j) (by omega), hnew pt hpt j l' hl']
              · rw [List.getElem?_append_right (by omega)] at hl'
                have hj0 : j = t := by
                  have := (List.getElem?_eq_some_iff.mp hl').1
                  simp at this
                  omega
                subst hj0
                rw [hlen, Nat.sub_self] at hl'
                cases hl'
                exact hln l hl pt hpt
            · rw [e]
              refine Prod.ext rfl ?_
              show Option.map _ (Option.map _ _) = Option.map _ _
              rw [Option.map_map]
              congr 1
              funext ls
              show ls0 ++ l :: ls = ls0 ++ [l] ++ ls
              rw [List.append_assoc]
              rfl
          · obtain ⟨c5, c6⟩ := tkS_0 (nn c4)
            rw [c6, sA_same hx2]
            rw [rdLs_X hl c3 c5] at e
            rw [e]
            refine ⟨?_, hF3, ?_, ?_, ?_, ?_, fun ls hls => by cases hls⟩
            · exact congrArg vI hx2.2.1
            · rw [hx2.1, hn]
            · rw [hr3, hm, hL]
            · rw [hr3, hco, hc]
            · intro pt hpt j hj
              rw [hlo pt hpt j (by omega), hold pt hpt j hj]
        · have c3 := of_decide_eq_true (b2_n0.mp c2)
          rw [rdLs_E hl c3] at e
          rw [e]
          refine ⟨rfl, Fr.sX hF3 (by simp [loS]), ?_, ?_, ?_, ?_, ?_⟩
          · rw [rdX, if_neg (by simp), hx2.1, hn]
          · rw [rdX, if_neg (by simp), hr3, hm, hL]
          · rw [rdX, if_neg (by simp), hr3, hco, hc]
          · intro pt hpt j hj
            rw [rdX, if_neg (by simp), hlo pt hpt j (by omega), hold pt hpt j hj]
          · intro ls hls
            cases hls
            refine ⟨?_, fun pt hpt j l' hl' => ?_⟩
            · rw [rdX, if_pos (by simp), hr3, hfr, List.length_append, hlen]
              exact nI_add t 1
            · rw [rdX, if_neg (by simp)]
              by_cases cj : j < t
              · rw [List.getElem?_append_left (by omega)] at hl'
                rw [hlo pt hpt (n0 + j) (by omega), hnew pt hpt j l' hl']
              · rw [List.getElem?_append_right (by omega)] at hl'
                have hj0 : j = t := by
                  have := (List.getElem?_eq_some_iff.mp hl').1
                  simp at this
                  omega
                subst hj0
                rw [hlen, Nat.sub_self] at hl'
                cases hl'
                exact hln l hl pt hpt
      · have hl := b2_sN (nn c)
        rw [rdLs_N hl] at e
        rw [e]
        refine ⟨?_, hF3, ?_, ?_, ?_, ?_, fun ls hls => by cases hls⟩
        · exact congrArg vI hx2.2.1
        · rw [hx2.1, hn]
        · rw [hr3, hm, hL]
        · rw [hr3, hco, hc]
        · intro pt hpt j hj
          rw [hlo pt hpt j (by omega), hold pt hpt j hj]
  refine ct_vc tX3_read [(13, [true, true])] 30 okC kX3_read rfl ?_
  refine ⟨_, ct_cv (c_tstart (x := nI L)) (congrArg (fun x => [vR 9 0, vI x]) hL) rfl, ?_⟩
  rintro v h' rfl
  refine L0 (8 - n0) 0 0 (sX (sX (sX h 9 0 2 (nI 0)) 9 0 3 (nI L)) 3 q 4 (nI 0)) [] (by omega) (by omega) (Fr.sX (Fr.sX (Fr.sX Fr.rf (by simp [loS, coS])) (by simp [loS, coS])) (by simp [loS])) ⟨?_, ?_, ?_, hn8, hL8, by omega⟩ ?_ ?_ ?_ rfl ?_ ?_ ?_
  · rw [rdX, if_neg (by simp), rdX, if_neg (by simp), rdX, if_neg (by simp), hn]
  · rw [rdX, if_neg (by simp), rdX, if_neg (by simp), rdX, if_pos (by simp)]
  · rw [rdX, if_neg (by simp), rdX, if_pos (by simp)]
  · rw [rdX, if_neg (by simp), rdX, if_neg (by simp), rdX, if_neg (by simp), hL]
  · rw [rdX, if_neg (by simp), rdX, if_neg (by simp), rdX, if_neg (by simp), hc]
  · rw [rdX, if_pos (by simp)]
  · intro pt hpt j hj
    rw [rdX, if_neg (by simp), rdX, if_neg (by simp), rdX, if_neg (by simp)]
  · intro pt hpt j l hl; simp at hl
  · refine Prod.ext rfl ?_
    show _ = Option.map _ _
    simp
