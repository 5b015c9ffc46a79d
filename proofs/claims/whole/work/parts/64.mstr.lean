/-! the reference: held, STRENGTH -/
section HELD
variable {h : Hp} {r n p0 : Nat} {lf : Int32 → Int32}
theorem jn_lt {a b : Int32} : jnF (nI 60) a b = b2 (decide (a < b)) := rfl
theorem jn_gt {a b : Int32} : jnF (nI 62) a b = b2 (decide (b < a)) := rfl
theorem jn_eq {a b : Int32} : jnF (nI 61) a b = b2 (decide (a = b)) := rfl
theorem c_mheld {d : Nat} (t : TxM h r n 40 p0) (IH : LvM h lf (mT h r) n d 2 mX12_sum) : LvM h lf (mT h r) n d 3 mX12_held := by
  intro K p hp hK
  obtain ⟨K, rfl⟩ : ∃ K', K = K' + 6 := ⟨K - 6, by omega⟩
  have rn : ∀ p, p ≤ 40 → Ran 40 p (pLv (mT h r) n 40 (inn (mT h r) n 40 d) 2 p) := ran_Lv (ran_inn d) 2
  have gd : ∀ p, GoodR (pLv (mT h r) n 40 (inn (mT h r) n 40 d) 2 p) := good_Lv (good_inn d) 2
  refine ct_vc tX12_held [] 80 okM kX12_held rfl ?_
  refine ⟨_, IH (K + 5) p hp (by omega), ?_⟩
  rintro v h1 ⟨x, rfl, hx⟩
  rcases hx with ⟨c, k1, rfl, k3⟩ | ⟨k1, q, rfl⟩
  · obtain ⟨q, hq⟩ : ∃ q, (pLv (mT h r) n 40 (inn (mT h r) n 40 d) 2 p).1 = q := ⟨_, rfl⟩
    have q40 : q ≤ 40 := by rw [← hq]; exact (rn p hp).2.1
    have e := pLv_S k1
    rw [hq] at e ⊢
    have e : pLv (mT h r) n 40 (inn (mT h r) n 40 d) 3 p = pOp (mT h r) n 40 (pLv (mT h r) n 40 (inn (mT h r) n 40 d) 2) 0 1 q c := e
    have gc := gd p c k1
    have tq := t.at (show q ≤ 200 by omega)
    have SUB : ∀ (o : Int32), pk (mT h r) n 40 q = o → lvO o = nI 0 → ∀ y h1 z, (∃ c2, (pLv (mT h r) n 40 (inn (mT h r) n 40 d) 2 (q + 1)).2 = some c2 ∧ h1 = sAM h (pLv (mT h r) n 40 (inn (mT h r) n 40 d) 2 (q + 1)).1 ∧ (h.1 12 0 20 = nI 1 → y = vl lf c2)) ∨ ((pLv (mT h r) n 40 (inn (mT h r) n 40 d) 2 (q + 1)).2 = none ∧ ∃ q', h1 = sX (sAM h q') 12 0 15 (nI (pLv (mT h r) n 40 (inn (mT h r) n 40 d) 2 (q + 1)).1)) → z = jnF o x y → mP h lf (pLv (mT h r) n 40 (inn (mT h r) n 40 d) 3 p) (vI z) h1 := by
      intro o ho hl y h1 z hy hz
      have hl' : lvO (pk (mT h r) n 40 q) = nI 0 := by rw [ho]; exact hl
      rcases hy with ⟨c2, j1, rfl, j3⟩ | ⟨j1, q2, rfl⟩
      · have e2 : pLv (mT h r) n 40 (inn (mT h r) n 40 d) 3 p = ((pLv (mT h r) n 40 (inn (mT h r) n 40 d) 2 (q + 1)).1, some (c ++ c2 ++ [-o])) := by rw [e, pOp_S hl' j1, ho]; rfl
        have run := run_op (o := o) gc (gd _ c2 j1) (Or.inl hl) lf
        refine ⟨z, rfl, Or.inl ⟨c ++ c2 ++ [-o], by rw [e2], by rw [e2], fun ha => ?_⟩⟩
        rw [hz, k3 ha, j3 ha, vl_of run]
      · have e2 := pOp_N (f := 0) (c := c) hl' j1
        exact ⟨z, rfl, Or.inr ⟨by rw [e]; rw [e2], q2, by rw [e]; rw [e2]⟩⟩
    have NX : ∀ (o : Int32), pk (mT h r) n 40 q = o → o ≠ -(nI 1) → q + 1 ≤ 40 := fun o ho hn => pk_c ho hn
    refine ⟨_, c_mpasses tq, ?_⟩
    rw [mT_at, sAM_at]
    rintro v h1 ⟨rfl, rfl⟩
    by_cases c60 : pk (mT h r) n 40 q = nI 60
    · have e1 : tkS (mT h r) n 40 (nI 60) q = (true, q + 1) := by unfold tkS; rw [if_pos c60]
      rw [e1]
      refine ⟨fun c => absurd (show b2 true = 0 from c) (by decide), fun _ => ⟨_, IH (K + 5) (q + 1) (NX _ c60 (by decide)) (by omega), ?_⟩⟩
      rintro v h1 ⟨y, rfl, hy⟩
      refine ⟨fun c => SUB _ c60 (by decide) y h1 _ hy ?_, fun c => SUB _ c60 (by decide) y h1 _ hy ?_⟩
      · rw [jn_lt, dF (i_ltn c)]; rfl
      · rw [jn_lt, dT (i_nle c)]; rfl
    · have e1 : tkS (mT h r) n 40 (nI 60) q = (false, q) := by unfold tkS; rw [if_neg c60]
      rw [e1]
      refine ⟨fun _ => ⟨_, c_mpasses tq, ?_⟩, fun c => absurd rfl c⟩
      rw [mT_at, sAM_at]
      rintro v h1 ⟨rfl, rfl⟩
      by_cases c62 : pk (mT h r) n 40 q = nI 62
      · have e1 : tkS (mT h r) n 40 (nI 62) q = (true, q + 1) := by unfold tkS; rw [if_pos c62]
        rw [e1]
        refine ⟨fun c => absurd (show b2 true = 0 from c) (by decide), fun _ => ⟨_, IH (K + 5) (q + 1) (NX _ c62 (by decide)) (by omega), ?_⟩⟩
        rintro v h1 ⟨y, rfl, hy⟩
        refine ⟨fun c => SUB _ c62 (by decide) y h1 _ hy ?_, fun c => SUB _ c62 (by decide) y h1 _ hy ?_⟩
        · rw [jn_gt, dF (i_ltn c)]; rfl
        · rw [jn_gt, dT (i_nle c)]; rfl
      · have e1 : tkS (mT h r) n 40 (nI 62) q = (false, q) := by unfold tkS; rw [if_neg c62]
        rw [e1]
        refine ⟨fun _ => ⟨_, c_mpasses tq, ?_⟩, fun c => absurd rfl c⟩
        rw [mT_at, sAM_at]
        rintro v h1 ⟨rfl, rfl⟩
        by_cases c61 : pk (mT h r) n 40 q = nI 61
        · have e1 : tkS (mT h r) n 40 (nI 61) q = (true, q + 1) := by unfold tkS; rw [if_pos c61]
          rw [e1]
          refine ⟨fun c => absurd (show b2 true = 0 from c) (by decide), fun _ => ⟨_, IH (K + 5) (q + 1) (NX _ c61 (by decide)) (by omega), ?_⟩⟩
          rintro v h1 ⟨y, rfl, hy⟩
          refine ⟨fun c => SUB _ c61 (by decide) y h1 _ hy ?_, fun c => SUB _ c61 (by decide) y h1 _ hy ?_⟩
          · rw [jn_eq, dF c]; rfl
          · rw [jn_eq, dT (nn c)]; rfl
        · have e1 : tkS (mT h r) n 40 (nI 61) q = (false, q) := by unfold tkS; rw [if_neg c61]
          rw [e1]
          refine ⟨fun _ => ?_, fun c => absurd rfl c⟩
          have hn : ¬ lvO (pk (mT h r) n 40 q) = nI 0 := fun w => by rcases lvO_0.mp w with w | w | w; exact c60 w; exact c61 w; exact c62 w
          rw [pOp_no hn] at e
          exact ⟨x, rfl, Or.inl ⟨c, by rw [e], by rw [e], k3⟩⟩
  · have hw := nfn (h := h) (q := q) (show (pLv (mT h r) n 40 (inn (mT h r) n 40 d) 2 p).1 ≤ 200 by have := (rn p hp).2.1; omega)
    have e : pLv (mT h r) n 40 (inn (mT h r) n 40 d) 3 p = ((pLv (mT h r) n 40 (inn (mT h r) n 40 d) 2 p).1, none) := pLv_N k1
    refine ⟨_, c_mpassesN hw, ?_⟩
    rintro v h1 ⟨rfl, rfl⟩
    refine ⟨fun _ => ⟨_, c_mpassesN hw, ?_⟩, fun c => absurd rfl c⟩
    rintro v h1 ⟨rfl, rfl⟩
    refine ⟨fun _ => ⟨_, c_mpassesN hw, ?_⟩, fun c => absurd rfl c⟩
    rintro v h1 ⟨rfl, rfl⟩
    exact ⟨fun _ => ⟨x, rfl, Or.inr ⟨by rw [e], q, by rw [e]⟩⟩, fun c => absurd rfl c⟩
theorem c_held (t : TxM h r n 40 p0) (ask : Ask h lf) : ∀ d, d ≤ 4 → HeK h lf (mT h r) n d := by
  intro d
  induction d with
  | zero =>
    intro hd K p hp hK
    have th : LvM h lf (mT h r) n 0 0 mX12_thing := fun K p hp hK => c_mthing t ask (by omega) (fun d' w => by omega) (40 - p) K p hp (by omega) (by omega)
    exact c_mheld t (c_msum t (c_mproduct t th)) K p hp (by omega)
  | succ d ih =>
    intro hd K p hp hK
    have ih' : ∀ d', d + 1 = d' + 1 → HeK h lf (mT h r) n d' := by
      intro d' w
      have w' : d' = d := by omega
      subst w'
      exact ih (by omega)
    have th : LvM h lf (mT h r) n (d + 1) 0 mX12_thing := fun K p hp hK => c_mthing t ask (by omega) ih' (40 - p) K p hp (by omega) (by omega)
    exact c_mheld t (c_msum t (c_mproduct t th)) K p hp (by omega)
end HELD
/-! a text's reading rests on its signs alone -/
theorem tkD_cg {T T' : Nat → Int32} {n L : Nat} (e : ∀ p, pk T n L p = pk T' n L p) {lo hi : Int32} {p : Nat} : tkD T n L lo hi p = tkD T' n L lo hi p := by unfold tkD; rw [e p]
theorem tkR_cg {T T' : Nat → Int32} {n L : Nat} (e : ∀ p, pk T n L p = pk T' n L p) {m : Nat} : ∀ f i x p, tkR T n L m f i x p = tkR T' n L m f i x p
  | 0, _, _, _ => rfl
  | f + 1, i, x, p => by rw [tkR, tkR, tkD_cg e, tkR_cg e f]
theorem tkN_cg {T T' : Nat → Int32} {n L : Nat} (e : ∀ p, pk T n L p = pk T' n L p) {m p : Nat} : tkN T n L m p = tkN T' n L m p := tkR_cg e _ _ _ _
theorem pTh_cg {T T' : Nat → Int32} {n L : Nat} (e : ∀ p, pk T n L p = pk T' n L p) {i : Option (Nat → PRs)} {p : Nat} : pTh T n L i p = pTh T' n L i p := by
  unfold pTh
  simp only [tkN_cg e, e]
theorem mnC_cg {T T' : Nat → Int32} {n L : Nat} (e : ∀ p, pk T n L p = pk T' n L p) : ∀ f p, mnC T n L f p = mnC T' n L f p
  | 0, _ => rfl
  | f + 1, p => by rw [mnC, mnC, e, mnC_cg e f]
theorem pSg_cg {T T' : Nat → Int32} {n L : Nat} (e : ∀ p, pk T n L p = pk T' n L p) {i : Option (Nat → PRs)} {p : Nat} : pSg T n L i p = pSg T' n L i p := by
  unfold pSg
  rw [mnC_cg e, pTh_cg e]
theorem pOp_cg {T T' : Nat → Int32} {n L : Nat} (e : ∀ p, pk T n L p = pk T' n L p) {s : Nat → PRs} {lv : Nat} : ∀ f p c, pOp T n L s lv f p c = pOp T' n L s lv f p c
  | 0, _, _ => rfl
  | f + 1, p, c => by
    rw [pOp, pOp, e]
    simp only [pOp_cg e f]
theorem pLv_cg {T T' : Nat → Int32} {n L : Nat} (e : ∀ p, pk T n L p = pk T' n L p) {i : Option (Nat → PRs)} : ∀ u, pLv T n L i u = pLv T' n L i u
  | 0 => funext fun p => pSg_cg e
  | u + 1 => funext fun p => by
    rw [pLv, pLv, pLv_cg e u]
    simp only [pOp_cg e]
theorem pRl_cg {T T' : Nat → Int32} {n L : Nat} (e : ∀ p, pk T n L p = pk T' n L p) : ∀ r, pRl T n L r = pRl T' n L r
  | 0 => pLv_cg e 3
  | r + 1 => by rw [pRl, pRl, pRl_cg e r, pLv_cg e]
theorem rdO_cg {T T' : Nat → Int32} {n : Nat} (e : ∀ j, j < n → T j = T' j) : rdO T n = rdO T' n ∧ rdR T n = rdR T' n := by
  have key : ∀ p, pk (rdT T n) (rdn n) 40 p = pk (rdT T' n) (rdn n) 40 p := by
    intro p
    unfold pk rdT rdn
    by_cases c0 : n = 0
    · simp only [if_pos c0]
      by_cases c : p < 20 ∧ p < 40
      · rw [if_pos c, if_pos c]
        unfold putF
        rw [if_pos c.1, if_pos c.1]
      · rw [if_neg c, if_neg c]
    · simp only [if_neg c0]
      by_cases c : p < n ∧ p < 40
      · rw [if_pos c, if_pos c, e p c.1]
      · rw [if_neg c, if_neg c]
  have h1 : rdR T n = rdR T' n := by unfold rdR; rw [pRl_cg key]
  refine ⟨?_, h1⟩
  unfold rdO
  rw [h1]
/-- the standard RULE -/
def stdC : List Int32 := [-(nI 115), nI 10, -(nI 42), -(nI 104), nI 6, -(nI 42), -(nI 45), -(nI 119), nI 2, -(nI 42), -(nI 43), -(nI 97), -(nI 101), -(nI 62), nI 3, -(nI 42), -(nI 43)]
theorem rdO_z : rdO (fun _ => nI 0) 0 = some stdC := by decide +kernel
theorem rdO_0 {T : Nat → Int32} : rdO T 0 = some stdC := (rdO_cg (fun j hj => by omega)).1.trans rdO_z
theorem vl_std (lf : Int32 → Int32) : vl lf stdC = lf (nI 115) * nI 10 - lf (nI 104) * nI 6 + lf (nI 119) * nI 2 + b2 (decide (lf (nI 101) < lf (nI 97))) * nI 3 := by
  rfl
/-- begin: a text is to be read -/
def bgH (h : Hp) (r : Nat) (n L : Int32) : Hp := sX (sX (sX (sX (sD h 2 r) 12 0 12 n) 12 0 13 L) 12 0 14 (nI 0)) 12 0 15 (-(nI 1))
theorem c_begin {k r : Nat} {h : Hp} {n L : Int32} : Ct alM mX12_begin k [vR 12 0, vR 43 r, vI n, vI L] h (Rv (bgH h r n L)) := ct_vc tX12_begin [] 30 okM kX12_begin rfl rfl
theorem bgH_t {h : Hp} {r n L : Nat} (hr : r < 3) (hn : n ≤ (if r = 0 then 80 else 40)) (hL : L ≤ 80) (hb : ∀ j, bytK (h.1 43 r j)) : TxM (bgH h r (nI n) (nI L)) r n L 0 := by
  refine ⟨rfl, hr, ?_, ?_, ?_, ?_, hn, hL, by omega, fun j => ?_⟩
  · unfold bgH; rw [rdX, if_neg (by simp), rdX, if_neg (by simp), rdX, if_neg (by simp), rdX, if_pos (by simp)]
  · unfold bgH; rw [rdX, if_neg (by simp), rdX, if_neg (by simp), rdX, if_pos (by simp)]
  · unfold bgH; rw [rdX, if_neg (by simp), rdX, if_pos (by simp)]
  · unfold bgH; rw [rdX, if_pos (by simp)]
  · unfold bgH; rw [sX_row, if_neg (by simp), sX_row, if_neg (by simp), sX_row, if_neg (by simp), sX_row, if_neg (by simp), rdD]; exact hb j
theorem bgH_T {h : Hp} {r q : Nat} {n L : Int32} : mT (bgH h r n L) q = mT h q := mT_cg (by unfold bgH; rw [sX_row, if_neg (by simp), sX_row, if_neg (by simp), sX_row, if_neg (by simp), sX_row, if_neg (by simp), rdD])
theorem bgH_f {S : List Ad} {F : List Nat} {h h1 : Hp} {r : Nat} {n L : Int32} (a : Fm S F h h1) (h12 : 12 ∈ F) (h13 : 13 ∈ F) (h14 : 14 ∈ F) (h15 : 15 ∈ F) : Fm S F h (bgH h1 r n L) := ((((a.sD).sF h12).sF h13).sF h14).sF h15
def stS : List Ad := [(46, 0)]
def stI : List Nat := [12, 13, 14, 15, 20]
theorem b2_m3 (b : Bool) : b2 b * nI 3 = if b = true then nI 3 else nI 0 := by cases b <;> decide
theorem c_mstr {k i one oth : Nat} {h : Hp} {g : GS} {s : Sta} (w : Wm h g) (hs : h.1 40 i = mS s) (h1 : one < gN g) (h2 : oth < gN g) : Ct alM mX12_strengthOf (k + 310) [vR 12 0, vR 40 i, vI (nI one), vI (nI oth)] h (fun v h' => v = vI (stF (gC g) (gR g) s one oth) ∧ Fm stS stI h h') := by
  have hn := w.2.1
  have w0 := w
  obtain ⟨-, -, -, -, -, -, -, -, -, r, n, hr, w11, w12, w13, w14, w15⟩ := w0
  have s8 : ∀ j, j < 40 → h.1 40 i j = s j := fun j hj => by rw [hs, mS_lo hj]
  refine ct_vc tX12_strengthOf [(54, [true, true, true, true, false])] 60 okM kX12_strengthOf rfl ?_
  refine ⟨fun c => ?_, fun c => ?_⟩
  · have c0 : ¬ n = 0 := fun z => c (by rw [w13, z]; rfl)
    have hrdT : rdT (mT h r) n = mT h r := if_neg c0
    have hrdn : rdn n = n := if_neg c0
    have hpos : 0 < n := by omega
    have row : ∀ f, (sV h 46 0 f).1 40 i = mS s := fun f => by rw [rdV, if_neg (by simp), hs]
    have wf : ∀ f, Wm (sV h 46 0 f) g := fun f => w.go (S := [(46, 0)]) (F := []) (Fm.rf.sV (by simp) (by decide)) (by simp) (by simp) (by simp) (by simp) (by simp) (by simp) (by simp) (by simp)
    have S150 : ∀ f : Nat → Int32, f 0 = gR g 1 one → f 1 = s (8 + one) → f 2 = s (24 + one) → f 3 = s (16 + one) → f 4 = s one / nI 10 → f 5 = gR g 0 one → f 6 = gR g 0 oth → f 7 = s 46 - s 46 / nI 8 * nI 8 → WP alM mX12_strengthOf (k + 310) (fun v h' => v = vI (stF (gC g) (gR g) s one oth) ∧ Fm stS stI h h') 150 [some (vR 12 0), none, none, none, none] [] (sV h 46 0 f) := by
      intro f f0 f1 f2 f3 f4 f5 f6 f7
      have hr3 : r < 3 := by rcases hr with rfl | rfl <;> omega
      have hr0 : n ≤ (if r = 0 then 80 else 40) := by split <;> omega
      have e3 : (sV h 46 0 f).2.2 3 = r := w11
      have e19 : (sV h 46 0 f).1 12 0 19 = nI n := by rw [rdV, if_neg (by simp)]; exact w13
      have eb : ∀ j, bytK ((sV h 46 0 f).1 43 r j) := fun j => by rw [rdV, if_neg (by simp)]; exact w14 j
      refine wp_at tX12_strengthOf [] 60 150 okM kX12_strengthOf ⟨_, ct_cv (c_begin (r := r) (n := nI n) (L := nI 40) (h := sV h 46 0 f)) (by rw [← e3, ← e19]) rfl, ?_⟩
      rintro v h2 rfl
      have t := bgH_t (h := sV h 46 0 f) (L := 40) hr3 hr0 (by omega) eb
      obtain ⟨h2, hh2⟩ : ∃ h2, h2 = sX (bgH (sV h 46 0 f) r (nI n) (nI 40)) 12 0 20 (nI 1) := ⟨_, rfl⟩
      have t2 : TxM h2 r n 40 0 := by
        obtain ⟨q1, q2, q3, q4, q5, q6, q7, q8, q9, q10⟩ := t
        rw [hh2]
        refine ⟨q1, q2, ?_, ?_, ?_, ?_, q7, q8, q9, fun j => ?_⟩
        · rw [rdX, if_neg (by simp)]; exact q3
        · rw [rdX, if_neg (by simp)]; exact q4
        · rw [rdX, if_neg (by simp)]; exact q5
        · rw [rdX, if_neg (by simp)]; exact q6
        · rw [sX_row, if_neg (by simp)]; exact q10 j
      have eT : mT h2 r = mT h r := by
        rw [hh2, mT_f, bgH_T]
        exact mT_cg (by rw [rdV, if_neg (by simp)])
      have a20 : h2.1 12 0 20 = nI 1 := by rw [hh2, rdX, if_pos (by simp)]
      have a46 : h2.1 46 0 = f := by
        rw [hh2]
        unfold bgH
        rw [sX_row, if_neg (by simp), sX_row, if_neg (by simp), sX_row, if_neg (by simp), sX_row, if_neg (by simp), sX_row, if_neg (by simp), rdD, sV_same]
      have ask : Ask h2 (ltF (gR g) s one oth) := by
        refine ⟨Or.inr a20, fun _ x j hl h8 hj => ?_⟩
        rw [a46]
        have L : ∀ y t, y = x → ltX y = nI t → t < 8 → j = t := fun y t hy ht h8' => nI_inj (by omega) (by omega) (by rw [← hj, ← ht, hy])
        unfold isLt at hl
        simp at hl
        rcases hl with ((((((rfl | rfl) | rfl) | rfl) | rfl) | rfl) | rfl) | rfl
        · have := L _ 5 rfl rfl (by omega); subst this; exact f5
        · have := L _ 7 rfl rfl (by omega); subst this; exact f7
        · have := L _ 6 rfl rfl (by omega); subst this; exact f6
        · have := L _ 3 rfl rfl (by omega); subst this; exact f3
        · have := L _ 1 rfl rfl (by omega); subst this; exact f1
        · have := L _ 4 rfl rfl (by omega); subst this; exact f4
        · have := L _ 0 rfl rfl (by omega); subst this; exact f0
        · have := L _ 2 rfl rfl (by omega); subst this; exact f2
      have fm2 : Fm stS stI h h2 := by
        rw [hh2]
        exact (bgH_f ((Fm.rf (S := stS) (F := stI) (h := h)).sV (by simp [stS]) (by decide)) (by simp [stI]) (by simp [stI]) (by simp [stI]) (by simp [stI])).sF (by simp [stI])
      have HE := c_held t2 ask 4 (by omega) (k + 309) 0 (by omega) (by omega)
      rw [sAM_same t2, eT, ← pRl_eq] at HE
      have eR : pRl (mT h r) n 40 4 0 = rdR (mT h r) n := by unfold rdR; rw [hrdT, hrdn]
      rw [eR] at HE
      have hc : (rdR (mT h r) n).2 = some (gC g) := by
        unfold rdO at w15
        split at w15
        · exact w15
        · cases w15
      refine ⟨Or.inr rfl, _, ct_cv HE rfl hh2.symm, ?_⟩
      rintro v h3 ⟨x, rfl, hx⟩
      rcases hx with ⟨c2, k1, rfl, k3⟩ | ⟨k1, -⟩
      · rw [hc] at k1
        cases k1
        refine ⟨Or.inl rfl, congrArg vI (k3 a20), ?_⟩
        exact (fm2.sF (by simp [stI])).sF (by simp [stI])
      · rw [hc] at k1; cases k1
    have S136 : ∀ f : Nat → Int32, f 0 = gR g 1 one → f 1 = s (8 + one) → f 2 = s (24 + one) → f 3 = s (16 + one) → f 4 = s one / nI 10 → f 5 = gR g 0 one → f 6 = gR g 0 oth → WP alM mX12_strengthOf (k + 310) (fun v h' => v = vI (stF (gC g) (gR g) s one oth) ∧ Fm stS stI h h') 136 [some (vR 12 0), some (vR 40 i), some (vI (nI one)), some (vI (nI oth)), none] [] (sV h 46 0 f) := by
      intro f f0 f1 f2 f3 f4 f5 f6
      refine wp_at tX12_strengthOf [(150, [true, false, false, false, false])] 60 136 okM kX12_strengthOf ⟨ix1 47 (by omega), by decide, ix1 8 (by omega), ?_⟩
      rw [nI_clamp (show 46 < 2 ^ 31 by omega), nI_clamp (show 7 < 2 ^ 31 by omega), row, sV_sX]
      exact S150 _ (by rw [upd_n (by omega), f0]) (by rw [upd_n (by omega), f1]) (by rw [upd_n (by omega), f2]) (by rw [upd_n (by omega), f3]) (by rw [upd_n (by omega), f4]) (by rw [upd_n (by omega), f5]) (by rw [upd_n (by omega), f6]) upd_s
    have S113 : ∀ f : Nat → Int32, f 0 = gR g 1 one → f 1 = s (8 + one) → f 2 = s (24 + one) → f 3 = s (16 + one) → f 4 = s one / nI 10 → WP alM mX12_strengthOf (k + 310) (fun v h' => v = vI (stF (gC g) (gR g) s one oth) ∧ Fm stS stI h h') 113 [some (vR 12 0), some (vR 40 i), some (vI (nI one)), some (vI (nI oth)), none] [] (sV h 46 0 f) := by
      intro f f0 f1 f2 f3 f4
      have S124 : ∀ f : Nat → Int32, f 0 = gR g 1 one → f 1 = s (8 + one) → f 2 = s (24 + one) → f 3 = s (16 + one) → f 4 = s one / nI 10 → f 5 = gR g 0 one → WP alM mX12_strengthOf (k + 310) (fun v h' => v = vI (stF (gC g) (gR g) s one oth) ∧ Fm stS stI h h') 124 [some (vR 12 0), some (vR 40 i), some (vI (nI one)), some (vI (nI oth)), none] [] (sV h 46 0 f) := by
        intro f f0 f1 f2 f3 f4 f5
        refine wp_at tX12_strengthOf [(136, [true, true, true, true, false])] 60 124 okM kX12_strengthOf ⟨_, c_arms (wf f) h2, ?_⟩
        rintro v h' ⟨rfl, rfl⟩
        refine ⟨ix1 8 (by omega), ?_⟩
        rw [nI_clamp (show 6 < 2 ^ 31 by omega), sV_sX]
        exact S136 _ (by rw [upd_n (by omega), f0]) (by rw [upd_n (by omega), f1]) (by rw [upd_n (by omega), f2]) (by rw [upd_n (by omega), f3]) (by rw [upd_n (by omega), f4]) (by rw [upd_n (by omega), f5]) upd_s
      refine wp_at tX12_strengthOf [(124, [true, true, true, true, false])] 60 113 okM kX12_strengthOf ⟨_, c_arms (wf f) h1, ?_⟩
      rintro v h' ⟨rfl, rfl⟩
      refine ⟨ix1 8 (by omega), ?_⟩
      rw [nI_clamp (show 5 < 2 ^ 31 by omega), sV_sX]
      exact S124 _ (by rw [upd_n (by omega), f0]) (by rw [upd_n (by omega), f1]) (by rw [upd_n (by omega), f2]) (by rw [upd_n (by omega), f3]) (by rw [upd_n (by omega), f4]) upd_s
    have S101 : ∀ f : Nat → Int32, f 0 = gR g 1 one → f 1 = s (8 + one) → f 2 = s (24 + one) → f 3 = s (16 + one) → WP alM mX12_strengthOf (k + 310) (fun v h' => v = vI (stF (gC g) (gR g) s one oth) ∧ Fm stS stI h h') 101 [some (vR 12 0), some (vR 40 i), some (vI (nI one)), some (vI (nI oth)), none] [] (sV h 46 0 f) := by
      intro f f0 f1 f2 f3
      refine wp_at tX12_strengthOf [(113, [true, true, true, true, false])] 60 101 okM kX12_strengthOf ⟨ix1 47 (by omega), by decide, ix1 8 (by omega), ?_⟩
      rw [nI_clamp (show one < 2 ^ 31 by omega), nI_clamp (show 4 < 2 ^ 31 by omega), row, mS_lo (by omega), sV_sX]
      exact S113 _ (by rw [upd_n (by omega), f0]) (by rw [upd_n (by omega), f1]) (by rw [upd_n (by omega), f2]) (by rw [upd_n (by omega), f3]) upd_s
    have S89 : ∀ f : Nat → Int32, f 0 = gR g 1 one → f 1 = s (8 + one) → f 2 = s (24 + one) → WP alM mX12_strengthOf (k + 310) (fun v h' => v = vI (stF (gC g) (gR g) s one oth) ∧ Fm stS stI h h') 89 [some (vR 12 0), some (vR 40 i), some (vI (nI one)), some (vI (nI oth)), none] [] (sV h 46 0 f) := by
      intro f f0 f1 f2
      refine wp_at tX12_strengthOf [(101, [true, true, true, true, false])] 60 89 okM kX12_strengthOf ⟨ixN 47 (by omega), ix1 8 (by omega), ?_⟩
      rw [ixC (show 16 + one < 2 ^ 31 by omega), nI_clamp (show 3 < 2 ^ 31 by omega), row, mS_lo (by omega), sV_sX]
      exact S101 _ (by rw [upd_n (by omega), f0]) (by rw [upd_n (by omega), f1]) (by rw [upd_n (by omega), f2]) upd_s
    have S77 : ∀ f : Nat → Int32, f 0 = gR g 1 one → f 1 = s (8 + one) → WP alM mX12_strengthOf (k + 310) (fun v h' => v = vI (stF (gC g) (gR g) s one oth) ∧ Fm stS stI h h') 77 [some (vR 12 0), some (vR 40 i), some (vI (nI one)), some (vI (nI oth)), none] [] (sV h 46 0 f) := by
      intro f f0 f1
      refine wp_at tX12_strengthOf [(89, [true, true, true, true, false])] 60 77 okM kX12_strengthOf ⟨ixN 47 (by omega), ix1 8 (by omega), ?_⟩
      rw [ixC (show 24 + one < 2 ^ 31 by omega), nI_clamp (show 2 < 2 ^ 31 by omega), row, mS_lo (by omega), sV_sX]
      exact S89 _ (by rw [upd_n (by omega), f0]) (by rw [upd_n (by omega), f1]) upd_s
    have S65 : ∀ f : Nat → Int32, f 0 = gR g 1 one → WP alM mX12_strengthOf (k + 310) (fun v h' => v = vI (stF (gC g) (gR g) s one oth) ∧ Fm stS stI h h') 65 [some (vR 12 0), some (vR 40 i), some (vI (nI one)), some (vI (nI oth)), none] [] (sV h 46 0 f) := by
      intro f f0
      refine wp_at tX12_strengthOf [(77, [true, true, true, true, false])] 60 65 okM kX12_strengthOf ⟨ixN 47 (by omega), ix1 8 (by omega), ?_⟩
      rw [ixC (show 8 + one < 2 ^ 31 by omega), nI_clamp (show 1 < 2 ^ 31 by omega), row, mS_lo (by omega), sV_sX]
      exact S77 _ (by rw [upd_n (by omega), f0]) upd_s
    refine wp_at tX12_strengthOf [(65, [true, true, true, true, false])] 60 54 okM kX12_strengthOf ⟨_, c_skill w h1, ?_⟩
    rintro v h' ⟨rfl, rfl⟩
    refine ⟨ix1 8 (by omega), ?_⟩
    rw [nI_clamp (show 0 < 2 ^ 31 by omega)]
    exact S65 (upd (h'.1 46 0) 0 (gR g 1 one)) upd_s
  · have c0 : n = 0 := nI_inj (by omega) (by omega) (w13.symm.trans (nn c))
    have ec : gC g = stdC := by rw [c0, rdO_0] at w15; exact (Option.some.inj w15).symm
    refine ⟨_, c_skill w h1, ?_⟩
    rintro v h' ⟨rfl, rfl⟩
    refine ⟨ixN 47 (by omega), ixN 47 (by omega), ?_⟩
    rw [ixC (by omega), ixC (by omega), s8 _ (by omega), s8 _ (by omega)]
    refine ⟨_, c_arms w h1, ?_⟩
    rintro v h' ⟨rfl, rfl⟩
    refine ⟨_, c_arms w h2, ?_⟩
    rintro v h' ⟨rfl, rfl⟩
    unfold stF
    rw [ec, vl_std]
    have l1 : ltF (gR g) s one oth (nI 115) = gR g 1 one := rfl
    have l2 : ltF (gR g) s one oth (nI 104) = s (8 + one) := rfl
    have l3 : ltF (gR g) s one oth (nI 119) = s (24 + one) := rfl
    have l4 : ltF (gR g) s one oth (nI 97) = gR g 0 one := rfl
    have l5 : ltF (gR g) s one oth (nI 101) = gR g 0 oth := rfl
    rw [l1, l2, l3, l4, l5, b2_m3]
    refine ⟨fun c2 => ⟨?_, Fm.rf⟩, fun c2 => ⟨?_, Fm.rf⟩⟩
    · rw [dF (i_ltn c2)]; rfl
    · rw [dT (i_nle c2)]; rfl
