/-! the reference: games, all of it -/
theorem act1_cg {T T' : Nat → Int32} {n : Nat} (e : ∀ p, pk T n 60 p = pk T' n 60 p) (p : Nat) : act1 T n p = act1 T' n p := by
  have d : acD T n p = acD T' n p := by unfold acD; rw [e p, tkD_cg e]
  have d2 : acE T n p = acE T' n p := by unfold acE; rw [d, tkD_cg e]
  unfold act1
  rw [e p, d, d2]
theorem acs_cg {T T' : Nat → Int32} {n : Nat} (e : ∀ p, pk T n 60 p = pk T' n 60 p) : ∀ f p, acs T n f p = acs T' n f p
  | 0, p => rfl
  | f + 1, p => by rw [acs, acs, act1_cg e, acs_cg e f]
def AcO (x : Act) : Prop := acK x.1 = true ∧ (x.1 = nI 100 → okD x.2.1 = true)
theorem act1_o {T : Nat → Int32} {n p : Nat} {x : Act} (h : (act1 T n p).2 = some x) : AcO x := by
  unfold act1 at h
  split at h
  next c =>
    split at h
    next c2 => cases h
    next c2 =>
      have key : pk T n 60 p = nI 100 → okD (acD T n p).1 = true := by
        intro hp
        unfold acD at c2 ⊢
        rw [if_pos hp] at c2 ⊢
        obtain ⟨h1, h2, h3⟩ := tkD_ok c2
        rw [h1]
        show okD (pk T n 60 (p + 1) - nI 48) = true
        unfold okD
        rw [dT (Int32.not_lt.mp h2), dT (Int32.le_trans (Int32.not_lt.mp h3) (by decide))]; rfl
      split at h
      next c3 =>
        split at h
        next => cases h
        next => cases h; exact ⟨c, key⟩
      next c3 => cases h; exact ⟨c, key⟩
  next c => cases h
def Ag (T : Nat → Int32) (n t p : Nat) (l0 : List Act) : Prop := l0.length = t ∧ 2 * t ≤ p ∧ (acs T n 60 0).1 = (acs T n (60 - t) p).1 ∧ (acs T n 60 0).2 = (acs T n (60 - t) p).2.map (fun l => l0 ++ l) ∧ ∀ x, x ∈ l0 → AcO x
section
variable {T : Nat → Int32} {n t p : Nat} {l0 : List Act}
theorem ag_0 : Ag T n 0 0 [] := ⟨rfl, by omega, rfl, by
  show (acs T n 60 0).2 = ((acs T n 60 0).2).map (fun l => [] ++ l)
  cases (acs T n 60 0).2 <;> rfl, fun x hx => by simp at hx⟩
theorem ag_E (g : Ag T n t p l0) (h : n ≤ p) : (acs T n 60 0).2 = some l0 := by
  obtain ⟨-, -, -, g3, -⟩ := g
  rw [acs_E h] at g3
  rw [g3]
  show some (l0 ++ []) = _
  rw [List.append_nil]
theorem ag_N (g : Ag T n t p l0) (ht : t < 60) (h : ¬ n ≤ p) (h2 : (act1 T n p).2 = none) : (acs T n 60 0).1 = (act1 T n p).1 ∧ (acs T n 60 0).2 = none := by
  obtain ⟨-, -, g2, g3, -⟩ := g
  rw [show 60 - t = (60 - (t + 1)) + 1 by omega, acs_N h h2] at g2 g3
  exact ⟨g2, g3⟩
theorem ag_S {x : Act} (g : Ag T n t p l0) (ht : t < 60) (h : ¬ n ≤ p) (h2 : (act1 T n p).2 = some x) : Ag T n (t + 1) (act1 T n p).1 (l0 ++ [x]) := by
  obtain ⟨g0, g1, g2, g3, g4⟩ := g
  rw [show 60 - t = (60 - (t + 1)) + 1 by omega, acs_S h h2] at g2 g3
  refine ⟨by rw [List.length_append, g0]; rfl, by have := (act1_in h2).2; omega, g2, ?_, fun y hy => ?_⟩
  · rw [g3]
    show Option.map _ (Option.map _ _) = _
    rw [Option.map_map]
    congr 1
    funext l
    simp
  · rw [List.mem_append] at hy
    rcases hy with w | w
    · exact g4 y w
    · simp at w; rw [w]; exact act1_o h2
end
def CoA (f : Nat → Int32) (ls : List Act) : Prop := ∀ i x, ls[i]? = some x → f (3 * i) = x.1 ∧ f (3 * i + 1) = x.2.1 ∧ (x.1 = nI 102 → f (3 * i + 2) = x.2.2)
theorem CoA.sn {f f' : Nat → Int32} {ls : List Act} {x : Act} (c : CoA f ls) (e : ∀ i, i < 3 * ls.length → f' i = f i) (e2 : f' (3 * ls.length) = x.1 ∧ f' (3 * ls.length + 1) = x.2.1 ∧ (x.1 = nI 102 → f' (3 * ls.length + 2) = x.2.2)) : CoA f' (ls ++ [x]) := by
  intro i y hi
  by_cases h : i < ls.length
  · rw [List.getElem?_append_left h] at hi
    obtain ⟨c1, c2, c3⟩ := c i y hi
    exact ⟨by rw [e _ (by omega)]; exact c1, by rw [e _ (by omega)]; exact c2, fun w => by rw [e _ (by omega)]; exact c3 w⟩
  · rw [List.getElem?_append_right (by omega)] at hi
    have hl := (List.getElem?_eq_some_iff.mp hi).1
    simp at hl
    have : i = ls.length := by omega
    subst this
    rw [Nat.sub_self] at hi
    cases hi
    exact e2
theorem pl1_cg {g : GS} {s : Sta} {x y : Act} (h1 : y.1 = x.1) (h2 : y.2.1 = x.2.1) (h3 : x.1 = nI 102 → y.2.2 = x.2.2) : pl1 g s y = pl1 g s x := by
  unfold pl1
  rw [h1, h2]
  by_cases c : x.1 = nI 102
  · rw [h3 c]
  · rw [if_neg c, if_neg c]
theorem m_Games {B D k : Nat} {h : Hp} {g : GS} (a : MI B h g) (z : Sz g) (iv : Inv D g) : Ct alM mX12_games (k + 322) [vR 12 0] h (fun v h' => v = vI (aGames g) ∧ MI B h' (nGames g)) := by
  have hn := z.1
  have a0 := a.fld (j := 10) (x := nI 0) (by decide)
  obtain ⟨h0, hh0⟩ : ∃ h0, sX h 12 0 10 (nI 0) = h0 := ⟨_, rfl⟩
  rw [hh0] at a0
  have e7 : h0.1 12 0 7 = nI (gTn g) := a0.2.2.2.1.1
  have hn80 : gTn g ≤ 80 := z.2.2.1
  have hb := a0.2.2.2.1.2.1
  have hT := a0.2.2.2.1.2.2
  refine ct_vc tX12_games [(5, [true, false, false])] 20 okM kX12_games rfl ?_
  show WP alM mX12_games (k + 322) _ 5 [some (vR 12 0), none, none] [] (sX h 12 0 10 (nI 0))
  rw [hh0]
  refine wp_at tX12_games [(13, [true, true, false])] 40 5 okM kX12_games ⟨_, c_beginText e7, ?_⟩
  rintro v h1 rfl
  obtain ⟨h1, hh1⟩ : ∃ h1, h1 = sX (bgH h0 0 (nI (gTn g)) (nI 60)) 12 0 7 (nI 0) := ⟨_, rfl⟩
  rw [← hh1]
  have t1 : TxM h1 0 (gTn g) 60 0 := by
    rw [hh1]
    exact (bgH_t (r := 0) (L := 60) (by omega) (by simpa using hn80) (by omega) hb).fld (by omega)
  have T1 : mT h1 0 = mT h0 0 := by rw [hh1, mT_f, bgH_T]
  have f1 : Fm [] [7, 12, 13, 14, 15] h0 h1 := by
    rw [hh1]
    exact (bgH_f Fm.rf (by simp) (by simp) (by simp) (by simp)).sF (by simp)
  have e71 : h1.1 12 0 7 = nI 0 := by rw [hh1, rdX, if_pos (by simp)]
  have a1 : MI B h1 (uT g (0, gT g)) := a0.txt f1 (by simp [scI]) e71
  have eL : acs (mT h1 0) (gTn g) 60 0 = acG g := by
    rw [T1]
    exact acs_cg (pk_cgT hT) _ _
  obtain ⟨P, hP⟩ : ∃ P : AV → Hp → Prop, P = fun v h' => v = vI (aGames g) ∧ MI B h' (nGames g) := ⟨_, rfl⟩
  rw [← hP]
  have EN : ∀ (t : Nat) H, Fm [(48, 0)] [14, 15] h1 H → (acG g).2 = none → (acG g).1 ≤ 90 → H.1 12 0 15 = nI (acG g).1 → WP alM mX12_games (k + 322) P 44 [some (vR 12 0), some (vI (nI t)), none] [] H := by
    intro t H fm hN hle e15
    refine wp_at tX12_games [] 20 44 okM kX12_games ⟨_, c_wasRightN (by rw [e15]; exact nI_nm1 (by omega)), ?_⟩
    rintro v H1 ⟨rfl, rfl⟩
    refine ⟨fun w => absurd rfl w, fun _ => ?_⟩
    rw [hP]
    have eA : aGames g = -(nI 1) - nI (acG g).1 := by unfold aGames; rw [hN]
    have eN : nGames g = uT g (0, gT g) := by unfold nGames; rw [hN]
    show vI (-(nI 1) - H1.1 12 0 15) = _ ∧ _
    rw [eA, eN, e15]
    exact ⟨rfl, a1.scr fm (by simp [scA]) (by simp [scI])⟩
  have EY : ∀ p t ls H, Fm [(48, 0)] [14, 15] h1 H → TxM H 0 (gTn g) 60 p → p ≤ 200 → gTn g ≤ p → (acG g).2 = some ls → ls.length = t → t ≤ 60 → CoA (H.1 48 0) ls → (∀ x, x ∈ ls → AcO x) → WP alM mX12_games (k + 322) P 44 [some (vR 12 0), some (vI (nI t)), none] [] H := by
    intro p t ls H fm tx hp200 hnp hS hl ht60 co ok
    have eA : aGames g = nI (plR g ls (gS g)).1 := by unfold aGames; rw [hS]
    have eN : nGames g = uL (pgG g ls) (rGames g ls) := by unfold nGames; rw [hS]
    have aH : MI B H (uT g (0, gT g)) := a1.scr fm (by simp [scA]) (by simp [scI])
    refine wp_at tX12_games [(72, [true, true, true])] 30 44 okM kX12_games ⟨_, c_wasRightY tx.2.2.2.2.2.1 tx.2.2.2.2.1 tx.2.2.1 (by omega) (by omega), ?_⟩
    rw [dT hnp, if_pos hnp]
    rintro v H1 ⟨rfl, rfl⟩
    refine ⟨fun _ => ⟨_, c_layS (i := 0) (i2 := 1) (by omega), ?_⟩, fun c => absurd (by decide) c⟩
    rintro v H2 rfl
    have x40 : H1.1 40 0 = mS (gS g) := aH.1.1
    rw [x40]
    have a2 : MI B (sV H1 40 1 (mS (gS g))) (uT g (0, gT g)) := aH.scr (S := [(40, 1)]) (F := []) (Fm.rf.sV (by simp) (by decide)) (by simp [scA]) (by simp)
    -- the end: d are done, whether all
    have FIN : ∀ d s fl H, (plR g ls (gS g)) = (d, s, fl) → (fl = true ↔ t ≤ d) → d ≤ t → MI B H (uS (uT g (0, gT g)) s) → H.1 40 1 = mS (gS g) → FK (gN g) (gS g) s → WP alM mX12_games (k + 322) P 118 [some (vR 12 0), some (vI (nI t)), some (vI (nI d))] [] H := by
      intro d s fl H e hfl hd aH2 x1 fk
      have R130 : ∀ H, MI B H (pgG g ls) → H.1 40 1 = mS (gS g) → WP alM mX12_games (k + 322) P 130 [some (vR 12 0), some (vI (nI t)), some (vI (nI d))] [] H := by
        intro H aH x1
        have es : gS (pgG g ls) = s ∧ gN (pgG g ls) = gN g := by
          unfold pgG
          rw [e]
          split <;> exact ⟨rfl, rfl⟩
        have M1 := aH.clr
        have F : ∀ y : Int64, (if fl = true then lN 0 else lN 1) = y → WP alM mX12_games (k + 322) P 146 [some (vR 12 0), some (vI (nI t)), some (vI (nI d))] [vL y, vR 12 0] (sX H 12 0 9 (nI 0)) := by
          intro y hy
          refine wp_at tX12_games [] 60 146 okM kX12_games ⟨_, c_tellR M1 (by show (0 : Nat) < 16; decide), ?_⟩
          rintro v H3 ⟨M3, k3, j3, -⟩
          have y0 : H3.1 40 0 = mS s := by rw [← es.1]; exact M3.1.1
          have y1 : H3.1 40 1 = mS (gS g) := by rw [k3 40 1 (by simp), sX_row, if_neg (by simp)]; exact x1
          have yn : H3.1 12 0 1 = nI (gN g) := by rw [← es.2]; exact M3.2.1.1
          refine ⟨_, c_those yn hn y0, ?_⟩
          rintro v H4 ⟨rfl, rfl⟩
          refine ⟨_, c_those yn hn y1, ?_⟩
          rintro v H4 ⟨rfl, rfl⟩
          refine ⟨_, c_bitCount okM, ?_⟩
          rintro v H4 ⟨rfl, rfl⟩
          rw [mr_eq hn (by decide) fk]
          refine ⟨_, c_tellR M3 (by show (1 : Nat) < 16; decide), ?_⟩
          rintro v H5 ⟨M5, -⟩
          rw [hP, eA, eN]
          unfold rGames
          rw [e]
          show _ = vI (nI d) ∧ MI B H5 (uL (pgG g ls) [if fl = true then lN 0 else lN 1, (mrF (gS g) s (nI 1) (gN g)).toInt64])
          rw [hy]
          exact ⟨rfl, M5⟩
        refine wp_at tX12_games [(146, [true, true, true])] 30 130 okM kX12_games ⟨fun c => F _ ?_, fun c => F _ ?_⟩
        · rw [if_pos (hfl.mpr ((nI_leI (by omega) (by omega)).mp c))]
        · rw [if_neg (fun w => c (nI_le (hfl.mp w) (by omega)))]
      refine wp_at tX12_games [(130, [true, true, true])] 30 118 okM kX12_games ⟨fun c => ?_, fun c => ⟨_, c_remember (i := 1) aH2.2.2.2.2.2.2.1 z.2.2.2.2.1 x1, ?_⟩⟩
      · have d0 : d = 0 := by have := (nI_leI (a := d) (b := 0) (by omega) (by omega)).mp c; omega
        refine R130 H ?_ x1
        unfold pgG
        rw [e, if_pos d0]
        exact aH2
      · have d0 : ¬ d = 0 := fun w => c (by rw [w]; exact Int32.le_refl _)
        rintro v H3 ⟨fm3, m3⟩
        refine R130 H3 ?_ (by rw [fm3.2.2.1 40 1 (by simp) (by simp [rmS])]; exact x1)
        unfold pgG
        rw [e, if_neg d0]
        exact aH2.pst fm3 m3
    have L : ∀ r d s H, d + r = t → (plR g ls (gS g)).1 = d + (plR g (ls.drop d) s).1 → (plR g ls (gS g)).2 = (plR g (ls.drop d) s).2 → MI B H (uS (uT g (0, gT g)) s) → H.1 40 1 = mS (gS g) → CoA (H.1 48 0) ls → PI (gN g) s → FK (gN g) (gS g) s → WP alM mX12_games (k + 322) P 72 [some (vR 12 0), some (vI (nI t)), some (vI (nI d))] [] H := by
      intro r
      induction r with
      | zero =>
        intro d s H hd p1 p2 aH2 x1 co pi fk
        obtain rfl : d = t := by omega
        rw [List.drop_of_length_le (by omega)] at p1 p2
        have e : plR g ls (gS g) = (d, s, true) := Prod.ext p1 p2
        exact wp_at tX12_games [(118, [true, true, true])] 20 72 okM kX12_games ⟨fun _ => FIN d s true H e ⟨fun _ => Nat.le_refl _, fun _ => rfl⟩ (Nat.le_refl _) aH2 x1 fk, fun c => absurd (nI_le (Nat.le_refl _) (by omega)) c⟩
      | succ r IH =>
        intro d s H hd p1 p2 aH2 x1 co pi fk
        have hdl : d < ls.length := by omega
        have hx : ls[d]? = some ls[d] := List.getElem?_eq_getElem hdl
        obtain ⟨x, hxx⟩ : ∃ x, x = ls[d] := ⟨_, rfl⟩
        rw [← hxx] at hx
        have edr : ls.drop d = x :: ls.drop (d + 1) := by rw [hxx]; exact List.drop_eq_getElem_cons hdl
        rw [edr] at p1 p2
        obtain ⟨c1, c2, c3⟩ := co d x hx
        have okx : AcO x := ok x (by rw [hxx]; exact List.getElem_mem hdl)
        have i0 : nI 3 * nI d = nI (3 * d) := nI_mul 3 d
        have i1 : ∀ j, nI 3 * nI d + nI j = nI (3 * d + j) := fun j => n3j
        obtain ⟨y, hy⟩ : ∃ y : Act, y = (H.1 48 0 (3 * d), H.1 48 0 (3 * d + 1), H.1 48 0 (3 * d + 2)) := ⟨_, rfl⟩
        have epl : ∀ s, pl1 g s y = pl1 g s x := fun s => by rw [hy]; exact pl1_cg c1 c2 c3
        have ac := c_act (B := B) (k := k) (x := y) aH2 ⟨z.1, z.2.1, Nat.zero_le _, z.2.2.2⟩ iv.1 iv.sw pi (by rw [hy]; show acK (H.1 48 0 (3 * d)) = true; rw [c1]; exact okx.1) (by rw [hy]; show H.1 48 0 (3 * d) = nI 100 → okD (H.1 48 0 (3 * d + 1)) = true; rw [c1, c2]; exact okx.2)
        refine wp_at tX12_games [(72, [true, true, true]), (118, [true, true, true])] 60 72 okM kX12_games ⟨fun c => absurd c (nI_ge (show d < t by omega) (by omega)), fun _ => ⟨by rw [i0]; exact ix1 240 (by omega), by rw [i1]; exact ix1 240 (by omega), by rw [i1]; exact ix1 240 (by omega), _, ct_cv ac ?_ rfl, ?_⟩⟩
        · rw [i0, nI_add, nI_add, nI_clamp (by omega), nI_clamp (by omega), nI_clamp (by omega), hy]
        · rintro v H3 ⟨r1, r2, ⟨s', e1, rfl, m3, pi3, fk3⟩ | ⟨e1, rfl, m3⟩⟩
          · have e2 : pl1 g s x = some s' := (epl s).symm.trans e1
            rw [plR_S e2] at p1 p2
            have := IH (d + 1) s' H3 (by omega) (by rw [p1]; omega) p2 m3 (by rw [r1]; exact x1) (by rw [r2]; exact co) pi3 (fun j hj hs => by rw [fk3 j hj (by show s (32 + j) ≠ 0; rw [fk j hj hs]; exact hs)]; exact fk j hj hs)
            rw [← nI_add d 1] at this
            exact ⟨fun c => absurd c (by decide), fun _ => this⟩
          · have e2 : pl1 g s x = none := (epl s).symm.trans e1
            rw [plR_N e2] at p1 p2
            have e : plR g ls (gS g) = (d, s, false) := Prod.ext p1 p2
            exact ⟨fun _ => FIN d s false H3 e ⟨fun w => (by cases w), fun w => by omega⟩ (by omega) m3 (by rw [r1]; exact x1) fk, fun c => absurd rfl c⟩
    exact L t 0 (gS g) _ (by omega) (by rw [List.drop_zero]; omega) (by rw [List.drop_zero]) a2 sV_same (by rw [rdV, if_neg (by simp)]; exact co) iv.pi (fun _ _ _ => rfl)
  have L : ∀ r t p l0 H, p + r = 200 → Fm [(48, 0)] [14, 15] h1 H → TxM H 0 (gTn g) 60 p → p ≤ 60 → Ag (mT h1 0) (gTn g) t p l0 → CoA (H.1 48 0) l0 → WP alM mX12_games (k + 322) P 13 [some (vR 12 0), some (vI (nI t)), none] [] H := by
    intro r
    induction r using Nat.strongRecOn with
    | ind r IH =>
      intro t p l0 H hr fm tx hp ag co
      have TH : mT H 0 = mT h1 0 := mT_cg (fm.2.2.1 43 0 (by simp) (by simp))
      have ht : t ≤ 30 := by have := ag.2.1; omega
      refine wp_at tX12_games [(44, [true, true, false]), (13, [true, true, false])] 40 13 okM kX12_games ⟨_, c_mfine, ?_⟩
      rintro v H1 ⟨rfl, rfl⟩
      rw [dT tx.2.2.2.2.2.1]
      refine ⟨fun c => absurd c (by decide), fun _ => ⟨fun c => ?_, fun c => ?_⟩⟩
      · have c' : gTn g ≤ p := by
          have c2 : H1.1 12 0 12 ≤ H1.1 12 0 14 := c
          rw [tx.2.2.1, tx.2.2.2.2.1] at c2
          exact (nI_leI (by omega) (by omega)).mp c2
        have eS := ag_E ag c'
        rw [eL] at eS
        exact EY p t l0 H1 fm tx (by omega) c' eS ag.1 (by omega) co ag.2.2.2.2
      · have c' : ¬ gTn g ≤ p := fun w => c (by
          show H1.1 12 0 12 ≤ H1.1 12 0 14
          rw [tx.2.2.1, tx.2.2.2.2.1]
          exact nI_le w (by omega))
        have n3 : nI 3 * nI t = nI (3 * t) := nI_mul 3 t
        refine ⟨_, ct_cv (c_readAct (k := k + 317) (base := 3 * t) tx (by omega) (fun _ => by omega)) (congrArg (fun x => [vR 12 0, vI x]) n3) rfl, ?_⟩
        rintro v H2 ⟨rf, cs⟩
        rw [TH] at cs
        have fm2 : Fm [(48, 0)] [14, 15] h1 H2 := fm.tr rf.1 (fun _ h => h) (fun _ h => h)
        rcases cs with ⟨x, d1, tx2, v0, v1, v2⟩ | ⟨d1, d2, d3⟩
        · have din := act1_in d1
          have := IH (200 - (act1 (mT h1 0) (gTn g) p).1) (by omega) (t + 1) (act1 (mT h1 0) (gTn g) p).1 (l0 ++ [x]) H2 (by omega) fm2 tx2 din.1 (ag_S ag (by omega) c' d1) (co.sn (fun i hi => rf.2 i (by rw [ag.1] at hi; exact hi)) (by rw [ag.1]; exact ⟨v0, v1, v2⟩))
          rw [← nI_add t 1] at this
          exact this
        · obtain ⟨l1, l2⟩ := ag_N ag (by omega) c' d1
          rw [eL] at l1 l2
          have := EN (t + 1) H2 fm2 l2 (by omega) (by rw [l1]; exact d3)
          rw [← nI_add t 1] at this
          refine wp_at tX12_games [(44, [true, true, false])] 20 13 okM kX12_games ⟨_, c_mfine, ?_⟩
          rw [dF (by rw [d3]; exact nI_nm1 (by omega))]
          rintro v H3 ⟨rfl, rfl⟩
          exact ⟨fun _ => this, fun c => absurd rfl c⟩
  exact L 200 0 0 [] h1 (by omega) Fm.rf t1 (by omega) ag_0 (fun i l hi => by simp at hi)
