/-! the reference: fighters -/
/-- lines so far: ls0, the rest is read from p on -/
def Lg (T : Nat → Int32) (n L fm r0 t p : Nat) (ls0 : List (List Int32)) : Prop := ls0.length = t ∧ t ≤ r0 ∧ (rdLs T n L fm r0 0).1 = (rdLs T n L fm (r0 - t) p).1 ∧ (rdLs T n L fm r0 0).2 = (rdLs T n L fm (r0 - t) p).2.map (fun l => ls0 ++ l)
section
variable {T : Nat → Int32} {n L fm r0 t p : Nat} {ls0 : List (List Int32)}
theorem lgg_0 : Lg T n L fm r0 0 0 [] := ⟨rfl, Nat.zero_le _, rfl, by
  show (rdLs T n L fm r0 0).2 = ((rdLs T n L fm r0 0).2).map (fun l => [] ++ l)
  cases (rdLs T n L fm r0 0).2 <;> rfl⟩
theorem lg_f (g : Lg T n L fm r0 r0 p ls0) : (rdLs T n L fm r0 0).1 = p ∧ (rdLs T n L fm r0 0).2 = none := by
  obtain ⟨-, -, g2, g3⟩ := g
  rw [Nat.sub_self] at g2 g3
  exact ⟨g2, g3⟩
theorem lg_N (g : Lg T n L fm r0 t p ls0) (ht : t < r0) (h : (rdLn T n L fm 5 0 p).2 = none) : (rdLs T n L fm r0 0).1 = (rdLn T n L fm 5 0 p).1 ∧ (rdLs T n L fm r0 0).2 = none := by
  obtain ⟨-, -, g2, g3⟩ := g
  rw [show r0 - t = (r0 - (t + 1)) + 1 by omega, rdLs_N h] at g2 g3
  exact ⟨g2, g3⟩
theorem lg_E {l : List Int32} (g : Lg T n L fm r0 t p ls0) (ht : t < r0) (h : (rdLn T n L fm 5 0 p).2 = some l) (h2 : n ≤ (rdLn T n L fm 5 0 p).1) : (rdLs T n L fm r0 0).1 = (rdLn T n L fm 5 0 p).1 ∧ (rdLs T n L fm r0 0).2 = some (ls0 ++ [l]) := by
  obtain ⟨-, -, g2, g3⟩ := g
  rw [show r0 - t = (r0 - (t + 1)) + 1 by omega, rdLs_E h h2] at g2 g3
  exact ⟨g2, g3⟩
theorem lg_X {l : List Int32} (g : Lg T n L fm r0 t p ls0) (ht : t < r0) (h : (rdLn T n L fm 5 0 p).2 = some l) (h2 : ¬ n ≤ (rdLn T n L fm 5 0 p).1) (h3 : ¬ pk T n L (rdLn T n L fm 5 0 p).1 = nI 59) : (rdLs T n L fm r0 0).1 = (rdLn T n L fm 5 0 p).1 ∧ (rdLs T n L fm r0 0).2 = none := by
  obtain ⟨-, -, g2, g3⟩ := g
  rw [show r0 - t = (r0 - (t + 1)) + 1 by omega, rdLs_X h h2 h3] at g2 g3
  exact ⟨g2, g3⟩
theorem lg_M {l : List Int32} (g : Lg T n L fm r0 t p ls0) (ht : t < r0) (h : (rdLn T n L fm 5 0 p).2 = some l) (h2 : ¬ n ≤ (rdLn T n L fm 5 0 p).1) (h3 : pk T n L (rdLn T n L fm 5 0 p).1 = nI 59) : Lg T n L fm r0 (t + 1) ((rdLn T n L fm 5 0 p).1 + 1) (ls0 ++ [l]) := by
  obtain ⟨g1, -, g2, g3⟩ := g
  rw [show r0 - t = (r0 - (t + 1)) + 1 by omega, rdLs_M h h2 h3] at g2 g3
  refine ⟨by rw [List.length_append, g1]; rfl, ht, g2, ?_⟩
  rw [g3]
  show Option.map _ (Option.map _ _) = _
  rw [Option.map_map]
  congr 1
  funext x
  simp
end
def CoK (f : Nat → Int32) (w : Nat) (ls : List (List Int32)) : Prop := ∀ i l, ls[i]? = some l → ∀ j, j < w → f (w * i + j) = l.getD j 0
theorem CoK.sn {f f' : Nat → Int32} {w : Nat} {ls : List (List Int32)} {l : List Int32} (c : CoK f w ls) (e : ∀ i, i < w * ls.length → f' i = f i) (e2 : ∀ j, j < w → f' (w * ls.length + j) = l.getD j 0) : CoK f' w (ls ++ [l]) := by
  intro i x hi j hj
  by_cases h : i < ls.length
  · rw [List.getElem?_append_left h] at hi
    have : w * i + w ≤ w * ls.length := by rw [← Nat.mul_succ]; exact Nat.mul_le_mul_left w h
    rw [e _ (by omega)]
    exact c i x hi j hj
  · rw [List.getElem?_append_right (by omega)] at hi
    have hl := (List.getElem?_eq_some_iff.mp hi).1
    simp at hl
    have : i = ls.length := by omega
    subst this
    rw [Nat.sub_self] at hi
    cases hi
    exact e2 j hj
theorem c_told {k : Nat} {h : Hp} : Ct alM mX12_told k [vR 12 0] h (Rv (sX (sX h 12 0 23 (nI 0)) 12 0 45 (h.1 12 0 45 + nI 1))) := by
  refine ct_vc tX12_told [] 20 okM kX12_told rfl ?_
  show sX (sX h 12 0 23 (nI 0)) 12 0 45 ((sX h 12 0 23 (nI 0)).1 12 0 45 + nI 1) = _
  rw [rdX, if_neg (by simp)]
theorem m8_up {B : Nat} {h h' : Hp} {g g' : GS} (a : m8 B h g) (e1 : h'.1 12 0 45 = h.1 12 0 45 + nI 1) (e2 : h'.1 59 0 = h.1 59 0) (e3 : h'.1 60 0 = h.1 60 0) (ek : gK g' = noK) : m8 (B + 1) h' g' := by
  obtain ⟨c, hc, k1, k2⟩ := a
  refine ⟨c + 1, by omega, by rw [e1, k1, nI_add], fun i hi => ⟨fun s hs => (by rw [ek] at hs; cases hs), fun _ => ?_⟩⟩
  rw [e2, e3]
  cases hk : gK g i with
  | none =>
    rcases (k2 i hi).2 hk with w | ⟨c', w1, w2⟩
    · exact Or.inl w
    · exact Or.inr ⟨c', by omega, w2⟩
  | some s => exact Or.inr ⟨c, by omega, ((k2 i hi).1 s hk).2.1⟩
theorem m_Fighters {B k : Nat} {h : Hp} {g : GS} {R' : Nat → Nat → Int32} (a : MI B h g) (z : Sz g) (ra : RAg (gR g) R' (gN g) (lnG g 0).2) : Ct alM mX12_fighters (k + 5) [vR 12 0] h (fun v h' => v = vI (aFighters g) ∧ MI (B + 1) h' (nFighters g R')) := by
  have hn := z.1
  have a0 := a.fld (j := 10) (x := nI 0) (by decide)
  obtain ⟨h0, hh0⟩ : ∃ h0, sX h 12 0 10 (nI 0) = h0 := ⟨_, rfl⟩
  rw [hh0] at a0
  have e7 : h0.1 12 0 7 = nI (gTn g) := a0.2.2.2.1.1
  have hn80 : gTn g ≤ 80 := z.2.2.1
  have hb := a0.2.2.2.1.2.1
  have hT := a0.2.2.2.1.2.2
  refine ct_vc tX12_fighters [(5, [true, false, false, false, false])] 20 okM kX12_fighters rfl ?_
  show WP alM mX12_fighters (k + 5) _ 5 [some (vR 12 0), none, none, none, none] [] (sX h 12 0 10 (nI 0))
  rw [hh0]
  refine wp_at tX12_fighters [(24, [true, true, true, false, false])] 40 5 okM kX12_fighters ⟨_, c_beginText e7, ?_⟩
  rintro v h1 rfl
  obtain ⟨h1, hh1⟩ : ∃ h1, h1 = sX (bgH h0 0 (nI (gTn g)) (nI 62)) 12 0 7 (nI 0) := ⟨_, rfl⟩
  rw [← hh1]
  have t1 : TxM h1 0 (gTn g) 62 0 := by
    rw [hh1]
    exact (bgH_t (r := 0) (L := 62) (by omega) (by simpa using hn80) (by omega) hb).fld (by omega)
  have T1 : mT h1 0 = mT h0 0 := by rw [hh1, mT_f, bgH_T]
  have f1 : Fm [] [7, 12, 13, 14, 15] h0 h1 := by
    rw [hh1]
    exact (bgH_f Fm.rf (by simp) (by simp) (by simp) (by simp)).sF (by simp)
  have e71 : h1.1 12 0 7 = nI 0 := by rw [hh1, rdX, if_pos (by simp)]
  have a1 : ∀ T, MI (B + 1) h1 (uT g (0, T)) := fun T => (a0.up (Nat.le_succ B)).txt f1 (by simp [scI]) e71
  have eL : rdLs (mT h1 0) (gTn g) 62 0 (8 - gN g) 0 = lnG g 0 := by
    rw [T1]
    exact rdLs_cg (pk_cgT hT) _ _
  refine ⟨fun c => ?_, fun c => ?_⟩
  · have c' : ¬ gTn g = 0 := fun w => c (by rw [t1.2.2.1, w]; rfl)
    have qN : (lnG g 0).2 = none → aFighters g = -(nI 1) - nI (lnG g 0).1 ∧ nFighters g R' = uT (uR g (gN g, R')) (0, gT g) := by
      intro hN
      unfold aFighters nFighters
      rw [if_neg c', if_neg c', hN]
      exact ⟨rfl, rfl⟩
    have qS : ∀ ls, (lnG g 0).2 = some ls → aFighters g = nI ls.length ∧ nFighters g R' = uK (uP (uT (uR (uS g (ntS (gS g) R' (gN g) ls.length)) (gN g + ls.length, R')) (0, gT g)) []) noK := by
      intro ls hS
      unfold aFighters nFighters
      rw [if_neg c', if_neg c', hS]
      exact ⟨rfl, rfl⟩
    -- the end: a fault
    have BAD : ∀ (t : Nat) H, Fm [(45, 0)] [14, 15] h1 H → (lnG g 0).2 = none → H.1 12 0 15 = nI (lnG g 0).1 → MI (B + 1) H (nFighters g R') ∧ vI (-(nI 1) - H.1 12 0 15) = vI (aFighters g) ∧ t = t := by
      intro t H fm hN e15
      rw [(qN hN).1, (qN hN).2, e15]
      refine ⟨?_, rfl, rfl⟩
      have := (a1 (gT g)).scr fm (by simp [scA]) (by simp [scI])
      exact this.with (S := []) (F := []) (fun _ _ _ _ => rfl) (fun _ _ => rfl) ⟨rfl, rfl⟩ (Or.inl ⟨by simp, by simp, rfl, rfl⟩) (Or.inr ⟨this.2.1.1, fun j hj p hp => (by show H.1 41 0 (4 * j + p) = R' p j; rw [ra.1 p (by omega) j hj]; exact this.2.1.2 j hj p hp)⟩) (Or.inl ⟨by simp, by simp, rfl⟩) (Or.inl ⟨by simp, by simp, rfl⟩) (Or.inl ⟨rfl, by simp, rfl⟩) (Or.inl ⟨by simp, by simp, by simp, rfl⟩) (Or.inl ⟨by simp, by simp, rfl⟩) (Or.inl ⟨by simp, by simp, by simp, by simp, rfl⟩) (Or.inl ⟨by simp, by simp, rfl⟩) (Or.inl ⟨by simp, by simp, by simp, rfl⟩)
    have EN : ∀ t H, Fm [(45, 0)] [14, 15] h1 H → (lnG g 0).2 = none → (lnG g 0).1 ≤ 62 → H.1 12 0 15 = nI (lnG g 0).1 → WP alM mX12_fighters (k + 5) (fun v h' => v = vI (aFighters g) ∧ MI (B + 1) h' (nFighters g R')) 77 [some (vR 12 0), some (vI (nI t)), none, none, none] [] H := by
      intro t H fm hN hle e15
      obtain ⟨b1, b2, -⟩ := BAD t H fm hN e15
      refine wp_at tX12_fighters [] 20 77 okM kX12_fighters ⟨_, c_wasRightN (by rw [e15]; exact nI_nm1 (by omega)), ?_⟩
      rintro v H1 ⟨rfl, rfl⟩
      exact ⟨fun w => absurd rfl w, fun _ => ⟨b2, b1⟩⟩
    have EY : ∀ q t ls H, Fm [(45, 0)] [14, 15] h1 H → TxM H 0 (gTn g) 62 q → q ≤ 62 → ((gTn g ≤ q ∧ (lnG g 0).2 = some ls ∧ ls.length = t ∧ gN g + t ≤ 8 ∧ CoK (H.1 45 0) 5 ls) ∨ (¬ gTn g ≤ q ∧ (lnG g 0).1 = q ∧ (lnG g 0).2 = none)) → WP alM mX12_fighters (k + 5) (fun v h' => v = vI (aFighters g) ∧ MI (B + 1) h' (nFighters g R')) 77 [some (vR 12 0), some (vI (nI t)), none, none, none] [] H := by
      intro q t ls H fm tx hq cs
      refine wp_at tX12_fighters [(93, [true, true, false, true, false])] 30 77 okM kX12_fighters ⟨_, c_wasRightY tx.2.2.2.2.2.1 tx.2.2.2.2.1 tx.2.2.1 (by omega) (by omega), ?_⟩
      rintro v H1 ⟨rfl, rfl⟩
      rcases cs with ⟨w, hS, hl, h8, co⟩ | ⟨w, hE, hN⟩
      · rw [dT w, if_pos w]
        refine ⟨fun _ => ?_, fun c => absurd (by decide) c⟩
        obtain ⟨q1, q2⟩ := qS ls hS
        rw [hS] at ra
        have ra2 := ra.2 ls rfl
        have M1 := a1 (gT g)
        have K : ∀ m, m ≤ t → ∀ H2, Fm [(45, 0), (41, 0), (40, 0)] [14, 15, 1] h1 H2 → H2.1 45 0 = H.1 45 0 → H2.1 12 0 1 = nI (gN g + m) → (∀ j, j < gN g + m → ∀ p, p < 4 → H2.1 41 0 (4 * j + p) = R' p j) → H2.1 40 0 = mS (ntS (gS g) R' (gN g) m) → WP alM mX12_fighters (k + 5) (fun v h' => v = vI (aFighters g) ∧ MI (B + 1) h' (nFighters g R')) 93 [some (vR 12 0), some (vI (nI t)), none, some (vI (nI m)), none] [] H2 := by
          refine loop_up t ?_ (fun m hm ih => ?_)
          · intro H2 fm2 e45 e1 e41 e40
            refine wp_at tX12_fighters [] 30 93 okM kX12_fighters ⟨fun _ => ⟨_, c_told, ?_⟩, fun c => absurd (nI_le (Nat.le_refl _) (by omega)) c⟩
            rintro v H3 rfl
            rw [q1, q2, hl]
            refine ⟨rfl, ?_⟩
            obtain ⟨H3, hH3⟩ : ∃ H3, H3 = sX (sX H2 12 0 23 (nI 0)) 12 0 45 (H2.1 12 0 45 + nI 1) := ⟨_, rfl⟩
            rw [← hH3]
            have fm3 : Fm [(45, 0), (41, 0), (40, 0)] [14, 15, 1, 23, 45] h1 H3 := by rw [hH3]; exact ((fm2.mo (by simp) (by simp)).sF (by simp)).sF (by simp)
            have r3 : ∀ kk ii, (kk, ii) ≠ (12, 0) → H3.1 kk ii = H2.1 kk ii := fun kk ii hk => by rw [hH3, sX_row, if_neg (fun w => hk (by rw [w.1, w.2])), sX_row, if_neg (fun w => hk (by rw [w.1, w.2]))]
            refine M1.with (S := [(45, 0), (41, 0), (40, 0)]) (F := [14, 15, 1, 23, 45]) fm3.2.2.1 fm3.2.2.2 ⟨fm3.2.1 3 (by decide), fm3.2.1 4 (by decide)⟩ (Or.inr ⟨?_, ?_⟩) (Or.inr ⟨?_, ?_⟩) (Or.inl ⟨by decide, by decide, rfl⟩) (Or.inl ⟨by decide, by decide, rfl⟩) (Or.inl ⟨fm3.1, by decide, rfl⟩) (Or.inl ⟨by decide, by decide, by decide, rfl⟩) (Or.inr ⟨?_, fun j s hj => ?_⟩) (Or.inr ?_) (Or.inl ⟨by decide, by decide, rfl⟩) (Or.inl ⟨by decide, by decide, by decide, rfl⟩)
            · rw [r3 40 0 (by simp)]; exact e40
            · rw [fm3.2.2.2 5 (by simp)]; exact M1.1.2
            · rw [hH3, rdX, if_neg (by simp), rdX, if_neg (by simp)]; exact e1
            · rw [r3 41 0 (by simp)]; exact e41
            · rw [hH3, rdX, if_neg (by simp), rdX, if_pos (by simp)]; rfl
            · have hj' : ([] : List Sta)[j]? = some s := hj
              simp at hj'
            · refine m8_up (h := h0) (g := g) a0.2.2.2.2.2.2.2.1 ?_ ?_ ?_ rfl
              · rw [hH3, rdX, if_pos (by simp), fm2.2.2.2 45 (by simp), f1.2.2.2 45 (by simp)]
              · rw [fm3.2.2.1 59 0 (by simp) (by simp), f1.2.2.1 59 0 (by simp) (by simp)]
              · rw [fm3.2.2.1 60 0 (by simp) (by simp), f1.2.2.1 60 0 (by simp) (by simp)]
          · intro H2 fm2 e45 e1 e41 e40
            rw [← nI_add m 1] at ih
            obtain ⟨l, hlm⟩ : ∃ l, ls[m]? = some l := ⟨ls[m], List.getElem?_eq_getElem (by omega)⟩
            have J : ∀ i, i ≤ 4 → ∀ H3, Fm [(45, 0), (41, 0), (40, 0)] [14, 15, 1] h1 H3 → H3.1 45 0 = H.1 45 0 → H3.1 12 0 1 = nI (gN g + m) → (∀ j, j < gN g + m → ∀ p, p < 4 → H3.1 41 0 (4 * j + p) = R' p j) → (∀ p, p < i → H3.1 41 0 (4 * (gN g + m) + p) = R' p (gN g + m)) → H3.1 40 0 = mS (ntS (gS g) R' (gN g) m) → WP alM mX12_fighters (k + 5) (fun v h' => v = vI (aFighters g) ∧ MI (B + 1) h' (nFighters g R')) 101 [some (vR 12 0), some (vI (nI t)), none, some (vI (nI m)), some (vI (nI i))] [] H3 := by
              refine loop_up 4 ?_ (fun i hi ih2 => ?_)
              · intro H3 fm3 e45 e1 e41 e41' e40
                have j8 : gN g + m < 8 := by omega
                have ix : ∀ b, b + 8 ≤ 47 → nI b + nI (gN g + m) = nI (b + (gN g + m)) := fun b _ => nI_add _ _
                refine wp_at tX12_fighters [(93, [true, true, false, true, false])] 100 101 okM kX12_fighters ⟨fun _ => ?_, fun c => absurd (nI_le (Nat.le_refl _) (by omega)) c⟩
                have n5 : nI 5 * nI m + nI 4 = nI (5 * m + 4) := by rw [nI_mul, nI_add]
                have en : ∀ f, (sV H3 40 0 f).1 12 0 1 = nI (gN g + m) := fun f => by rw [rdV, if_neg (by simp)]; exact e1
                refine ⟨by rw [n5]; exact ix1 40 (by omega), by rw [e1]; exact ix1 47 (by omega), ?_⟩
                rw [n5, e1, nI_clamp (show 5 * m + 4 < 2 ^ 31 by omega), nI_clamp (show gN g + m < 2 ^ 31 by omega), e45, co m l hlm 4 (by omega), ← ra2 4 (by omega) m l hlm]
                have s1 : sX H3 40 0 (gN g + m) (R' 4 (gN g + m)) = sV H3 40 0 (mS (upd (ntS (gS g) R' (gN g) m) (gN g + m) (R' 4 (gN g + m)))) := by unfold sX; rw [e40, mS_ulo (by omega)]
                rw [s1]
                refine ⟨by rw [en, ix 8 (by omega)]; exact ix1 47 (by omega), ?_⟩
                rw [en, ix 8 (by omega), nI_clamp (show 8 + (gN g + m) < 2 ^ 31 by omega), sV_sX, mS_ulo (by omega)]
                refine ⟨by rw [en, ix 16 (by omega)]; exact ix1 47 (by omega), ?_⟩
                rw [en, ix 16 (by omega), nI_clamp (show 16 + (gN g + m) < 2 ^ 31 by omega), sV_sX, mS_ulo (by omega)]
                refine ⟨by rw [en, ix 24 (by omega)]; exact ix1 47 (by omega), ?_⟩
                rw [en, ix 24 (by omega), nI_clamp (show 24 + (gN g + m) < 2 ^ 31 by omega), sV_sX, mS_ulo (by omega)]
                refine ⟨by rw [en, ix 32 (by omega)]; exact ix1 47 (by omega), ?_⟩
                rw [en, ix 32 (by omega), nI_clamp (show 32 + (gN g + m) < 2 ^ 31 by omega), sV_sX, mS_ulo (by omega)]
                refine ih _ ((fm3.sV (by simp) (by decide)).sF (by simp)) (by rw [sX_row, if_neg (by simp), rdV, if_neg (by simp)]; exact e45) (by rw [rdX, if_pos (by simp), en, nI_add]; rfl) (fun j hj p hp => ?_) ?_
                · rw [sX_row, if_neg (by simp), rdV, if_neg (by simp)]
                  by_cases w : j = gN g + m
                  · rw [w]; exact e41' p (by omega)
                  · exact e41 j (by omega) p hp
                · rw [sX_row, if_neg (by simp), sV_same]; rfl
              · intro H3 fm3 e45 e1 e41 e41' e40
                rw [← nI_add i 1] at ih2
                have n4 : nI 4 * nI (gN g + m) + nI i = nI (4 * (gN g + m) + i) := n4j
                have n5 : nI 5 * nI m + nI i = nI (5 * m + i) := by rw [nI_mul, nI_add]
                refine wp_at tX12_fighters [(101, [true, true, false, true, true])] 40 101 okM kX12_fighters ⟨fun c => absurd c (nI_ge hi (by omega)), fun _ => ⟨by rw [n5]; exact ix1 40 (by omega), by rw [e1, n4]; exact ix1 32 (by omega), ?_⟩⟩
                rw [e1, n4, n5, nI_clamp (by omega), nI_clamp (by omega), e45, co m l hlm i (by omega), ← ra2 i (by omega) m l hlm]
                refine ih2 _ (fm3.sX (by simp) (by decide)) (by rw [sX_row, if_neg (by simp)]; exact e45) (by rw [rdX, if_neg (by simp)]; exact e1) (fun j hj p hp => ?_) (fun p hp => ?_) (by rw [sX_row, if_neg (by simp)]; exact e40)
                · rw [rdX, if_neg (by simp; omega)]; exact e41 j hj p hp
                · rw [rdX]
                  by_cases w : p = i
                  · subst w; rw [if_pos (by simp)]
                  · rw [if_neg (by simp; omega)]; exact e41' p (by omega)
            refine wp_at tX12_fighters [(101, [true, true, false, true, true])] 20 93 okM kX12_fighters ⟨fun c => absurd c (nI_ge hm (by omega)), fun _ => J 0 (Nat.zero_le _) H2 fm2 e45 e1 e41 (fun p hp => by omega) e40⟩
        exact K 0 (Nat.zero_le _) H (fm.mo (by simp) (by simp)) rfl (by rw [fm.2.2.2 1 (by simp)]; exact M1.2.1.1) (fun j hj p hp => by
          rw [fm.2.2.1 41 0 (by simp) (by simp), ra.1 p (by omega) j (by omega)]
          exact M1.2.1.2 j (by show j < gN g; omega) p hp) (by rw [fm.2.2.1 40 0 (by simp) (by simp)]; exact M1.1.1)
      · rw [dF w, if_neg w]
        obtain ⟨b1, b2, -⟩ := BAD t (sX H 12 0 15 (nI q)) (fm.sF (by simp)) hN (by rw [rdX, if_pos (by simp), hE])
        exact ⟨fun c => absurd rfl c, fun _ => ⟨b2, b1⟩⟩
    have L : ∀ r t p ls0 H, t + r = 8 - gN g → Fm [(45, 0)] [14, 15] h1 H → TxM H 0 (gTn g) 62 p → p ≤ 62 → Lg (mT h1 0) (gTn g) 62 0 (8 - gN g) t p ls0 → CoK (H.1 45 0) 5 ls0 → WP alM mX12_fighters (k + 5) (fun v h' => v = vI (aFighters g) ∧ MI (B + 1) h' (nFighters g R')) 24 [some (vR 12 0), some (vI (nI t)), some (vI (nI 1)), none, none] [] H := by
      intro r
      induction r with
      | zero =>
        intro t p ls0 H ht fm tx hp lg co
        obtain rfl : t = 8 - gN g := by omega
        obtain ⟨l1, l2⟩ := lg_f lg
        rw [eL] at l1 l2
        have n1 : H.1 12 0 1 = nI (gN g) := by rw [fm.2.2.2 1 (by simp)]; exact (a1 (gT g)).2.1.1
        refine wp_at tX12_fighters [(77, [true, true, false, false, false])] 60 24 okM kX12_fighters ⟨fun c => absurd c (by decide), fun _ => ⟨_, c_mfine, ?_⟩⟩
        rintro v H1 ⟨rfl, rfl⟩
        rw [dT tx.2.2.2.2.2.1]
        refine ⟨fun c => absurd c (by decide), fun _ => ⟨fun c => absurd ?_ c, fun _ => ⟨_, c_mfault, ?_⟩⟩⟩
        · rw [n1, nI_add, show gN g + (8 - gN g) = 8 by omega]
        · rw [if_pos tx.2.2.2.2.2.1, tx.2.2.2.2.1]
          rintro v H2 rfl
          have e15 : (sX H1 12 0 15 (nI p)).1 12 0 15 = nI p := by rw [rdX, if_pos (by simp)]
          refine ⟨_, c_mpassesN (by rw [e15]; exact nI_nm1 (by omega)), ?_⟩
          rintro v H3 ⟨rfl, rfl⟩
          have := EN (8 - gN g + 1) (sX H1 12 0 15 (nI p)) (fm.sF (by simp)) l2 (by omega) (by rw [e15, l1])
          rw [← nI_add _ 1] at this
          exact ⟨fun _ => this, fun c => absurd rfl c⟩
      | succ r IH =>
        intro t p ls0 H ht fm tx hp lg co
        have n1 : H.1 12 0 1 = nI (gN g) := by rw [fm.2.2.2 1 (by simp)]; exact (a1 (gT g)).2.1.1
        have TH : mT H 0 = mT h1 0 := mT_cg (fm.2.2.1 43 0 (by simp) (by simp))
        have hl0 := lg.1
        refine wp_at tX12_fighters [(24, [true, true, true, false, false])] 60 24 okM kX12_fighters ⟨fun c => absurd c (by decide), fun _ => ⟨_, c_mfine, ?_⟩⟩
        rintro v H1 ⟨rfl, rfl⟩
        rw [dT tx.2.2.2.2.2.1]
        refine ⟨fun c => absurd c (by decide), fun _ => ⟨fun c => ?_, fun c => absurd (nn c) ?_⟩⟩
        · have n5 : nI 5 * nI t = nI (5 * t) := nI_mul 5 t
          refine ⟨_, ct_cv (c_readMan (base := 5 * t) tx (by omega) hp (by omega)) (congrArg (fun x => [vR 12 0, vI x]) n5) rfl, ?_⟩
          rintro v H2 ⟨rf, st⟩
          rw [TH] at st
          have fm2 : Fm [(45, 0)] [14, 15] h1 H2 := fm.tr rf.1 (fun _ h => h) (fun _ h => h)
          rcases st with ⟨q, xs, tx2, hq, gd, hv⟩ | ⟨b1, b2, b3⟩
          · obtain ⟨d1, d2⟩ := gd_e gd
            have T2 : mT H2 0 = mT h1 0 := by rw [rf.row]; exact TH
            have co2 : CoK (H2.1 45 0) 5 (ls0 ++ [xs]) := co.sn (fun i hi => rf.2 i (by rw [hl0] at hi; exact hi)) (fun j hj => by rw [hl0]; exact hv j hj)
            refine ⟨_, c_mpasses tx2, ?_⟩
            rw [T2]
            rintro v H3 ⟨rfl, rfl⟩
            unfold tkS
            by_cases w : pk (mT h1 0) (gTn g) 62 q = nI 59
            · rw [if_pos w]
              have hq2 := pkP (show pk (mT h1 0) (gTn g) 62 q ≠ -(nI 1) by rw [w]; decide)
              have := IH (t + 1) (q + 1) (ls0 ++ [xs]) (sAM H2 (q + 1)) (by omega) (fm2.sF (by simp)) (tx2.at (by omega)) (by omega) (by
                have := lg_M lg (by omega) d2 (by rw [d1]; omega) (by rw [d1]; exact w)
                rw [d1] at this
                exact this) (by rw [sX_row, if_neg (by simp)]; exact co2)
              rw [← nI_add t 1] at this
              exact this
            · rw [if_neg w]
              show WP alM mX12_fighters (k + 5) _ 24 [some (vR 12 0), some (vI (nI t + nI 1)), some (vI (nI 0)), none, none] [] (sAM H2 q)
              rw [sAM_same tx2]
              have := EY q (t + 1) (ls0 ++ [xs]) H2 fm2 tx2 hq (by
                by_cases w2 : gTn g ≤ q
                · obtain ⟨l1, l2⟩ := lg_E lg (by omega) d2 (by rw [d1]; exact w2)
                  rw [eL] at l2
                  exact Or.inl ⟨w2, l2, by rw [List.length_append, hl0]; rfl, by omega, co2⟩
                · obtain ⟨l1, l2⟩ := lg_X lg (by omega) d2 (by rw [d1]; exact w2) (by rw [d1]; exact w)
                  rw [eL] at l1 l2
                  exact Or.inr ⟨w2, by rw [l1, d1], l2⟩)
              rw [← nI_add t 1] at this
              exact wp_at tX12_fighters [(77, [true, true, false, false, false])] 20 24 okM kX12_fighters ⟨fun _ => this, fun c => absurd rfl c⟩
          · obtain ⟨l1, l2⟩ := lg_N lg (by omega) b1
            rw [eL] at l1 l2
            refine ⟨_, c_mpassesN (by rw [b3]; exact nI_nm1 (by omega)), ?_⟩
            rintro v H3 ⟨rfl, rfl⟩
            have := EN (t + 1) H3 fm2 l2 (by omega) (by rw [l1]; exact b3)
            rw [← nI_add _ 1] at this
            exact wp_at tX12_fighters [(77, [true, true, false, false, false])] 20 24 okM kX12_fighters ⟨fun _ => this, fun c => absurd rfl c⟩
        · rw [n1, nI_add]
          exact fun w => absurd (nI_inj (by omega) (by omega) w) (by omega)
    exact L (8 - gN g) 0 0 [] h1 (by omega) Fm.rf t1 (by omega) lgg_0 (fun i l hi => by simp at hi)
  · have c' : gTn g = 0 := by
      have := nn c
      rw [t1.2.2.1] at this
      exact nI_inj (by omega) (by omega) this
    unfold aFighters nFighters
    rw [if_pos c', if_pos c']
    refine ⟨rfl, ?_⟩
    have := a1 (gT g)
    rw [← c'] at this
    exact this
