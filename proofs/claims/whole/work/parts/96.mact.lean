/-! the reference: an ACT -/
theorem FK_sg {n j : Nat} {s : Sta} {p : Int32} (hn : n ≤ 8) (hj : j < n) : FK n s (sgF s j p) := by
  intro i hi _
  unfold sgF likF
  repeat (first | rw [upd_n (by omega)])
theorem FK_bf {R : Nat → Nat → Int32} {n j : Nat} {s : Sta} (hn : n ≤ 8) (hR : RoK R n) (hj : j < n) (hz : s (32 + j) = 0) : FK n s (bfF R s j) := by
  intro i hi hs
  have o4 := (own4 hR hj).1
  have hne : i ≠ j := fun w => hs (by rw [w]; exact hz)
  unfold bfF
  repeat (first | rw [upd_n (by omega)])
def acP (B : Nat) (h : Hp) (g : GS) (x : Act) : AV → Hp → Prop := fun v h' => h'.1 40 1 = h.1 40 1 ∧ h'.1 48 0 = h.1 48 0 ∧ ((∃ s', pl1 g (gS g) x = some s' ∧ v = vI (nI 1) ∧ MI B h' (uS g s') ∧ PI (gN g) s' ∧ FK (gN g) (gS g) s') ∨ (pl1 g (gS g) x = none ∧ v = vI (nI 0) ∧ MI B h' g))
theorem c_act {B k : Nat} {h : Hp} {g : GS} {x : Act} (a : MI B h g) (z : Sz g) (sk : SeK (gE g) (gM g)) (hsw : ∃ sw, sw ≤ 9 ∧ gW g = nI sw) (pi : PI (gN g) (gS g)) (hx : acK x.1 = true) (hd : x.1 = nI 100 → okD x.2.1 = true) : Ct alM mX12_act (k + 321) [vR 12 0, vI x.1, vI x.2.1, vI x.2.2] h (acP B h g x) := by
  have hn := z.1
  have wm : Wm h g := a.w z sk
  have NW : ∀ s', MI B (sV h 40 0 (mS s')) (uS g s') := fun s' => a.now (S := [(40, 0)]) (F := []) (Fm.rf.sV (by simp) (by decide)) (by simp) (by simp) sV_same
  have r1 : ∀ s', (sV h 40 0 (mS s')).1 40 1 = h.1 40 1 := fun s' => by rw [rdV, if_neg (by simp)]
  have r2 : ∀ s', (sV h 40 0 (mS s')).1 48 0 = h.1 48 0 := fun s' => by rw [rdV, if_neg (by simp)]
  have YES : ∀ s', pl1 g (gS g) x = some s' → PI (gN g) s' → FK (gN g) (gS g) s' → acP B h g x (vI (nI 1)) (sV h 40 0 (mS s')) := fun s' e p f => ⟨r1 s', r2 s', Or.inl ⟨s', e, rfl, NW s', p, f⟩⟩
  have NO : pl1 g (gS g) x = none → acP B h g x (vI (nI 0)) h := fun e => ⟨rfl, rfl, Or.inr ⟨e, rfl, a⟩⟩
  refine ct_vc tX12_act [] 60 okM kX12_act rfl ?_
  refine swP_of _ (fun q hq e => ?_) (fun hno => ?_)
  · simp only [prs, List.tail_cons, List.mem_cons, List.not_mem_nil, or_false] at hq
    rcases hq with rfl | rfl | rfl
    · -- days
      have e : x.1 = nI 100 := e
      refine ⟨_, c_goDays a.n1 hn a.1.1, ?_⟩
      rintro v h1 rfl
      refine ⟨Or.inr rfl, YES _ ?_ (PI_ps hn pi) (fun j hj _ => ps_o hn (by omega))⟩
      unfold pl1
      rw [if_neg (by rw [e]; decide), if_pos e, if_pos (hd e)]
    · -- a fight
      have e : x.1 = nI 102 := e
      refine ⟨_, c_mrefuse a.n1 hn a.1.1, ?_⟩
      rintro v h1 ⟨rfl, rfl⟩
      refine ⟨fun c => ?_, fun c => ⟨Or.inl rfl, NO ?_⟩⟩
      · have hz : hnF (gN g) (gS g) x.2.1 x.2.2 = 0 := Classical.byContradiction fun y => absurd (hnF_neg y) (i_ltn c)
        obtain ⟨p, r, hp, hr, hpr, eX, eY⟩ := hnF_in hn hz
        have hz' := hz
        rw [eX, eY] at hz'
        obtain ⟨-, -, -, f1, f2⟩ := hnF_yes hn hz' (by omega) (by omega)
        obtain ⟨m1, m2, m3⟩ := PI_mt hn z.r hsw hp hr hpr pi f1 f2
        refine ⟨_, ct_cv (c_goFight wm a.1.1 hp hr hpr pi f1 f2) (by rw [eX, eY]) rfl, ?_⟩
        rintro v h2 ⟨rfl, fm2, e2, -⟩
        refine ⟨Or.inr rfl, by rw [fm2.2.2.1 40 1 (by simp) (by simp [goS])], by rw [fm2.2.2.1 48 0 (by simp) (by simp [goS])], Or.inl ⟨mtG g (gS g) p r, ?_, rfl, a.now fm2 (by simp [goS, scA]) (by simp [goI, scI]) e2, m1, m3⟩⟩
        unfold pl1
        rw [if_pos e, if_pos hz, eX, eY, nI_clamp (by omega), nI_clamp (by omega)]
      · unfold pl1
        rw [if_pos e, if_neg (fun y => c (by rw [y]; exact Int32.le_refl _))]
    · -- a song
      have e : x.1 = nI 115 := e
      refine ⟨_, c_refSong a.n1 hn a.1.1, ?_⟩
      rintro v h1 ⟨rfl, rfl⟩
      refine ⟨fun c => ?_, fun c => ⟨Or.inl rfl, NO ?_⟩⟩
      · have hz : sgA (gN g) (gS g) x.2.1 (nI 5) = 0 := Classical.byContradiction fun y => absurd (sgA_neg y) (i_ltn c)
        obtain ⟨q1, q2, q3, q4⟩ := sgA_yes hz
        obtain ⟨j, hj, ej⟩ := hasN_get q1 (by omega)
        refine ⟨_, ct_cv (c_goSong a.1.1 (show j < 8 by omega)) (by rw [ej]) rfl, ?_⟩
        rintro v h2 rfl
        refine ⟨Or.inr rfl, YES _ ?_ (PI_sg hn hj (by omega) q4 pi) (FK_sg hn hj)⟩
        unfold pl1
        rw [if_neg (by rw [e]; decide), if_neg (by rw [e]; decide), if_pos e, if_pos hz, ej, nI_clamp (by omega)]
      · unfold pl1
        rw [if_neg (by rw [e]; decide), if_neg (by rw [e]; decide), if_pos e, if_neg (fun y => c (by rw [y]; exact Int32.le_refl _))]
  · have n1 : ¬ x.1 = nI 100 := hno (100, 64) (by decide)
    have n2 : ¬ x.1 = nI 102 := hno (102, 36) (by decide)
    have n3 : ¬ x.1 = nI 115 := hno (115, 75) (by decide)
    refine ⟨_, c_refFree wm a.1.1, ?_⟩
    rintro v h1 ⟨rfl, rfl⟩
    refine ⟨fun c => ?_, fun c => ⟨Or.inl rfl, NO ?_⟩⟩
    · have hz : bfA (gR g) (gN g) (gS g) x.2.1 = 0 := Classical.byContradiction fun y => absurd (bfA_neg y) (i_ltn c)
      obtain ⟨q1, q2, q3⟩ := bfA_yes hz
      obtain ⟨j, hj, ej⟩ := hasN_get q1 (by omega)
      rw [ej, nI_clamp (by omega)] at q2 q3
      refine ⟨_, ct_cv (c_goFree wm a.1.1 hj) (by rw [ej]) rfl, ?_⟩
      rintro v h2 rfl
      refine ⟨Or.inr rfl, YES _ ?_ (PI_bf hn z.r hj q2 q3 pi) (FK_bf hn z.r hj q2)⟩
      unfold pl1
      rw [if_neg n2, if_neg n1, if_neg n3, if_pos hz, ej, nI_clamp (by omega)]
    · unfold pl1
      rw [if_neg n2, if_neg n1, if_neg n3, if_neg (fun y => c (by rw [y]; exact Int32.le_refl _))]
