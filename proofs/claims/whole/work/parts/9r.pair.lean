/-! PAIRS: a call of the class, and the reference's beside it -/
def Pair (Mx Mm : MT) (As : List AV) (hX hM : Hp) (D B : Nat) : Prop := ∃ PX : AV → Hp → Prop, Ct alC Mx 1000 (vR 11 0 :: As) hX PX ∧ ∀ v h', PX v h' → ∃ (r : Int32) (g' : GS), v = vI r ∧ CI h' g' ∧ Ok (D + 2000) g' ∧ Ct alM Mm 1000 (vR 12 0 :: As) hM (fun v h2 => v = vI r ∧ MI (B + 1) h2 g')
section PAIRS
variable {hX hM : Hp} {g : GS} {D B : Nat}
theorem p_Sign {x0 : Int32} (a : CI hX g) (b : MI B hM g) (o : Ok D g) (hD : D ≤ 900000000) (hB : B ≤ 10000) : Pair mX11_sign mX12_sign [vI x0] hX hM D B := by
  exact ⟨_, c_Sign a o.1, fun v h' hp => ⟨_, _, hp.1, hp.2, (ok_Sign o).mo (by omega), ct_post (m_Sign b o.1) (fun v h2 q => ⟨q.1, q.2.up (by omega)⟩)⟩⟩
theorem p_End {x0 : Int32} (a : CI hX g) (b : MI B hM g) (o : Ok D g) (hD : D ≤ 900000000) (hB : B ≤ 10000) : Pair mX11_end mX12_end [vI x0] hX hM D B := by
  exact ⟨_, c_End a o.1, fun v h' hp => ⟨_, _, hp.1, hp.2, (ok_End o).mo (by omega), ct_post (m_End b o.1) (fun v h2 q => ⟨q.1, q.2.up (by omega)⟩)⟩⟩
theorem p_Fighters  (a : CI hX g) (b : MI B hM g) (o : Ok D g) (hD : D ≤ 900000000) (hB : B ≤ 10000) : Pair mX11_fighters mX12_fighters [] hX hM D B := by
  refine ⟨_, c_Fighters a o.1, fun v h' hp => ?_⟩
  obtain ⟨h1, R', ra, h2⟩ := hp
  exact ⟨_, _, h1, h2, (ok_Fighters o ra).mo (by omega), m_Fighters b o.1 ra⟩
theorem p_Seats  (a : CI hX g) (b : MI B hM g) (o : Ok D g) (hD : D ≤ 900000000) (hB : B ≤ 10000) : Pair mX11_seats mX12_seats [] hX hM D B := by
  refine ⟨_, c_Seats a o.1, fun v h' hp => ?_⟩
  obtain ⟨h1, R', E', hR, ra, h2⟩ := hp
  exact ⟨_, _, h1, h2, (ok_Seats o hR ra).mo (by omega), m_Seats b o.1 hR ra⟩
theorem p_Rule  (a : CI hX g) (b : MI B hM g) (o : Ok D g) (hD : D ≤ 900000000) (hB : B ≤ 10000) : Pair mX11_rule mX12_rule [] hX hM D B := by
  exact ⟨_, c_Rule a o.1, fun v h' hp => ⟨_, _, hp.1, hp.2, (ok_Rule o).mo (by omega), ct_post (m_Rule b o.1) (fun v h2 q => ⟨q.1, q.2.up (by omega)⟩)⟩⟩
theorem p_Purse {x0 : Int32} (a : CI hX g) (b : MI B hM g) (o : Ok D g) (hD : D ≤ 900000000) (hB : B ≤ 10000) : Pair mX11_purse mX12_purse [vI x0] hX hM D B := by
  exact ⟨_, c_Purse a, fun v h' hp => ⟨_, _, hp.1, (by rw [hp.2]; exact a), o.mo (by omega), ct_post (m_Purse b) (fun v h2 q => ⟨q.1, q.2.up (by omega)⟩)⟩⟩
theorem p_Set {x0 : Int32} {x1 : Int32} (a : CI hX g) (b : MI B hM g) (o : Ok D g) (hD : D ≤ 900000000) (hB : B ≤ 10000) : Pair mX11_set mX12_set [vI x0, vI x1] hX hM D B := by
  exact ⟨_, c_Set a, fun v h' hp => ⟨_, _, hp.1, hp.2, (ok_Set o).mo (by omega), ct_post (m_Set b) (fun v h2 q => ⟨q.1, q.2.up (by omega)⟩)⟩⟩
theorem p_Sheet {x0 : Int32} {x1 : Int32} {x2 : Int32} {x3 : Int32} (a : CI hX g) (b : MI B hM g) (o : Ok D g) (hD : D ≤ 900000000) (hB : B ≤ 10000) : Pair mX11_sheet mX12_sheet [vI x0, vI x1, vI x2, vI x3] hX hM D B := by
  exact ⟨_, c_Sheet a o.1, fun v h' hp => ⟨_, _, hp.1, hp.2, (ok_Sheet o).mo (by omega), ct_post (m_Sheet b o.1) (fun v h2 q => ⟨q.1, q.2.up (by omega)⟩)⟩⟩
theorem p_Fight {x0 : Int32} {x1 : Int32} (a : CI hX g) (b : MI B hM g) (o : Ok D g) (hD : D ≤ 900000000) (hB : B ≤ 10000) : Pair mX11_fight mX12_fight [vI x0, vI x1] hX hM D B := by
  exact ⟨_, c_Fight a o.1, fun v h' hp => ⟨_, _, hp.1, hp.2, (ok_Fight o).mo (by omega), ct_post (m_Fight b o.1 o.2) (fun v h2 q => ⟨q.1, q.2.up (by omega)⟩)⟩⟩
theorem p_Days {x0 : Int32} (a : CI hX g) (b : MI B hM g) (o : Ok D g) (hD : D ≤ 900000000) (hB : B ≤ 10000) : Pair mX11_days mX12_days [vI x0] hX hM D B := by
  exact ⟨_, c_Days a o.1 (nn_Days o hD), fun v h' hp => ⟨_, _, hp.1, hp.2, (ok_Days o).mo (by omega), ct_post (m_Days b o.1) (fun v h2 q => ⟨q.1, q.2.up (by omega)⟩)⟩⟩
theorem p_Song {x0 : Int32} {x1 : Int32} (a : CI hX g) (b : MI B hM g) (o : Ok D g) (hD : D ≤ 900000000) (hB : B ≤ 10000) : Pair mX11_song mX12_song [vI x0, vI x1] hX hM D B := by
  exact ⟨_, c_Song a o.1 (nn_Song o), fun v h' hp => ⟨_, _, hp.1, hp.2, (ok_Song o).mo (by omega), ct_post (m_Song b o.1) (fun v h2 q => ⟨q.1, q.2.up (by omega)⟩)⟩⟩
theorem p_Frees {x0 : Int32} (a : CI hX g) (b : MI B hM g) (o : Ok D g) (hD : D ≤ 900000000) (hB : B ≤ 10000) : Pair mX11_frees mX12_frees [vI x0] hX hM D B := by
  exact ⟨_, c_Frees a o.1 (nn_Frees o), fun v h' hp => ⟨_, _, hp.1, hp.2, (ok_Frees o).mo (by omega), ct_post (m_Frees b o.1 o.2) (fun v h2 q => ⟨q.1, q.2.up (by omega)⟩)⟩⟩
theorem p_Games  (a : CI hX g) (b : MI B hM g) (o : Ok D g) (hD : D ≤ 900000000) (hB : B ≤ 10000) : Pair mX11_games mX12_games [] hX hM D B := by
  exact ⟨_, c_Games a o.1 (nn_Games o hD), fun v h' hp => ⟨_, _, hp.1, hp.2, (ok_Games o hD).mo (by omega), ct_post (m_Games b o.1 o.2) (fun v h2 q => ⟨q.1, q.2.up (by omega)⟩)⟩⟩
theorem p_Undo  (a : CI hX g) (b : MI B hM g) (o : Ok D g) (hD : D ≤ 900000000) (hB : B ≤ 10000) : Pair mX11_undo mX12_undo [] hX hM D B := by
  exact ⟨_, c_Undo a o.1, fun v h' hp => ⟨_, _, hp.1, hp.2, (ok_Undo o).mo (by omega), ct_post (m_Undo b o.1) (fun v h2 q => ⟨q.1, q.2.up (by omega)⟩)⟩⟩
theorem p_Thumbs {x0 : Int32} (a : CI hX g) (b : MI B hM g) (o : Ok D g) (hD : D ≤ 900000000) (hB : B ≤ 10000) : Pair mX11_thumbs mX12_thumbs [vI x0] hX hM D B := by
  exact ⟨_, c_Thumbs a o.1, fun v h' hp => ⟨_, _, hp.1, hp.2, (ok_Thumbs o).mo (by omega), ct_post (m_Thumbs b o.1 o.2) (fun v h2 q => ⟨q.1, q.2.up (by omega)⟩)⟩⟩
theorem p_Mercy  (a : CI hX g) (b : MI B hM g) (o : Ok D g) (hD : D ≤ 900000000) (hB : B ≤ 10000) : Pair mX11_mercy mX12_mercy [] hX hM D B := by
  exact ⟨_, c_Mercy a, fun v h' hp => ⟨_, _, hp.1, (by rw [hp.2]; exact a), o.mo (by omega), ct_post (m_Mercy b o.1 o.2) (fun v h2 q => ⟨q.1, q.2.up (by omega)⟩)⟩⟩
theorem p_Claque {x0 : Int32} (a : CI hX g) (b : MI B hM g) (o : Ok D g) (hD : D ≤ 900000000) (hB : B ≤ 10000) : Pair mX11_claque mX12_claque [vI x0] hX hM D B := by
  exact ⟨_, c_Claque a o.1, fun v h' hp => ⟨_, _, hp.1, hp.2, (ok_Claque o).mo (by omega), ct_post (m_Claque b o.1 o.2) (fun v h2 q => ⟨q.1, q.2.up (by omega)⟩)⟩⟩
theorem p_Tips {x0 : Int32} (a : CI hX g) (b : MI B hM g) (o : Ok D g) (hD : D ≤ 900000000) (hB : B ≤ 10000) : Pair mX11_tips mX12_tips [vI x0] hX hM D B := by
  exact ⟨_, c_Tips a o.1, fun v h' hp => ⟨_, _, hp.1, hp.2, (ok_Tips o).mo (by omega), ct_post (m_Tips b o.1 o.2) (fun v h2 q => ⟨q.1, q.2.up (by omega)⟩)⟩⟩
theorem p_Would {x0 : Int32} {x1 : Int32} (a : CI hX g) (b : MI B hM g) (o : Ok D g) (hD : D ≤ 900000000) (hB : B ≤ 10000) : Pair mX11_would mX12_would [vI x0, vI x1] hX hM D B := by
  exact ⟨_, c_Would a o.1, fun v h' hp => ⟨_, _, hp.1, hp.2, (ok_Would o).mo (by omega), ct_post (m_Would b o.1 o.2) (fun v h2 q => ⟨q.1, q.2.up (by omega)⟩)⟩⟩
theorem p_Beats {x0 : Int32} (a : CI hX g) (b : MI B hM g) (o : Ok D g) (hD : D ≤ 900000000) (hB : B ≤ 10000) : Pair mX11_beats mX12_beats [vI x0] hX hM D B := by
  exact ⟨_, c_Beats a o.1, fun v h' hp => ⟨_, _, hp.1, hp.2, (ok_Beats o).mo (by omega), ct_post (m_Beats b o.1 o.2) (fun v h2 q => ⟨q.1, q.2.up (by omega)⟩)⟩⟩
theorem p_Card {x0 : Int32} (a : CI hX g) (b : MI B hM g) (o : Ok D g) (hD : D ≤ 900000000) (hB : B ≤ 10000) : Pair mX11_card mX12_card [vI x0] hX hM D B := by
  exact ⟨_, c_Card a o.1, fun v h' hp => ⟨_, _, hp.1, hp.2, (ok_Card o).mo (by omega), ct_post (m_Card b o.1 o.2) (fun v h2 q => ⟨q.1, q.2.up (by omega)⟩)⟩⟩
theorem p_Even  (a : CI hX g) (b : MI B hM g) (o : Ok D g) (hD : D ≤ 900000000) (hB : B ≤ 10000) : Pair mX11_even mX12_even [] hX hM D B := by
  exact ⟨_, c_Even a o.1, fun v h' hp => ⟨_, _, hp.1, hp.2, (ok_Even o).mo (by omega), ct_post (m_Even b o.1 o.2) (fun v h2 q => ⟨q.1, q.2.up (by omega)⟩)⟩⟩
theorem p_Career {x0 : Int32} {x1 : Int32} (a : CI hX g) (b : MI B hM g) (o : Ok D g) (hD : D ≤ 900000000) (hB : B ≤ 10000) : Pair mX11_career mX12_career [vI x0, vI x1] hX hM D B := by
  exact ⟨_, c_Career a o.1, fun v h' hp => ⟨_, _, hp.1, hp.2, (ok_Career o).mo (by omega), ct_post (m_Career b o.1 o.2) (fun v h2 q => ⟨q.1, q.2.up (by omega)⟩)⟩⟩
theorem p_Sword {x0 : Int32} {x1 : Int32} (a : CI hX g) (b : MI B hM g) (o : Ok D g) (hD : D ≤ 900000000) (hB : B ≤ 10000) : Pair mX11_sword mX12_sword [vI x0, vI x1] hX hM D B := by
  exact ⟨_, c_Sword a o.1, fun v h' hp => ⟨_, _, hp.1, hp.2, o.mo (by omega), ct_post (m_Sword b o.1 o.2) (fun v h2 q => ⟨q.1, q.2.up (by omega)⟩)⟩⟩
theorem p_Worth {x0 : Int32} (a : CI hX g) (b : MI B hM g) (o : Ok D g) (hD : D ≤ 900000000) (hB : B ≤ 10000) : Pair mX11_worth mX12_worth [vI x0] hX hM D B := by
  exact ⟨_, c_Worth a o.1, fun v h' hp => ⟨_, _, hp.1, hp.2, (ok_Worth o).mo (by omega), ct_post (m_Worth b o.1 o.2) (fun v h2 q => ⟨q.1, q.2.up (by omega)⟩)⟩⟩
theorem p_Hires {x0 : Int32} (a : CI hX g) (b : MI B hM g) (o : Ok D g) (hD : D ≤ 900000000) (hB : B ≤ 10000) : Pair mX11_hires mX12_hires [vI x0] hX hM D B := by
  exact ⟨_, c_Hires a o.1, fun v h' hp => ⟨_, _, hp.1, hp.2, (ok_Hires o).mo (by omega), ct_post (m_Hires b o.1 o.2) (fun v h2 q => ⟨q.1, q.2.up (by omega)⟩)⟩⟩
theorem p_Score {x0 : Int32} {x1 : Int32} (a : CI hX g) (b : MI B hM g) (o : Ok D g) (hD : D ≤ 900000000) (hB : B ≤ 10000) : Pair mX11_score mX12_score [vI x0, vI x1] hX hM D B := by
  exact ⟨_, c_Score a o.1, fun v h' hp => ⟨_, _, hp.1, hp.2, (ok_Score o).mo (by omega), ct_post (m_Score b o.1 o.2) (fun v h2 q => ⟨q.1, q.2.up (by omega)⟩)⟩⟩
theorem p_Wash  (a : CI hX g) (b : MI B hM g) (o : Ok D g) (hD : D ≤ 900000000) (hB : B ≤ 10000) : Pair mX11_wash mX12_wash [] hX hM D B := by
  exact ⟨_, c_Wash a, fun v h' hp => ⟨_, _, hp.1, hp.2, (ok_Wash o).mo (by omega), ct_post (m_Wash b) (fun v h2 q => ⟨q.1, q.2.up (by omega)⟩)⟩⟩
theorem p_Ranks  (a : CI hX g) (b : MI B hM g) (o : Ok D g) (hD : D ≤ 900000000) (hB : B ≤ 10000) : Pair mX11_ranks mX12_ranks [] hX hM D B := by
  exact ⟨_, c_Ranks a o.1, fun v h' hp => ⟨_, _, hp.1, hp.2, (ok_Ranks o).mo (by omega), ct_post (m_Ranks b o.1 o.2) (fun v h2 q => ⟨q.1, q.2.up (by omega)⟩)⟩⟩
theorem p_Stands {x0 : Int32} {x1 : Int32} (a : CI hX g) (b : MI B hM g) (o : Ok D g) (hD : D ≤ 900000000) (hB : B ≤ 10000) : Pair mX11_stands mX12_stands [vI x0, vI x1] hX hM D B := by
  exact ⟨_, c_Stands a o.1, fun v h' hp => ⟨_, _, hp.1, hp.2, (ok_Stands o).mo (by omega), ct_post (m_Stands b o.1 o.2) (fun v h2 q => ⟨q.1, q.2.up (by omega)⟩)⟩⟩
theorem p_Places {x0 : Int32} (a : CI hX g) (b : MI B hM g) (o : Ok D g) (hD : D ≤ 900000000) (hB : B ≤ 10000) : Pair mX11_places mX12_places [vI x0] hX hM D B := by
  exact ⟨_, c_Places a o.1, fun v h' hp => ⟨_, _, hp.1, (by rw [hp.2]; exact a), o.mo (by omega), ct_post (m_Places b o.1 o.2) (fun v h2 q => ⟨q.1, q.2.up (by omega)⟩)⟩⟩
theorem p_Watch  (a : CI hX g) (b : MI B hM g) (o : Ok D g) (hD : D ≤ 900000000) (hB : B ≤ 10000) : Pair mX11_watch mX12_watch [] hX hM D B := by
  exact ⟨_, c_Watch a o.1, fun v h' hp => ⟨_, _, hp.1, hp.2, (ok_Watch o).mo (by omega), ct_post (m_Watch b o.1 o.2) (fun v h2 q => ⟨q.1, q.2.up (by omega)⟩)⟩⟩
theorem p_Odds {x0 : Int32} {x1 : Int32} {x2 : Int32} (a : CI hX g) (b : MI B hM g) (o : Ok D g) (hD : D ≤ 900000000) (hB : B ≤ 10000) : Pair mX11_odds mX12_odds [vI x0, vI x1, vI x2] hX hM D B := by
  exact ⟨_, c_Odds a, fun v h' hp => ⟨_, _, hp.1, hp.2, (ok_Odds o).mo (by omega), ct_post (m_Odds b) (fun v h2 q => ⟨q.1, q.2.up (by omega)⟩)⟩⟩
theorem p_Till {x0 : Int32} {x1 : Int32} {x2 : Int32} (a : CI hX g) (b : MI B hM g) (o : Ok D g) (hD : D ≤ 900000000) (hB : B ≤ 10000) : Pair mX11_till mX12_till [vI x0, vI x1, vI x2] hX hM D B := by
  exact ⟨_, c_Till a, fun v h' hp => ⟨_, _, hp.1, hp.2, (ok_Till o).mo (by omega), ct_post (m_Till b) (fun v h2 q => ⟨q.1, q.2.up (by omega)⟩)⟩⟩
theorem p_Heard {x0 : Int32} {x1 : Int32} (a : CI hX g) (b : MI B hM g) (o : Ok D g) (hD : D ≤ 900000000) (hB : B ≤ 10000) : Pair mX11_heard mX12_heard [vI x0, vI x1] hX hM D B := by
  exact ⟨_, c_Heard a o.1, fun v h' hp => ⟨_, _, hp.1, hp.2, (ok_Heard o).mo (by omega), ct_post (m_Heard b o.1) (fun v h2 q => ⟨q.1, q.2.up (by omega)⟩)⟩⟩
theorem p_Forget  (a : CI hX g) (b : MI B hM g) (o : Ok D g) (hD : D ≤ 900000000) (hB : B ≤ 10000) : Pair mX11_forget mX12_forget [] hX hM D B := by
  exact ⟨_, c_Forget a, fun v h' hp => ⟨_, _, hp.1, hp.2, (ok_Forget o).mo (by omega), ct_post (m_Forget b) (fun v h2 q => ⟨q.1, q.2.up (by omega)⟩)⟩⟩
theorem p_Fits  (a : CI hX g) (b : MI B hM g) (o : Ok D g) (hD : D ≤ 900000000) (hB : B ≤ 10000) : Pair mX11_fits mX12_fits_ [] hX hM D B := by
  exact ⟨_, c_Fits a o.1, fun v h' hp => ⟨_, _, hp.1, hp.2, (ok_Fits o).mo (by omega), ct_post (m_Fits b o.1 o.2) (fun v h2 q => ⟨q.1, q.2.up (by omega)⟩)⟩⟩
theorem p_Ask  (a : CI hX g) (b : MI B hM g) (o : Ok D g) (hD : D ≤ 900000000) (hB : B ≤ 10000) : Pair mX11_ask mX12_ask [] hX hM D B := by
  exact ⟨_, c_Ask a o.1, fun v h' hp => ⟨_, _, hp.1, hp.2, (ok_Ask o).mo (by omega), ct_post (m_Ask b o.1 o.2) (fun v h2 q => ⟨q.1, q.2.up (by omega)⟩)⟩⟩
theorem p_Rests {x0 : Int32} (a : CI hX g) (b : MI B hM g) (o : Ok D g) (hD : D ≤ 900000000) (hB : B ≤ 10000) : Pair mX11_rests mX12_rests [vI x0] hX hM D B := by
  exact ⟨_, c_Rests a, fun v h' hp => ⟨_, _, hp.1, hp.2, (ok_Rests o).mo (by omega), ct_post (m_Rests b) (fun v h2 q => ⟨q.1, q.2.up (by omega)⟩)⟩⟩
theorem p_Law  (a : CI hX g) (b : MI B hM g) (o : Ok D g) (hD : D ≤ 900000000) (hB : B ≤ 10000) : Pair mX11_law mX12_law [] hX hM D B := by
  exact ⟨_, c_Law a o.1, fun v h' hp => ⟨_, _, hp.1, hp.2, (ok_Law o).mo (by omega), ct_post (m_Law b o.1 o.2) (fun v h2 q => ⟨q.1, q.2.up (by omega)⟩)⟩⟩
theorem p_Years {x0 : Int32} {x1 : Int32} (a : CI hX g) (b : MI B hM g) (o : Ok D g) (hD : D ≤ 900000000) (hB : B ≤ 10000) : Pair mX11_years mX12_years [vI x0, vI x1] hX hM D B := by
  exact ⟨_, c_Years a o.1, fun v h' hp => ⟨_, _, hp.1, hp.2, (ok_Years o).mo (by omega), ct_post (m_Years b o.1 o.2) (fun v h2 q => ⟨q.1, q.2.up (by omega)⟩)⟩⟩
theorem p_Keep {x0 : Int32} (a : CI hX g) (b : MI B hM g) (o : Ok D g) (hD : D ≤ 900000000) (hB : B ≤ 10000) : Pair mX11_keep mX12_keep [vI x0] hX hM D B := by
  exact ⟨_, c_Keep a, fun v h' hp => ⟨_, _, hp.1, hp.2, (ok_Keep o).mo (by omega), ct_post (m_Keep b) (fun v h2 q => ⟨q.1, q.2.up (by omega)⟩)⟩⟩
theorem p_Again {x0 : Int32} (a : CI hX g) (b : MI B hM g) (o : Ok D g) (hD : D ≤ 900000000) (hB : B ≤ 10000) : Pair mX11_again mX12_again [vI x0] hX hM D B := by
  exact ⟨_, c_Again a, fun v h' hp => ⟨_, _, hp.1, hp.2, (ok_Again o).mo (by omega), ct_post (m_Again b hB) (fun v h2 q => ⟨q.1, q.2.up (by omega)⟩)⟩⟩
theorem p_Count {x0 : Int32} (a : CI hX g) (b : MI B hM g) (o : Ok D g) (hD : D ≤ 900000000) (hB : B ≤ 10000) : Pair mX11_count mX12_count [vI x0] hX hM D B := by
  exact ⟨_, c_Count a o.1, fun v h' hp => ⟨_, _, hp.1, (by rw [hp.2]; exact a), o.mo (by omega), ct_post (m_Count b o.1) (fun v h2 q => ⟨q.1, q.2.up (by omega)⟩)⟩⟩
end PAIRS
