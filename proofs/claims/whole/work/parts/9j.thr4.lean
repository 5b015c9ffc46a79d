/-! where the class throws -/
theorem x_Fighter {k : Nat} {h : Hp} {g : GS} {x w : Int32} (a : CI h g) (hok : okFi g x w = false) : Cx alC mX11_fighter k [vR 11 0, vI x, vI w] h := by
  have T : ∀ lv, WPT alC mX11_fighter k h 21 lv [] h := fun lv => wt_throw rfl (by decide +kernel) (by decide +kernel) (by decide +kernel) (by decide +kernel)
  refine cx_wp (by decide) (Nat.le_of_ble_eq_true rfl) ?_
  refine wt_aload_n (i := 0) (by decide +kernel) rfl ?_
  refine wt_getfield (idx := 30) (ci := 11) (kf := 2) okC (by decide +kernel) rfl (by decide) (by decide +kernel) rfl rfl (by decide) (fun e => absurd e (by decide)) ?_
  refine wt_iload_n (i := 1) (by decide +kernel) rfl ?_
  refine wt_callV (idx := 151) (ci := 3) (i := 0) (Mc := mX3_has) (As := [vI x]) (rest := []) (n := 1) (by decide +kernel) rfl rfl rfl rfl (by decide +kernel) (by decide +kernel) (by decide +kernel) (by decide +kernel) (by decide +kernel) (by decide +kernel) (by decide) (by decide) (c_has a.n) ?_
  rintro v h' ⟨rfl, rfl⟩
  refine wt_if_eq (off := 13) (t := 21) (by decide +kernel) (by decide) (fun _ => T _) (fun c1 => ?_)
  have q1 : hasN x (gN g) = true := by
    cases hb : hasN x (gN g) with
    | true => rfl
    | false => rw [hb] at c1; exact absurd rfl c1
  refine wt_iload_n (i := 2) (by decide +kernel) rfl ?_
  refine wt_if_lt (off := 9) (t := 21) (by decide +kernel) (by decide) (fun _ => T _) (fun c2 => ?_)
  refine wt_iload_n (i := 2) (by decide +kernel) rfl ?_
  refine wt_bipush (n := 8) (by decide +kernel) ?_
  refine wt_icmp_le (off := 11) (t := 29) (by decide +kernel) (by decide) (fun c3 => ?_) (fun _ => T _)
  unfold okFi inB at hok
  rw [q1, dT (show nI 0 ≤ w from Int32.not_lt.mp c2), dT (show w ≤ nI 8 from c3)] at hok
  cases hok
theorem x_Seat {k : Nat} {h : Hp} {g : GS} {x w : Int32} (a : CI h g) (hok : okSe g x w = false) : Cx alC mX11_seat k [vR 11 0, vI x, vI w] h := by
  have T : ∀ lv, WPT alC mX11_seat k h 23 lv [] h := fun lv => wt_throw rfl (by decide +kernel) (by decide +kernel) (by decide +kernel) (by decide +kernel)
  refine cx_wp (by decide) (Nat.le_of_ble_eq_true rfl) ?_
  refine wt_aload_n (i := 0) (by decide +kernel) rfl ?_
  refine wt_getfield (idx := 37) (ci := 11) (kf := 3) okC (by decide +kernel) rfl (by decide) (by decide +kernel) rfl rfl (by decide) (fun e => absurd e (by decide)) ?_
  refine wt_getfield (idx := 141) (ci := 1) (kf := 0) okC (by decide +kernel) rfl (by decide) (by decide +kernel) rfl rfl (by decide) (fun e => absurd e (by decide)) ?_
  refine wt_iload_n (i := 1) (by decide +kernel) rfl ?_
  refine wt_callV (idx := 151) (ci := 3) (i := 1) (Mc := mX3_has) (As := [vI x]) (rest := []) (n := 1) (by decide +kernel) rfl rfl rfl rfl (by decide +kernel) (by decide +kernel) (by decide +kernel) (by decide +kernel) (by decide +kernel) (by decide +kernel) (by decide) (by decide) (c_has a.2.2.1.2.1) ?_
  rintro v h' ⟨rfl, rfl⟩
  refine wt_if_eq (off := 12) (t := 23) (by decide +kernel) (by decide) (fun _ => T _) (fun c1 => ?_)
  have q1 : hasN x (gM g) = true := by
    cases hb : hasN x (gM g) with
    | true => rfl
    | false => rw [hb] at c1; exact absurd rfl c1
  refine wt_iload_n (i := 2) (by decide +kernel) rfl ?_
  refine wt_if_lt (off := 8) (t := 23) (by decide +kernel) (by decide) (fun _ => T _) (fun c2 => ?_)
  refine wt_iload_n (i := 2) (by decide +kernel) rfl ?_
  refine wt_iconst (n := 2) (by decide +kernel) ?_
  refine wt_icmp_le (off := 11) (t := 31) (by decide +kernel) (by decide) (fun c3 => ?_) (fun _ => T _)
  unfold okSe inB at hok
  rw [q1, dT (show nI 0 ≤ w from Int32.not_lt.mp c2), dT (show w ≤ nI 2 from c3)] at hok
  cases hok
theorem x_Strength {k : Nat} {h : Hp} {g : GS} {x w : Int32} (a : CI h g) (hok : okTw g x w = false) : Cx alC mX11_strength k [vR 11 0, vI x, vI w] h := by
  have T : ∀ lv, WPT alC mX11_strength k h 27 lv [] h := fun lv => wt_throw rfl (by decide +kernel) (by decide +kernel) (by decide +kernel) (by decide +kernel)
  refine cx_wp (by decide) (Nat.le_of_ble_eq_true rfl) ?_
  refine wt_aload_n (i := 0) (by decide +kernel) rfl ?_
  refine wt_getfield (idx := 30) (ci := 11) (kf := 2) okC (by decide +kernel) rfl (by decide) (by decide +kernel) rfl rfl (by decide) (fun e => absurd e (by decide)) ?_
  refine wt_iload_n (i := 1) (by decide +kernel) rfl ?_
  refine wt_callV (idx := 151) (ci := 3) (i := 0) (Mc := mX3_has) (As := [vI x]) (rest := []) (n := 1) (by decide +kernel) rfl rfl rfl rfl (by decide +kernel) (by decide +kernel) (by decide +kernel) (by decide +kernel) (by decide +kernel) (by decide +kernel) (by decide) (by decide) (c_has a.n) ?_
  rintro v h' ⟨rfl, rfl⟩
  refine wt_if_eq (off := 19) (t := 27) (by decide +kernel) (by decide) (fun _ => T _) (fun c1 => ?_)
  have q1 : hasN x (gN g) = true := by
    cases hb : hasN x (gN g) with
    | true => rfl
    | false => rw [hb] at c1; exact absurd rfl c1
  refine wt_aload_n (i := 0) (by decide +kernel) rfl ?_
  refine wt_getfield (idx := 30) (ci := 11) (kf := 2) okC (by decide +kernel) rfl (by decide) (by decide +kernel) rfl rfl (by decide) (fun e => absurd e (by decide)) ?_
  refine wt_iload_n (i := 2) (by decide +kernel) rfl ?_
  refine wt_callV (idx := 151) (ci := 3) (i := 0) (Mc := mX3_has) (As := [vI w]) (rest := []) (n := 1) (by decide +kernel) rfl rfl rfl rfl (by decide +kernel) (by decide +kernel) (by decide +kernel) (by decide +kernel) (by decide +kernel) (by decide +kernel) (by decide) (by decide) (c_has a.n) ?_
  rintro v h2 ⟨rfl, rfl⟩
  refine wt_if_eq (off := 8) (t := 27) (by decide +kernel) (by decide) (fun _ => T _) (fun c2 => ?_)
  have q2 : hasN w (gN g) = true := by
    cases hb : hasN w (gN g) with
    | true => rfl
    | false => rw [hb] at c2; exact absurd rfl c2
  refine wt_iload_n (i := 1) (by decide +kernel) rfl ?_
  refine wt_iload_n (i := 2) (by decide +kernel) rfl ?_
  refine wt_icmp_ne (off := 11) (t := 35) (by decide +kernel) (by decide) (fun c3 => ?_) (fun _ => T _)
  unfold okTw at hok
  rw [q1, q2, dF c3] at hok
  cases hok
theorem x_Row {k : Nat} {h : Hp} {g : GS} {x : Int32} (a : CI h g) (hok : okRo g x = false) : Cx alC mX11_row k [vR 11 0, vI x] h := by
  have T : ∀ lv, WPT alC mX11_row k h 15 lv [] h := fun lv => wt_throw rfl (by decide +kernel) (by decide +kernel) (by decide +kernel) (by decide +kernel)
  refine cx_wp (by decide) (Nat.le_of_ble_eq_true rfl) ?_
  refine wt_iload_n (i := 1) (by decide +kernel) rfl ?_
  refine wt_if_lt (off := 14) (t := 15) (by decide +kernel) (by decide) (fun _ => T _) (fun c2 => ?_)
  refine wt_iload_n (i := 1) (by decide +kernel) rfl ?_
  refine wt_aload_n (i := 0) (by decide +kernel) rfl ?_
  refine wt_getfield (idx := 19) (ci := 11) (kf := 1) okC (by decide +kernel) rfl (by decide) (by decide +kernel) rfl rfl (by decide) (fun e => absurd e (by decide)) ?_
  refine wt_getfield (idx := 414) (ci := 5) (kf := 1) okC (by decide +kernel) rfl (by decide) (by decide +kernel) rfl rfl (by decide) (fun e => absurd e (by decide)) ?_
  refine wt_icmp_lt (off := 11) (t := 23) (by decide +kernel) (by decide) (fun c3 => ?_) (fun _ => T _)
  have e5 : h.1 5 0 1 = nI (gL g).length := a.2.2.2.2.1.1
  have c3 : x < nI (gL g).length := e5 ▸ c3
  unfold okRo hasN at hok
  rw [dT (show (0 : Int32) ≤ x from Int32.not_lt.mp c2), dT c3] at hok
  cases hok
