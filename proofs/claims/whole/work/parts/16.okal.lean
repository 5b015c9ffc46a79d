/-! the two worlds are closed -/
def wfB (al : List Ad) (a : Ad) : Bool := decide (a ∈ al) || (Nat.ble 90 a.1 && Nat.blt a.2 3)
def okA (al : List Ad) (a : Ad) : Bool := Nat.blt a.1 90 && !(a.1 == 43 && a.2 == 7) && (match shp a.1 with
  | .inl fds => (List.range fds.length).all (fun j => match fds[j]? with
    | some (t, x, y, z) => (match t with
      | 2 => wfB al (x, match y with
        | 0 => z
        | _ => a.2)
      | 0 => true
      | 1 => true
      | _ => a.2 == 0 && decide (slo x = (a.1, j)))
    | none => true)
  | .inr q => (!(q.1 == 1) || a.2 == 0) && (Nat.blt q.1 4 || (List.range (aln q a.2)).all (fun i => decide ((q.2.2.2.1, ein q a.2 i) ∈ al))))
theorem or3 {a b : Bool} (h : (a || b) = true) : a = true ∨ b = true := by rwa [Bool.or_eq_true] at h
theorem okA_ok {al : List Ad} (hn : al.Nodup) (h : al.all (okA al) = true) : Okal al := by
  have h1 : ∀ a, a ∈ al → okA al a = true := List.all_eq_true.mp h
  refine ⟨hn, fun a ha => ?_, fun a ha => ?_⟩
  · have h2 := h1 a ha
    unfold okA at h2
    obtain ⟨h2, h3⟩ := and3 h2
    obtain ⟨h4, h5⟩ := and3 h2
    refine ⟨blt_ok h4, fun e1 e2 => ?_, fun q e hq => ?_, fun fds e j fd hf h3' => ?_⟩
    · simp [e1, e2] at h5
    · rw [e] at h3
      dsimp only at h3
      obtain ⟨h6, -⟩ := and3 h3
      simpa [hq] using h6
    · rw [e] at h3
      dsimp only at h3
      have h6 := List.all_eq_true.mp h3 j (List.mem_range.mpr (List.getElem?_eq_some_iff.mp hf).1)
      rw [hf] at h6
      obtain ⟨t, x, y, z⟩ := fd
      dsimp only at h6 h3' ⊢
      match t, h3', h6 with
      | t + 3, _, h6 =>
        obtain ⟨h7, h8⟩ := and3 h6
        exact ⟨by simpa using h7, of_decide_eq_true h8⟩
      | 0, h3', _ => omega
      | 1, h3', _ => omega
      | 2, h3', _ => omega
  · have h2 := h1 a ha
    unfold okA at h2
    obtain ⟨h2, h3⟩ := and3 h2
    refine ⟨fun fds e fd hf hfd => ?_, fun q e hq i hi => ?_⟩
    · rw [e] at h3
      dsimp only at h3
      obtain ⟨j, hj⟩ := List.getElem?_of_mem hf
      have h6 := List.all_eq_true.mp h3 j (List.mem_range.mpr (List.getElem?_eq_some_iff.mp hj).1)
      rw [hj] at h6
      obtain ⟨t, x, y, z⟩ := fd
      cases hfd
      dsimp only at h6
      have h7 := h6
      intro b hb
      cases hb
      rcases or3 h7 with h7 | h7
      · exact Or.inl (of_decide_eq_true h7)
      · obtain ⟨h8, h9⟩ := and3 h7
        exact Or.inr ⟨Nat.le_of_ble_eq_true h8, blt_ok h9⟩
    · rw [e] at h3
      dsimp only at h3
      obtain ⟨-, h6⟩ := and3 h3
      rw [Bool.or_eq_true] at h6
      rcases h6 with h6 | h6
      · exact absurd (blt_ok h6) (by omega)
      · exact of_decide_eq_true (List.all_eq_true.mp h6 i (List.mem_range.mpr hi))
set_option maxRecDepth 100000 in
theorem okC : Okal alC := okA_ok (by decide +kernel) (by decide +kernel)
set_option maxRecDepth 100000 in
theorem okM : Okal alM := okA_ok (by decide +kernel) (by decide +kernel)
