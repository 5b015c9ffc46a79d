/-! THE START OF THE LAW -/
section GOI
variable {p : Program} {l : Launch} {e : Env} {R : Room} {s : State} {m : MethodId} {args : Array Value} {below : List Frame} {meth : Method} {c : Code} {H : Heap} {locs : List Loc} {cells slots : Nat} {Q : State → Prop} {pc : Nat} {ls : Array Slot}
theorem go_I {cc : ByteArray} {nL : Nat} {own : String} {Mc : MT} {rm : Room} {Pc : Array Value → State → Prop} {Qc : State → Outcome → State → Prop} {mc ms ix a : Nat} {free : Addr → Prop} {rest : List Value} (S : CallFix p m c cc nL s args gt own) (hM : Met l Mc.1 (wsM Mc) rm Pc (fun _ => Qc) mc ms free) (hret : Mc.2.2.2 = none) (hnm : Mc.1.name = "<init>") (g1 : Cond.methodLink own ix Mc.1 ∈ gt) (g2 : Cond.instanceMethod Mc.1 ∈ gt) (g3 : Cond.initialized Mc.1.cls ∈ gt) (g4 : Cond.code Mc.1 Mc.2.1 Mc.2.2.1 Mc.2.2.2 ∈ gt)
    (hy : Mc.1.cls ≠ "java/lang/invoke/MethodHandle" ∧ Mc.1.cls ≠ "java/lang/invoke/VarHandle" ∧ (parseMethodDescriptor Mc.1.desc).map (fun d => d.parameters.length) = some 0) (hrc : rm.cells = mc) (hrs : rm.slots = ms) (hR : rm.frames + 1 ≤ R.frames ∧ 8 + (Mc.2.2.1 + 11) + rm.locals ≤ R.locals) (hpre : PreS s H Pc [.ref a]) (hc : cells + mc ≤ R.cells ∧ slots + ms ≤ R.slots) (hcat : (rest.map fun v => v.category).sum ≤ 8) (hls : ls.size = nL) (hd : decode cc pc = .ok (.invokespecial ix, 3))
    (kk : ∀ (v : Option Value) (st₀ t : State) (Ls : List Loc), st₀.heap = H → (∀ z ∈ Ls, free z.base) → Qc st₀ (.returned v) t → v = none ∧ W p l e R s m args below meth c t.heap (locs ++ Ls) (cells + mc) (slots + ms) Q (F0 m (pc + 3) ls rest)) : W p l e R s m args below meth c H locs cells slots Q (F0 m pc ls (.ref a :: rest)) := by
  have hts := S.2.2.2.2
  have hr := va_runI (Ts := gt) (bytes := Mc.2.1) (maxL := Mc.2.2.1) (n := 0) (As := []) (rest := rest) (e := e) (below := below) (meth := meth) (locs := locs) (cells := cells) (slots := slots) (R := R) (H := H) (g := F0 m pc ls (.ref a :: rest)) S hM ⟨callB_of 0 hts (gin Mc g4) (by unfold wsM; rw [hret]) hrc hrs (hts _ g3) (hts _ g1) hy hR, hnm, hts _ g2⟩ hpre rfl rfl hls rfl (lv_room hcat) hd hc
  intro T hT X
  obtain ⟨v, st₀, t, T', Ls, h0, X', hL, e1, e2, hq, step⟩ := hr T hT X
  obtain ⟨rfl, hW⟩ := kk v st₀ t Ls h0 hL hq
  obtain ⟨t2, a1, b1⟩ := hW T' e1 X'
  exact ⟨t2, step t2 a1, b1⟩
end GOI
theorem aO {s : State} {args : Array Value} {ty : FieldType} (h : (Cond.arrayClass ty).before args s = true) (hp : ∀ x, va_RA s x ty = (s.vm.findClass ("[" ++ ty.toString) = some x)) : ∃ x : ClassId, ArrOfT s x ty ∧ va_RA s x ty := by
  obtain ⟨cB, kB, comp, h1, h2, h3⟩ := Cond.arrayClass_spec h
  exact ⟨cB, fun n z => ⟨fun k h => (by cases h), kB, h2, comp, h3⟩, by rw [hp]; exact h1⟩
theorem kK {s : State} {args : Array Value} (hts : ∀ w ∈ lw_tbl, w.before args s = true) : ∃ (D : va_G) (cA : Nat → ClassId), va_K D vwCl (tysL cA) s := by
  have htg : ∀ w ∈ gt, w.before args s = true := fun w hw => hts w (gt_lw hw)
  have h1 : ∀ k : Nat, ∃ x : ClassId × (Nat → Nat), ∀ q, vwCl[k]? = some q → u_Kn s q.1 q.2.1 q.2.2 x.1 x.2 := by
    intro k
    by_cases hk : k < 13
    · obtain ⟨q, hq⟩ : ∃ q, vwCl[k]? = some q := ⟨vwCl[k], List.getElem?_eq_getElem hk⟩
      have hi : (Cond.instantiable q.1 q.2.2).before args s = true := by
        have : k = 0 ∨ k = 1 ∨ k = 2 ∨ k = 3 ∨ k = 4 ∨ k = 5 ∨ k = 6 ∨ k = 7 ∨ k = 8 ∨ k = 9 ∨ k = 10 ∨ k = 11 ∨ k = 12 := by omega
        rcases this with rfl | rfl | rfl | rfl | rfl | rfl | rfl | rfl | rfl | rfl | rfl | rfl | rfl <;> (cases hq; exact htg _ (by decide +kernel))
      obtain ⟨cC, iS, hu⟩ := u_known (n := q.2.2) htg (cl_ok k q hq).1 hi
      exact ⟨(cC, iS), fun q' hq' => by rw [hq] at hq'; cases hq'; exact hu⟩
    · exact ⟨(0, fun _ => 0), fun q hq => absurd (List.getElem?_eq_some_iff.mp hq).1 hk⟩
  obtain ⟨d, hd⟩ := Classical.axiomOfChoice h1
  obtain ⟨x0, a0⟩ := aO (htg (.arrayClass .int) (by decide +kernel)) (fun _ => rfl)
  obtain ⟨x1, a1⟩ := aO (htg (.arrayClass .long) (by decide +kernel)) (fun _ => rfl)
  obtain ⟨x2, a2⟩ := aO (htg (.arrayClass .byte) (by decide +kernel)) (fun _ => rfl)
  obtain ⟨x3, a3⟩ := aO (htg (.arrayClass .boolean) (by decide +kernel)) (fun _ => rfl)
  obtain ⟨comp, x4, k4, q1, q2, q3, q4, q5⟩ := Cond.arrayOver_spec (hts (.arrayOver (.object RX8)) (by decide +kernel))
  obtain ⟨cmp5, x5, k5, r1, r2, r3, r4, r5⟩ := Jvm.Stand.arrayOver_specB (hts (.arrayOver (.array .int)) (by decide +kernel))
  refine ⟨(fun k => (d k).1, fun k => (d k).2), fun k => [x0, x1, x2, x3, x4, x5].getD k 0, fun k q hq => hd k q hq, fun k q hq => ?_⟩
  have hk : k < 6 := (List.getElem?_eq_some_iff.mp hq).1
  rcases (show k = 0 ∨ k = 1 ∨ k = 2 ∨ k = 3 ∨ k = 4 ∨ k = 5 by omega) with rfl | rfl | rfl | rfl | rfl | rfl
  · cases hq; exact a0
  · cases hq; exact a1
  · cases hq; exact a2
  · cases hq; exact a3
  · cases hq; exact ⟨fun n z => ⟨fun k h => (by cases h), k4, q3, comp, q4⟩, k4, comp, q3, q4, q1, q5⟩
  · cases hq; exact ⟨fun n z => ⟨fun k h => (by cases h), k5, r3, cmp5, r4⟩, r5⟩
/-- the String constants at the start -/
def tmS (i : Nat) : Term := [Term.string RX11 25, Term.string RX1 11, Term.string RX6 24].getD i (.string RX6 24)
theorem kS {s : State} {args : Array Value} (hts : ∀ w ∈ lw_tbl, w.before args s = true) (hgv : (Jvm.Cond.and given_1 narrow_1).before args s = true) : ∃ ts : Nat → Nat → Nat, SXg (AL s) ts s := by
  have hs := flat_of_before _ hgv
  have hA : ∀ a : Nat, a < s.heap.size → ¬ AL s a := fun a h => Nat.not_le.mpr h
  obtain ⟨adK, adV, hS, hE⟩ := vk_Sof (args := args) (s := s) (N := 3) (tm := tmS) (len := lenS) (byt := bytS) (A := AL s) (by decide)
    (fun i hi => by rcases (show i = 0 ∨ i = 1 ∨ i = 2 by omega) with rfl | rfl | rfl <;> exact hs _ (by decide +kernel))
    (fun i hi => by rcases (show i = 0 ∨ i = 1 ∨ i = 2 by omega) with rfl | rfl | rfl <;> exact hs _ (by decide +kernel))
    (fun i hi => by rcases (show i = 0 ∨ i = 1 ∨ i = 2 by omega) with rfl | rfl | rfl <;> exact hs _ (by decide +kernel))
    (fun i hi => by rcases (show i = 0 ∨ i = 1 ∨ i = 2 by omega) with rfl | rfl | rfl <;> exact hs _ (by decide +kernel))
    (fun i hi j hj => by
      rcases (show i = 0 ∨ i = 1 ∨ i = 2 by omega) with rfl | rfl | rfl
      · have hj : j < 5 := hj
        rcases (show j = 0 ∨ j = 1 ∨ j = 2 ∨ j = 3 ∨ j = 4 by omega) with rfl | rfl | rfl | rfl | rfl <;> exact hs _ (by decide +kernel)
      · have hj : j < 5 := hj
        rcases (show j = 0 ∨ j = 1 ∨ j = 2 ∨ j = 3 ∨ j = 4 by omega) with rfl | rfl | rfl | rfl | rfl <;> exact hs _ (by decide +kernel)
      · have hj : j < 20 := hj
        rcases (show j = 0 ∨ j = 1 ∨ j = 2 ∨ j = 3 ∨ j = 4 ∨ j = 5 ∨ j = 6 ∨ j = 7 ∨ j = 8 ∨ j = 9 ∨ j = 10 ∨ j = 11 ∨ j = 12 ∨ j = 13 ∨ j = 14 ∨ j = 15 ∨ j = 16 ∨ j = 17 ∨ j = 18 ∨ j = 19 by omega) with rfl | rfl | rfl | rfl | rfl | rfl | rfl | rfl | rfl | rfl | rfl | rfl | rfl | rfl | rfl | rfl | rfl | rfl | rfl | rfl <;> exact hs _ (by decide +kernel))
    (fun i j hi hj hij => by
      rcases (show i = 0 ∨ i = 1 ∨ i = 2 by omega) with rfl | rfl | rfl <;> rcases (show j = 0 ∨ j = 1 ∨ j = 2 by omega) with rfl | rfl | rfl
      · exact absurd rfl hij
      · exact Or.inl (hs _ (by decide +kernel))
      · exact Or.inl (hs _ (by decide +kernel))
      · exact Or.inr (hs _ (by decide +kernel))
      · exact absurd rfl hij
      · exact Or.inl (hs _ (by decide +kernel))
      · exact Or.inr (hs _ (by decide +kernel))
      · exact Or.inr (hs _ (by decide +kernel))
      · exact absurd rfl hij) hA
  refine ⟨fun k i => if k = 90 then adK i else adV i, hS, vk_R.of (hts _ (by decide +kernel)) (hE 0 (by omega)), vk_R.of (hts _ (by decide +kernel)) (hE 1 (by omega)), vk_R.of (hts _ (by decide +kernel)) (hE 2 (by omega)), ?_, ?_⟩
  · exact va_Zof (hts _ (by decide +kernel)) (hts _ (by decide +kernel)) (va_eqt (hs (.eq (.static "java/lang/String" "COMPACT_STRINGS" "Z") (.int 1)) (by decide +kernel))) hA
  · exact va_Zqof (hts _ (by decide +kernel)) (hts _ (by decide +kernel)) (hs (.isRef (.static "jdk/internal/util/Preconditions" "SIOOBE_FORMATTER" "Ljava/util/function/BiFunction;")) (by decide +kernel)) hA
theorem kE {s : State} {args : Array Value} (hts : ∀ w ∈ lw_tbl, w.before args s = true) (hgv : (Jvm.Cond.and given_1 narrow_1).before args s = true) : EX (AL s) s := by
  have hs := flat_of_before _ hgv
  have hA : ∀ a : Nat, a < s.heap.size → ¬ AL s a := fun a h => Nat.not_le.mpr h
  refine ⟨fun w hw => va_Nw.of (nwL_on w hw) (hts w (by revert w; decide +kernel)), ?_, ?_⟩
  · exact vx_Zqof (hts _ (by decide +kernel)) (hts _ (by decide +kernel)) (hs (.isRef (.static "java/lang/Throwable" "UNASSIGNED_STACK" "[Ljava/lang/StackTraceElement;")) (by decide +kernel)) hA
  · exact vx_Zqof (hts _ (by decide +kernel)) (hts _ (by decide +kernel)) (hs (.isRef (.static "java/lang/Throwable" "SUPPRESSED_SENTINEL" "Ljava/util/List;")) (by decide +kernel)) hA
theorem kN {s : State} {args : Array Value} {A : Nat → Prop} {ts : Nat → Nat → Nat} (hts : ∀ w ∈ lw_tbl, w.before args s = true) (hX : SXg A ts s) : NI ts s :=
  ⟨fun w hw => va_Nw.of (nestL_on w hw) (hts w (by revert w; decide +kernel)), va_AO.of (hts (.arrayOver (.object RX8)) (by decide +kernel)), va_AOA.of (hts (.arrayOver (.array .int)) (by decide +kernel)), hX.2.1, hX.2.2.1⟩
