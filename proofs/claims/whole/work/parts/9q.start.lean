/-! THE START: both objects new, one common state -/
def S0 : Sta := upd (fun _ => 0) 45 1000
def g0 : GS := (S0, (0, fun _ _ => 0), (0, fun _ _ => 0), 5, (0, rdT (fun _ => 0) 0), [], stdC, ([], fun _ => none), (0, fun _ => 0), (0, fun _ => 0, fun _ => 0))
theorem ls0 : lsG g0 = 0 := by decide +kernel
theorem bytK0 : bytK 0 := by unfold bytK; decide
theorem mi0 : MI 0 hM0 g0 := by
  refine ⟨⟨?_, rfl⟩, ⟨rfl, fun j hj => absurd hj (Nat.not_lt_zero j)⟩, ⟨rfl, fun j hj => absurd hj (Nat.not_lt_zero j)⟩, ⟨rfl, fun j => bytK0, fun j hj => absurd hj (Nat.not_lt_zero j)⟩, ⟨rfl, fun j x h => (by cases h)⟩, ⟨rfl, rfl, fun j => bytK0, fun j => bytK0, 0, by omega, rfl, rdO_0⟩, ⟨rfl, fun j s h => (by cases h)⟩, ⟨0, Nat.le_refl _, rfl, fun i hi => ⟨fun s h => (by cases h), fun _ => Or.inl rfl⟩⟩, ⟨rfl, ?_⟩, ⟨rfl, fun j hj => absurd hj (Nat.not_lt_zero j)⟩⟩
  · show upd (fun _ => 0) 41 1000 = mS (upd (fun _ => 0) 45 1000)
    rw [← mS_u41]
    rfl
  · show ∀ f, f < 8 → (0 : Int32) = ovF (fun _ => 0) f
    decide +kernel
theorem ok0 : Ok 0 g0 := by
  obtain ⟨k1, k2, k3⟩ := rdO_ok (T := fun _ => 0) (n := 0) (c := stdC) rdO_0
  refine ⟨⟨by decide, by decide, by decide, by decide, by decide, by decide, by decide, fun j hj => absurd hj (Nat.not_lt_zero j), k1, k2, k3⟩, fun j hj => absurd hj (Nat.not_lt_zero j), ⟨5, by omega, by omega, rfl⟩, ⟨⟨fun j hj => absurd hj (Nat.not_lt_zero j), ⟨fun o ho => ⟨0, Nat.zero_le _, ?_⟩, 1000, by omega, rfl⟩, fun j hj => absurd hj (Nat.not_lt_zero j)⟩, 0, Nat.le_refl _, rfl⟩, fun s h => (by cases h), fun i s h => (by cases h), ?_⟩
  · show S0 (40 + o) = nI 0
    unfold S0 upd
    rw [if_neg (by omega)]
    rfl
  · intro f hf
    exact ⟨0, by omega, rfl, fun o ho => by simp at ho⟩
theorem hwf0 : hwf alC hC0 := by
  intro a ha fds hs fd hfd
  have h0 : ∀ a ∈ alC, ∀ fds, shp a.1 = .inl fds → ∀ fd ∈ fds, (fd.1 = 3 → (fd.2.2.1, fd.2.1) ∈ alC) ∧ fd.1 ≠ 4 := by
    intro a ha fds hs
    have : a ∈ alC → ((match shp a.1 with
      | .inl fds => decide (∀ fd ∈ fds, (fd.1 = 3 → (fd.2.2.1, fd.2.1) ∈ alC) ∧ fd.1 ≠ 4)
      | .inr _ => true) = true) := by
      revert a
      exact fun a _ _ h => (show ∀ a ∈ alC, (match shp a.1 with
        | .inl fds => decide (∀ fd ∈ fds, (fd.1 = 3 → (fd.2.2.1, fd.2.1) ∈ alC) ∧ fd.1 ≠ 4)
        | .inr _ => true) = true by decide +kernel) a h
    have h2 := this ha
    rw [hs] at h2
    exact of_decide_eq_true h2
  obtain ⟨h1, h2⟩ := h0 a ha fds hs fd hfd
  exact ⟨fun e => h1 e, fun e => absurd e h2⟩
theorem hwfM : hwf alM hM0 := by
  intro a ha fds hs fd hfd
  have h0 : ∀ a ∈ alM, ∀ fds, shp a.1 = .inl fds → ∀ fd ∈ fds, (fd.1 = 3 → (fd.2.2.1, hM0.2.2 fd.2.1) ∈ alM) ∧ (fd.1 = 4 → hM0.2.2 fd.2.1 = 7) := by
    intro a ha fds hs
    have h2 := (show ∀ a ∈ alM, (match shp a.1 with
      | .inl fds => decide (∀ fd ∈ fds, (fd.1 = 3 → (fd.2.2.1, hM0.2.2 fd.2.1) ∈ alM) ∧ (fd.1 = 4 → hM0.2.2 fd.2.1 = 7))
      | .inr _ => true) = true by decide +kernel) a ha
    rw [hs] at h2
    exact of_decide_eq_true h2
  obtain ⟨h1, h2⟩ := h0 a ha fds hs fd hfd
  exact ⟨fun e => h1 e, fun e => Or.inl (h2 e)⟩
/-- addresses of a world that stands apart are apart -/
theorem inj_of {cA : Nat → ClassId} {tr : Ad → Nat} {h : Hp} {al : List Ad} {A : Nat → Prop} (hD : va_D A (wof cA tr h al)) : Inj al tr := by
  intro a ha b hb e
  obtain ⟨i, hi⟩ := List.getElem?_of_mem ha
  obtain ⟨j, hj⟩ := List.getElem?_of_mem hb
  have : i = j := hD.1 i j _ _ (wof_at hi) (wof_at hj) e
  subst this
  exact Option.some.inj (hi.symm.trans hj)
theorem aw_of {cA : Nat → ClassId} {tr : Ad → Nat} {h : Hp} {al : List Ad} {A : Nat → Prop} (hD : va_D A (wof cA tr h al)) : ∀ q, Aw al tr q → A q := by
  rintro q ⟨a, ha, rfl⟩
  obtain ⟨i, hi⟩ := List.getElem?_of_mem ha
  exact hD.2 i _ (wof_at hi)
/-- the String constants, for whoever is new -/
def SXg (A : Nat → Prop) (ts : Nat → Nat → Nat) (U : State) : Prop := vk_S 3 lenS bytS (fun i => ts 90 i) (fun i => ts 91 i) A U U.heap ∧ vk_R RX11 25 "a++on" (ts 90 0) U ∧ vk_R RX1 11 "p,n,d" (ts 90 1) U ∧ vk_R RX6 24 "s*10-h*6+w*2+(a>e)*3" (ts 90 2) U ∧ va_Z "java/lang/String" "COMPACT_STRINGS" "Z" (.int 1) A U U.heap ∧ va_Zq "jdk/internal/util/Preconditions" "SIOOBE_FORMATTER" "Ljava/util/function/BiFunction;" A U U.heap
theorem SXg.go {A : Nat → Prop} {ts : Nat → Nat → Nat} {s U : State} {H : Heap} (h : SXg A ts s) (hS : ∀ q : Nat, q < s.heap.size → ¬ A q → H[q]? = s.heap[q]?) (hU : U.heap = H) (hW : s.WarmedH U.vm) : SXg A ts U := by
  obtain ⟨h1, h2, h3, h4, h5, h6⟩ := h
  subst hU
  exact ⟨vk_S.moved hW.alike (h1.kept hS), h2.warm hW, h3.warm hW, h4.warm hW, va_Z.moved hW.alike (h5.kept hS), va_Zq.moved hW.alike (h6.kept hS)⟩
theorem SXg.call {A : Nat → Prop} {ts : Nat → Nat → Nat} {U : State} {g : JFrame} {mk : MethodId} {a : Array Value} (h : SXg A ts U) : SXg A ts (U.calling g mk a) := by
  obtain ⟨h1, h2, h3, h4, h5, h6⟩ := h
  exact ⟨vk_S.moved (u := U) (U := U.calling g mk a) (Vm.Alike.refl U.vm) h1, h2.same rfl, h3.same rfl, h4.same rfl, va_Z.moved (u := U) (U := U.calling g mk a) (Vm.Alike.refl U.vm) h5, va_Zq.moved (u := U) (U := U.calling g mk a) (Vm.Alike.refl U.vm) h6⟩
theorem SXg.narrow {A B : Nat → Prop} {ts : Nat → Nat → Nat} {U : State} (h : SXg A ts U) (hAB : ∀ q, B q → A q) : SXg B ts U := by
  obtain ⟨h1, h2, h3, h4, h5, h6⟩ := h
  exact ⟨h1.narrow hAB, h2, h3, h4, h5.narrow hAB, h6.narrow hAB⟩
theorem SXg.C {A : Nat → Prop} {ts : Nat → Nat → Nat} {qs : List Nat} {U : State} (h : SXg A ts U) (hA : ∀ q, Aw alC (trC ts qs) q → A q) : SX alC (trC ts qs) U := h.narrow hA
theorem SXg.M {A : Nat → Prop} {ts : Nat → Nat → Nat} {a : Nat} {u : Nat → Nat} {U : State} (h : SXg A ts U) (hA : ∀ q, Aw alM (trM ts a u) q → A q) : SX alM (trM ts a u) U := h.narrow hA
theorem stR9 : stok alC [vR 9 0] := fun v hv => by
  rcases List.mem_cons.mp hv with rfl | hv
  · exact fun a e => by
      cases e
      exact Or.inl (by decide)
  · cases hv
def nul12 : List Value := [.null, .null, .null, .null, .null, .null, .null, .null, .null, .null, .null, .null]
def A11 (a sz : Nat) : Nat → Prop := va_A [(a, .inr (11, nul12))] sz
def P11 (D : va_G) (cA : Nat → ClassId) (ts : Nat → Nat → Nat) (a sz : Nat) : Array Value → State → Prop := va_Pc [.ref a] (fun U => U.heap.size = sz ∧ va_P D vwCl [(a, .inr (11, nul12))] U.heap ∧ va_K D vwCl (tysL cA) U ∧ NI ts U ∧ SXg (A11 a sz) ts U)
def Q11 (D : va_G) (cA : Nat → ClassId) (ts : Nat → Nat → Nat) (a sz : Nat) : State → Outcome → State → Prop := fun st oc t => (∃ (xs : List Nat) (h' : Hp), oc = .returned none ∧ va_P D vwCl (wof cA (trC ts (a :: xs)) h' alC) t.heap ∧ va_D (A11 a sz) (wof cA (trC ts (a :: xs)) h' alC) ∧ CI h' g0 ∧ hwf alC h') ∧ va_F (A11 a sz) st t
theorem wof_D2 {cA : Nat → ClassId} {tr : Ad → Nat} {h : Hp} {al : List Ad} {A : Nat → Prop} (hn : al.Nodup) (hi : Inj al tr) (hA : ∀ q, Aw al tr q → A q) : va_D A (wof cA tr h al) := (wof_D hn hi).weaken (fun _ _ _ z => hA _ z)
set_option maxHeartbeats 4000000 in
theorem n_C {l : Launch} {D : va_G} {cA : Nat → ClassId} {ts : Nat → Nat → Nat} {a sz : Nat} : Met l yX11_init (wsM mX11_init) rmX (P11 D cA ts a sz) (fun _ => Q11 D cA ts a sz) 86 2146 (A11 a sz) := by
  refine Met.ofW (cc := cX11_init) (maxL := 1) (ret := none) (by decide) rfl ?_
  intro p e s m args below meth c s₁ B hml hv
  obtain ⟨rfl, rfl, hP, hK, hN, hX⟩ := hv
  have hx := B.exec
  have hb := B.bytes
  have hr := B.returns
  have hlocks := B.notSynchronized
  have hts0 := atoms_spec (ws := wsM mX11_init) B.pre
  have hts := fun w hw => hts0 w (List.mem_cons_of_mem _ hw)
  have hown : s.vm.findClass RX11 = some m.cls := findClass_of_methodNamed B.named
  have hl := lv_entry ([.ref a]) (n := 1) (Nat.le_of_ble_eq_true rfl)
  rw [lg_entry_eq]
  generalize (lg_sl ([.ref a]) ++ List.replicate (1 - (lg_sl ([.ref a])).length) Slot.unset).toArray = ls at hl ⊢
  have hl : lv_has ls 1 [(0, .ref a)] := hl
  refine n_X11 (A := A11 a s.heap.size) ⟨hx, hb, hml, hown, hts, hK, hN, (name_of_methodNamed B.named B.method).1, fun q z => Or.inr z⟩ ?_ s.heap [] ls hP ⟨fun i j x y hx hy _ => ?_, fun i x hx => va_A.in hx⟩ va_S.rf hl
  · intro xs H locs ls hP hD hS hl
    generalize htr : trC ts (a :: xs) = tr at hP hD
    have e0 : tr (11, 0) = a := by rw [← htr]; rfl
    have hinj := inj_of hD
    have hAw := aw_of hD
    have hsx : ∀ (H : Heap) (locs : List Loc), va_S (A11 a s.heap.size) s.heap H locs → ∀ U : State, U.heap = H → s.WarmedH U.vm → SX alC tr U := fun H locs hS U hU hW => by
      subst htr
      exact (hX.go hS.2.1 hU hW).C hAw
    have gt_ : ∀ (h : Hp), (wof cA tr h alC)[0]? = some (a, .inr (11, [.ref (tr (9, 0)), .ref (tr (5, 0)), .ref (tr (3, 0)), .ref (tr (1, 0)), .ref (tr (0, 0)), .ref (tr (8, 0)), .ref (tr (8, 1)), .ref (tr (8, 2)), .ref (tr (4, 0)), .ref (tr (7, 0)), .ref (tr (10, 0)), .ref (tr (2, 0))])) := fun h => by
      rw [wof_at (a := (11, 0)) rfl, e0, cell_obj (a := (11, 0)) rfl]
      simp only [List.mapIdx_cons, List.mapIdx_nil]
      rfl
    have ga : (wof cA tr hC0 alC)[20]? = some (tr (0, 0), .inr (0, [.ref (tr (3, 0)), .ref (tr (1, 0)), .ref (tr (6, 0)), .ref (tr (6, 1)), .int 5])) := by
      rw [wof_at (a := (0, 0)) rfl, cell_obj (a := (0, 0)) rfl]
      simp only [List.mapIdx_cons, List.mapIdx_nil]
      rfl
    refine lv_aload_n hx hb (show decode cX11_init 165 = .ok (.aload_n 0, 1) by decide +kernel) rfl (lv_at hl 0 rfl) ?_
    refine va_get hx hb hts (cl_ok 11 _ rfl).1 hown hK hP 0 (gt_ _) rfl 4 (by decide) (hts (.fieldLink RX11 46 "ByTheThumbs" "arena" "LByTheThumbs$Arena;") (by decide +kernel)) (fun _ z => z) rfl (show decode cX11_init 166 = .ok (.getfield 46, 3) by decide +kernel) ?_
    refine va_get hx hb hts (cl_ok 0 _ rfl).1 hown hK hP 20 ga rfl 2 (by decide) (hts (.fieldLink RX11 97 "ByTheThumbs$Arena" "rule" "LByTheThumbs$Rule;") (by decide +kernel)) (fun _ z => z) rfl (show decode cX11_init 169 = .ok (.getfield 97, 3) by decide +kernel) ?_
    refine lv_aload_n hx hb (show decode cX11_init 172 = .ok (.aload_n 0, 1) by decide +kernel) rfl (lv_at hl 0 rfl) ?_
    refine va_get hx hb hts (cl_ok 11 _ rfl).1 hown hK hP 0 (gt_ _) rfl 0 (by decide) (hts (.fieldLink RX11 10 "ByTheThumbs" "text" "LByTheThumbs$Text;") (by decide +kernel)) (fun _ z => z) rfl (show decode cX11_init 173 = .ok (.getfield 10, 3) by decide +kernel) ?_
    refine go_V (al := alC) (ci := 6) (i := 0) (k := 33) (n := 1) (As := [vR 9 0]) (rest := []) (Mc := mX6_read) (q := (RX6, TX6, 3)) ⟨hx, hb, hml, hown, hts⟩ hK hinj hP hwf0 (hsx H locs hS) hS hAw (by decide) stR9 rfl rfl rfl (by decide +kernel) (by decide +kernel) (by decide +kernel) (by decide +kernel) (by decide +kernel) (by decide +kernel) (by decide) ⟨Nat.le_refl _, Nat.le_refl _⟩ (Nat.le_of_ble_eq_true rfl) hl.1 (show decode cX11_init 176 = .ok (.invokevirtual 101, 3) by decide +kernel) rfl (c_rread (K := 0) (n := 0) (b := 0) rfl (by omega)) (fun v h1 H1 locs1 hp hP1 hw1 hz1 hk1 hS1 => ?_)
    obtain ⟨rfl, f1, e1, e2⟩ := hp
    refine lv_pop hx hb (show decode cX11_init 179 = .ok (.pop, 1) by decide +kernel) rfl ?_
    refine lv_aload_n hx hb (show decode cX11_init 180 = .ok (.aload_n 0, 1) by decide +kernel) rfl (lv_at hl 0 rfl) ?_
    refine va_get hx hb hts (cl_ok 11 _ rfl).1 hown hK hP1 0 (gt_ _) rfl 0 (by decide) (hts (.fieldLink RX11 10 "ByTheThumbs" "text" "LByTheThumbs$Text;") (by decide +kernel)) (fun _ z => z) rfl (show decode cX11_init 181 = .ok (.getfield 10, 3) by decide +kernel) ?_
    refine go_V (al := alC) (ci := 9) (i := 0) (k := 5) (n := 0) (As := []) (rest := []) (Mc := mX9_clear) (q := (RX9, TX9, 4)) ⟨hx, hb, hml, hown, hts⟩ hK hinj hP1 hw1 (hsx H1 locs1 hS1) hS1 hAw (by decide) (fun v hv => by cases hv) rfl rfl rfl (by decide +kernel) (by decide +kernel) (by decide +kernel) (by decide +kernel) (by decide +kernel) (by decide +kernel) (by decide) ⟨Nat.le_refl _, Nat.le_refl _⟩ (Nat.le_of_ble_eq_true rfl) hl.1 (show decode cX11_init 184 = .ok (.invokevirtual 107, 3) by decide +kernel) rfl c_tclear (fun v h2 H2 locs2 hp hP2 hw2 hz2 hk2 hS2 => ?_)
    subst hp
    obtain ⟨q1, q2⟩ := e2 stdC rdO_0
    have n2 : ∀ k i, (k, i) ∉ [((9, 0) : Ad), (34, 0), (6, 0), (26, 0)] → (sX h1 9 0 1 (nI 0)).1 k i = hC0.1 k i := fun k i hn => by
      rw [sX_row, if_neg (fun z => hn (by rw [z.1, z.2]; decide))]
      exact f1.2 k i hn
    have hCI : CI (sX h1 9 0 1 (nI 0)) g0 := by
      have d2 : (sX h1 9 0 1 (nI 0)).2 = hC0.2 := f1.1
      refine ⟨⟨?_, ?_⟩, ⟨?_, ?_, ?_⟩, ⟨?_, ?_, ?_, ?_⟩, ⟨?_, ?_⟩, ⟨?_, fun j x h => (by cases h)⟩, ⟨?_, ?_, ?_, ?_⟩, ⟨0, by omega, ?_, ?_, fun j s h => (by cases h)⟩, ⟨?_, fun j _ s h => (by cases h)⟩, ⟨?_, ?_⟩, ⟨?_, ?_, ?_⟩⟩
      · rw [n2 33 0 (by decide)]; rfl
      · rw [n2 0 0 (by decide)]; rfl
      · rw [n2 3 0 (by decide)]; rfl
      · rw [n2 3 0 (by decide)]; rfl
      · funext p; exact n2 38 _ (by simp)
      · rw [n2 3 1 (by decide)]; rfl
      · rw [n2 3 1 (by decide)]; rfl
      · funext p; exact n2 38 _ (by simp)
      · rw [n2 1 0 (by decide), ls0]; rfl
      · rw [rdX, if_pos (by simp)]; rfl
      · rw [sX_row, if_neg (by simp)]; exact e1
      · rw [n2 5 0 (by decide)]; rfl
      · rw [d2]; decide
      · rw [d2]; rfl
      · rw [d2, sX_row, if_neg (by decide)]; exact q1
      · rw [d2, sX_row, if_neg (by decide)]; exact q2
      · rw [n2 4 0 (by decide)]; rfl
      · rw [n2 4 0 (by decide)]; rfl
      · rw [n2 4 0 (by decide)]; rfl
      · rw [n2 10 0 (by decide)]; rfl
      · rw [n2 35 0 (by decide)]; rfl
      · rw [n2 2 0 (by decide)]; rfl
      · rw [n2 20 0 (by decide)]; rfl
      · rw [n2 21 0 (by decide)]; rfl
    exact W.vret hx hb hr (fun t ht hW => ⟨⟨xs, _, rfl, by rw [ht, htr]; exact hP2, by rw [htr]; exact wof_D2 okC.1 hinj hAw, hCI, hw2⟩, hS2.F ht⟩) hS2.2.2 (show decode cX11_init 187 = .ok (.return_, 1) by decide +kernel)
  · have h1 := (List.getElem?_eq_some_iff.mp hx).1
    have h2 := (List.getElem?_eq_some_iff.mp hy).1
    simp at h1 h2
    omega
