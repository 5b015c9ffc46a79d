/-! numbers: bits and counts (nI_and, nI_or, nI_xor as in the kit's number rows) -/
theorem nI_and (a b : Nat) : nI a &&& nI b = nI (a &&& b) := by
  apply Int32.toBitVec_inj.1
  show BitVec.ofNat 32 a &&& BitVec.ofNat 32 b = BitVec.ofNat 32 (a &&& b)
  apply BitVec.eq_of_getLsbD_eq
  intro i hi
  simp [hi]
theorem nI_or (a b : Nat) : nI a ||| nI b = nI (a ||| b) := by
  apply Int32.toBitVec_inj.1
  show BitVec.ofNat 32 a ||| BitVec.ofNat 32 b = BitVec.ofNat 32 (a ||| b)
  apply BitVec.eq_of_getLsbD_eq
  intro i hi
  simp [hi]
theorem nI_xor (a b : Nat) : nI a ^^^ nI b = nI (a ^^^ b) := by
  apply Int32.toBitVec_inj.1
  show BitVec.ofNat 32 a ^^^ BitVec.ofNat 32 b = BitVec.ofNat 32 (a ^^^ b)
  apply BitVec.eq_of_getLsbD_eq
  intro i hi
  simp [hi]
theorem m1_nI : -(nI 1) = nI 4294967295 := by decide
theorem nI_not (a : Nat) : nI a ^^^ -(nI 1) = nI (a ^^^ 4294967295) := by rw [m1_nI, nI_xor]
theorem bit_nI : ∀ j, j < 16 → bit j = nI (2 ^ j) := by decide
theorem sh_tb : ∀ s, s < 256 → ∀ j, j < 8 → ((nI s >>> (nI j &&& 31)) &&& nI 1) = if s.testBit j then nI 1 else nI 0 := by decide +kernel
/-- the bit j of x -/
def hsB (x : Int32) (j : Nat) : Bool := decide ((x >>> (nI j &&& 31)) &&& nI 1 = nI 1)
theorem hsB_tb {s j : Nat} (hs : s < 256) (hj : j < 8) : hsB (nI s) j = s.testBit j := by
  unfold hsB
  rw [sh_tb s hs j hj]
  cases s.testBit j <;> decide
theorem tb_M (i : Nat) (hi : i < 32) : (4294967295 : Nat).testBit i = true := by
  have : ∀ i, i < 32 → (4294967295 : Nat).testBit i = true := by decide
  exact this i hi
theorem nI_inj {a b : Nat} (ha : a < 2 ^ 31) (hb : b < 2 ^ 31) (h : nI a = nI b) : a = b := (nI_eq ha hb).mp h
def ush (x : Int32) (s : Nat) : Int32 := (x.toUInt32 >>> ((nI s).toUInt32 &&& Int32.toUInt32 31)).toInt32
def bc1 (x : Int32) : Int32 := x - (ush x 1 &&& nI 1431655765)
def bc2 (x : Int32) : Int32 := (x &&& nI 858993459) + (ush x 2 &&& nI 858993459)
def bc3 (x : Int32) : Int32 := (x + ush x 4) &&& nI 252645135
def bc4 (x : Int32) : Int32 := x + ush x 8
def bc5 (x : Int32) : Int32 := x + ush x 16
/-- Integer.bitCount -/
def bcF (x : Int32) : Int32 := bc5 (bc4 (bc3 (bc2 (bc1 x)))) &&& nI 63
theorem c_bitCount {al : List Ad} {k : Nat} {h : Hp} {x : Int32} (hok : Okal al) : Ct al mJ6_bitCount_0f7a4 k [vI x] h (Rd h (bcF x)) := by
  refine ct_vc tJ6_bitCount_0f7a4 [] 60 hok kJ6_bitCount_0f7a4 rfl ?_
  exact ⟨rfl, rfl⟩
/-- how many bits, counted -/
def pcN : Nat → Nat → Nat
  | 0, _ => 0
  | f + 1, s => (if s.testBit f then 1 else 0) + pcN f s
theorem bc8 : ∀ s, s < 256 → bcF (nI s) = nI (pcN 8 s) := by decide +kernel
