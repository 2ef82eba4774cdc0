/-! PURE: numbers of four bytes, the two sums -/
def be4 (v : Nat) : List Nat := [v / 16777216 % 256, v / 65536 % 256, v / 256 % 256, v % 256]
def uN3 (x : Int32) : Nat := x.toBitVec.toNat
theorem uN3_lt (x : Int32) : uN3 x < 4294967296 := x.toBitVec.isLt
theorem uN3_nI {v : Nat} (h : v < 4294967296) : uN3 (nI v) = v := pk_tn h
theorem ni_uN (x : Int32) : nI (uN3 x) = x := by
  apply Int32.toBitVec_inj.mp
  apply BitVec.eq_of_toNat_eq
  exact pk_tn (uN3_lt x)
theorem by_ushr (x : Int32) {k : Nat} (hk : k < 32) : ((x.toUInt32 >>> ((nI k).toUInt32 &&& Int32.toUInt32 31)).toInt32) &&& 255 = nI (uN3 x / 2 ^ k % 256) := by
  rw [pk_and _ 8 (by decide), pk_ushr x (nI k) k (ni_su k hk)]
  rfl
theorem by_sshr (x : Int32) {k : Nat} {K : Int32} (hk : (K.toBitVec.smod 32).toNat = k) (h : k = 8 ∨ k = 16 ∨ k = 24) : (x >>> K) &&& 255 = nI (uN3 x / 2 ^ k % 256) := by
  rw [pk_and _ 8 (by decide)]
  congr 1
  have e : (x >>> K).toBitVec = x.toBitVec.sshiftRight k := by rw [← hk]; rfl
  rw [e]
  unfold uN3
  have h1 : (x.toBitVec.sshiftRight k).toInt = x.toBitVec.toInt >>> k := BitVec.toInt_sshiftRight
  rw [Int.shiftRight_eq_div_pow, BitVec.toInt_eq_toNat_cond, BitVec.toInt_eq_toNat_cond] at h1
  have h2 := x.toBitVec.isLt
  have h3 := (x.toBitVec.sshiftRight k).isLt
  rcases h with rfl | rfl | rfl
  · split at h1 <;> split at h1 <;> omega
  · split at h1 <;> split at h1 <;> omega
  · split at h1 <;> split at h1 <;> omega
theorem by_low (x : Int32) : x &&& 255 = nI (uN3 x % 256) := pk_and x 8 (by decide)
theorem w_addNumber {n : Nat → Nat} {bs : List Nat} {ob : Nat → Int32} {x : Int32} {post : Int32 × (Nat → Int32) → Prop} (hn : n 11 < 2 ^ 31) (hl : bs.length + 4 ≤ n 11) (hr : Rep bs ob) (hp : ∀ ob', Rep (bs ++ be4 (uN3 x)) ob' → post (nI (bs.length + 4), ob')) : wp_Out_addNumber n (nI bs.length) ob x post := by
  unfold wp_Out_addNumber
  refine ⟨5, ?_⟩
  unfold wp_Out_addNumber_3
  refine ⟨fun h => absurd h (by decide), fun _ => ?_⟩
  refine w_addByte hn (by omega) hr (by_ushr x (k := 24) (by decide)) (fun ob1 hr1 => ?_)
  intro z1 hz1
  rw [hz1]
  unfold wp_Out_addNumber_3
  refine ⟨fun h => absurd h (by decide), fun _ => ?_⟩
  have l1 : (bs ++ [uN3 x / 2 ^ 24 % 256]).length = bs.length + 1 := by simp
  rw [← l1]
  refine w_addByte hn (by omega) hr1 (by_ushr x (k := 16) (by decide)) (fun ob2 hr2 => ?_)
  intro z2 hz2
  rw [hz2]
  unfold wp_Out_addNumber_3
  refine ⟨fun h => absurd h (by decide), fun _ => ?_⟩
  have l2 : (bs ++ [uN3 x / 2 ^ 24 % 256] ++ [uN3 x / 2 ^ 16 % 256]).length = (bs ++ [uN3 x / 2 ^ 24 % 256]).length + 1 := by simp
  rw [← l2]
  refine w_addByte hn (by omega) hr2 (by_ushr x (k := 8) (by decide)) (fun ob3 hr3 => ?_)
  intro z3 hz3
  rw [hz3]
  unfold wp_Out_addNumber_3
  refine ⟨fun h => absurd h (by decide), fun _ => ?_⟩
  have l3 : (bs ++ [uN3 x / 2 ^ 24 % 256] ++ [uN3 x / 2 ^ 16 % 256] ++ [uN3 x / 2 ^ 8 % 256]).length = (bs ++ [uN3 x / 2 ^ 24 % 256] ++ [uN3 x / 2 ^ 16 % 256]).length + 1 := by simp
  rw [← l3]
  refine w_addByte hn (by omega) hr3 (by_ushr x (k := 0) (by decide)) (fun ob4 hr4 => ?_)
  intro z4 hz4
  rw [hz4]
  unfold wp_Out_addNumber_3
  refine ⟨fun _ => ?_, fun h => absurd (by decide) h⟩
  have := hp ob4 (by
    have e : bs ++ [uN3 x / 2 ^ 24 % 256] ++ [uN3 x / 2 ^ 16 % 256] ++ [uN3 x / 2 ^ 8 % 256] ++ [uN3 x / 2 ^ 0 % 256] = bs ++ be4 (uN3 x) := by simp [be4]
    rw [e] at hr4
    exact hr4)
  rw [l3, l2, l1]
  exact this
theorem m_four {n : Nat → Nat} {bs : List Nat} {mf : Nat → Int32} {x : Int32} {post : Int32 × (Nat → Int32) → Prop} (hn : n 17 < 2 ^ 31) (hl : bs.length + 4 ≤ n 17) (hr : Rep bs mf) (hp : ∀ mf', Rep (bs ++ be4 (uN3 x)) mf' → post (nI (bs.length + 4), mf')) : wp_Mod_four n (nI bs.length) mf x post := by
  unfold wp_Mod_four
  refine m_one hn (by omega) hr (by_sshr x (k := 24) (by decide) (by decide)) (fun ob1 hr1 => ?_)
  have l1 : (bs ++ [uN3 x / 2 ^ 24 % 256]).length = bs.length + 1 := by simp
  rw [← l1]
  refine m_one hn (by omega) hr1 (by_sshr x (k := 16) (by decide) (by decide)) (fun ob2 hr2 => ?_)
  have l2 : (bs ++ [uN3 x / 2 ^ 24 % 256] ++ [uN3 x / 2 ^ 16 % 256]).length = (bs ++ [uN3 x / 2 ^ 24 % 256]).length + 1 := by simp
  rw [← l2]
  refine m_one hn (by omega) hr2 (by_sshr x (k := 8) (by decide) (by decide)) (fun ob3 hr3 => ?_)
  have l3 : (bs ++ [uN3 x / 2 ^ 24 % 256] ++ [uN3 x / 2 ^ 16 % 256] ++ [uN3 x / 2 ^ 8 % 256]).length = (bs ++ [uN3 x / 2 ^ 24 % 256] ++ [uN3 x / 2 ^ 16 % 256]).length + 1 := by simp
  rw [← l3]
  refine m_one hn (by omega) hr3 (by_low x) (fun ob4 hr4 => ?_)
  have := hp ob4 (by
    have e : bs ++ [uN3 x / 2 ^ 24 % 256] ++ [uN3 x / 2 ^ 16 % 256] ++ [uN3 x / 2 ^ 8 % 256] ++ [uN3 x % 256] = bs ++ be4 (uN3 x) := by simp [be4]
    rw [e] at hr4
    exact hr4)
  rw [l3, l2, l1]
  exact this
theorem m_name {n : Nat → Nat} {bs : List Nat} {mf : Nat → Int32} {a b c d : Nat} {post : Int32 × (Nat → Int32) → Prop} (hn : n 17 < 2 ^ 31) (ha : a < 256) (hb : b < 256) (hc : c < 256) (hd : d < 256) (hl : bs.length + 4 ≤ n 17) (hr : Rep bs mf) (hp : ∀ mf', Rep (bs ++ [a, b, c, d]) mf' → post (nI (bs.length + 4), mf')) : wp_Mod_name n (nI bs.length) mf (nI a) (nI b) (nI c) (nI d) post := by
  have ev : ∀ v, v < 256 → nI v &&& 255 = nI v := fun v h => by rw [ni_255 (by omega), Nat.mod_eq_of_lt h]
  unfold wp_Mod_name
  refine m_one hn (by omega) hr (ev a ha) (fun ob1 hr1 => ?_)
  have l1 : (bs ++ [a]).length = bs.length + 1 := by simp
  rw [← l1]
  refine m_one hn (by omega) hr1 (ev b hb) (fun ob2 hr2 => ?_)
  have l2 : (bs ++ [a] ++ [b]).length = (bs ++ [a]).length + 1 := by simp
  rw [← l2]
  refine m_one hn (by omega) hr2 (ev c hc) (fun ob3 hr3 => ?_)
  have l3 : (bs ++ [a] ++ [b] ++ [c]).length = (bs ++ [a] ++ [b]).length + 1 := by simp
  rw [← l3]
  refine m_one hn (by omega) hr3 (ev d hd) (fun ob4 hr4 => ?_)
  have := hp ob4 (by
    have e : bs ++ [a] ++ [b] ++ [c] ++ [d] = bs ++ [a, b, c, d] := by simp
    rw [e] at hr4
    exact hr4)
  rw [l3, l2, l1]
  exact this
/-! the first sum: eight steps of a byte -/
def sh1 (c : Int32) : Int32 := (c.toUInt32 >>> ((1 : Int32).toUInt32 &&& Int32.toUInt32 31)).toInt32
def stp (c : Int32) : Int32 := if c &&& 1 = 1 then sh1 c ^^^ (-306674912) else sh1 c
def stpN : Nat → Int32 → Int32
  | 0, c => c
  | k + 1, c => stpN k (stp c)
def st8 (c : Int32) : Int32 := stpN 8 c
def crcF (l : List Nat) (c : Int32) : Int32 := l.foldl (fun c b => st8 (c ^^^ nI b)) c
def bvP : BitVec 32 := (-306674912 : Int32).toBitVec
def bstp (x : BitVec 32) : BitVec 32 := (x >>> 1) ^^^ (if x.getLsbD 0 then bvP else 0#32)
def bstpN : Nat → BitVec 32 → BitVec 32
  | 0, c => c
  | k + 1, c => bstpN k (bstp c)
theorem sh_bv (c K : Int32) (k : Nat) (hs : ((K.toUInt32 &&& Int32.toUInt32 31).toBitVec % 32).toNat = k) : (c.toUInt32 >>> (K.toUInt32 &&& Int32.toUInt32 31)).toInt32.toBitVec = c.toBitVec >>> k := by
  apply BitVec.eq_of_toNat_eq
  rw [pk_ushr c K k hs, BitVec.toNat_ushiftRight, Nat.shiftRight_eq_div_pow]
theorem stp_bv (c : Int32) : (stp c).toBitVec = bstp c.toBitVec := by
  have h1 : c &&& 1 = nI (c.toBitVec.toNat % 2) := pk_and c 1 (by decide)
  have h2 : c.toBitVec.getLsbD 0 = decide (c.toBitVec.toNat % 2 = 1) := by
    rw [BitVec.getLsbD, Nat.testBit_zero]
  have h3 : (sh1 c).toBitVec = c.toBitVec >>> 1 := sh_bv c 1 1 (by decide)
  unfold stp bstp
  rcases Nat.mod_two_eq_zero_or_one c.toBitVec.toNat with q | q
  · have hn : ¬ c &&& 1 = 1 := by rw [h1, q]; decide
    rw [if_neg hn, h2, q, h3]
    simp
  · have hy : c &&& 1 = 1 := by rw [h1, q]; decide
    rw [if_pos hy, h2, q]
    simp only [decide_true, if_true]
    rw [← h3]
    rfl
theorem stpN_bv : ∀ (k : Nat) (c : Int32), (stpN k c).toBitVec = bstpN k c.toBitVec
  | 0, _ => rfl
  | k + 1, c => by
    show (stpN k (stp c)).toBitVec = bstpN k (bstp c.toBitVec)
    rw [stpN_bv k, stp_bv]
theorem bstp_xor (x y : BitVec 32) : bstp (x ^^^ y) = bstp x ^^^ bstp y := by
  unfold bstp
  have h : (x ^^^ y) >>> 1 = x >>> 1 ^^^ y >>> 1 := BitVec.ushiftRight_xor_distrib x y 1
  have g : (x ^^^ y).getLsbD 0 = (x.getLsbD 0 ^^ y.getLsbD 0) := BitVec.getLsbD_xor
  rw [h, g]
  apply BitVec.eq_of_getLsbD_eq
  intro i hi
  simp only [BitVec.getLsbD_xor]
  cases x.getLsbD 0 <;> cases y.getLsbD 0 <;> simp [Bool.xor_assoc, Bool.xor_comm, Bool.xor_left_comm]
theorem bstpN_xor : ∀ (k : Nat) (x y : BitVec 32), bstpN k (x ^^^ y) = bstpN k x ^^^ bstpN k y
  | 0, _, _ => rfl
  | k + 1, x, y => by
    show bstpN k (bstp (x ^^^ y)) = bstpN k (bstp x) ^^^ bstpN k (bstp y)
    rw [bstp_xor, bstpN_xor k]
theorem bstpN_low : ∀ (k : Nat) (x : BitVec 32), (∀ i, i < k → x.getLsbD i = false) → bstpN k x = x >>> k
  | 0, x, _ => by simp [bstpN]
  | k + 1, x, h => by
    have h0 : bstp x = x >>> 1 := by
      unfold bstp
      rw [h 0 (by omega)]
      simp
    show bstpN k (bstp x) = x >>> (k + 1)
    rw [h0, bstpN_low k (x >>> 1) (fun i hi => by
      rw [BitVec.getLsbD_ushiftRight]
      exact h (1 + i) (by omega))]
    apply BitVec.eq_of_getLsbD_eq
    intro i hi
    simp only [BitVec.getLsbD_ushiftRight]
    congr 1; omega
theorem st8_table (x : BitVec 32) : bstpN 8 x = x >>> 8 ^^^ bstpN 8 (x &&& 255#32) := by
  have e : x = (x &&& 4294967040#32) ^^^ (x &&& 255#32) := by
    apply BitVec.eq_of_getLsbD_eq
    intro i hi
    simp only [BitVec.getLsbD_xor, BitVec.getLsbD_and]
    have key : ∀ i, i < 32 → (BitVec.getLsbD 4294967040#32 i ^^ BitVec.getLsbD 255#32 i) = true := by decide
    have kk := key i hi
    clear key
    generalize BitVec.getLsbD 4294967040#32 i = p at kk ⊢
    generalize BitVec.getLsbD 255#32 i = q at kk ⊢
    cases x.getLsbD i <;> cases p <;> cases q <;> first | rfl | (exact absurd kk (by decide))
  have h1 : bstpN 8 (x &&& 4294967040#32) = (x &&& 4294967040#32) >>> 8 := bstpN_low 8 _ (fun i hi => by
    rw [BitVec.getLsbD_and]
    have key : ∀ i, i < 8 → BitVec.getLsbD 4294967040#32 i = false := by decide
    rw [key i hi, Bool.and_false])
  have h2 : (x &&& 4294967040#32) >>> 8 = x >>> 8 := by
    apply BitVec.eq_of_getLsbD_eq
    intro i hi
    simp only [BitVec.getLsbD_ushiftRight, BitVec.getLsbD_and]
    by_cases h : 8 + i < 32
    · have key : ∀ i, i < 24 → BitVec.getLsbD 4294967040#32 (8 + i) = true := by decide
      rw [key i (by omega), Bool.and_true]
    · rw [BitVec.getLsbD_of_ge x (8 + i) (by omega)]; simp
  have h3 : bstpN 8 x = bstpN 8 ((x &&& 4294967040#32) ^^^ (x &&& 255#32)) := congrArg _ e
  rw [h3, bstpN_xor, h1, h2]
/-- the class's step with its table -/
theorem crc_step (c : Int32) {b : Nat} (hb : b < 256) : ((c.toUInt32 >>> ((8 : Int32).toUInt32 &&& Int32.toUInt32 31)).toInt32) ^^^ st8 ((c ^^^ nI b) &&& 255) = st8 (c ^^^ nI b) := by
  apply Int32.toBitVec_inj.mp
  have e1 : (st8 (c ^^^ nI b)).toBitVec = bstpN 8 (c.toBitVec ^^^ (nI b).toBitVec) := stpN_bv 8 _
  have e2 : (st8 ((c ^^^ nI b) &&& 255)).toBitVec = bstpN 8 ((c.toBitVec ^^^ (nI b).toBitVec) &&& 255#32) := stpN_bv 8 _
  have e3 : ((c.toUInt32 >>> ((8 : Int32).toUInt32 &&& Int32.toUInt32 31)).toInt32).toBitVec = c.toBitVec >>> 8 := sh_bv c 8 8 (by decide)
  show ((c.toUInt32 >>> ((8 : Int32).toUInt32 &&& Int32.toUInt32 31)).toInt32).toBitVec ^^^ (st8 ((c ^^^ nI b) &&& 255)).toBitVec = _
  rw [e1, e2, e3, st8_table (c.toBitVec ^^^ (nI b).toBitVec)]
  congr 1
  rw [BitVec.ushiftRight_xor_distrib]
  have h0 : (nI b).toBitVec >>> 8 = 0#32 := by
    apply BitVec.eq_of_toNat_eq
    rw [BitVec.toNat_ushiftRight, Nat.shiftRight_eq_div_pow, pk_tn (by omega)]
    simp; omega
  rw [h0]
  simp
