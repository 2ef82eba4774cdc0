/-! PURE: bytes and bits put out -/
def Rep (bs : List Nat) (f : Nat → Int32) : Prop := ∀ j, j < bs.length → f j = nI (bs.getD j 0)
theorem Rep.push {bs : List Nat} {f : Nat → Int32} {v : Nat} (h : Rep bs f) : Rep (bs ++ [v]) (upd f bs.length (nI v)) := by
  intro j hj
  rw [List.length_append, List.length_singleton] at hj
  by_cases e : j = bs.length
  · subst e
    rw [pk_us]
    simp
  · rw [pk_un e, h j (by omega)]
    simp only [List.getD_eq_getElem?_getD]
    rw [List.getElem?_append_left (by omega)]
theorem Rep.nil {f : Nat → Int32} : Rep [] f := fun j h => absurd h (Nat.not_lt_zero j)
theorem ni_sl : ∀ k, k < 32 → ((nI k &&& 31).toBitVec.smod 32).toNat = k := by decide
theorem ni_su : ∀ k, k < 32 → (((nI k).toUInt32 &&& Int32.toUInt32 31).toBitVec % 32).toNat = k := by decide
theorem ni_bit {v k : Nat} (hv : v < 2 ^ 31) (hk : k < 32) : (nI v >>> (nI k &&& 31)) &&& 1 = nI (v.testBit k).toNat := by
  rw [pk_shrN hv _ k (ni_sl k hk), pk_andN (Nat.lt_of_le_of_lt (Nat.div_le_self _ _) (by omega)) 1 (by decide), Nat.toNat_testBit]
theorem ni_255 {v : Nat} (hv : v < 2 ^ 32) : nI v &&& 255 = nI (v % 256) := pk_andN hv 8 (by decide)
theorem ni_lt {a : Nat} {b : Nat} (h : a < b) (hb : b < 2 ^ 31) : ¬ nI b ≤ nI a := nI_ge h hb
/-- pending bits as a number, the first the lowest -/
def bitsVal : List Bool → Nat
  | [] => 0
  | b :: q => b.toNat + 2 * bitsVal q
theorem bitsVal_lt : ∀ q : List Bool, bitsVal q < 2 ^ q.length
  | [] => by decide
  | b :: q => by
    have := bitsVal_lt q
    have hb : b.toNat ≤ 1 := by cases b <;> decide
    simp only [bitsVal, List.length_cons, Nat.pow_succ]
    omega
theorem bitsVal_app (b : Bool) : ∀ q : List Bool, bitsVal (q ++ [b]) = bitsVal q + b.toNat * 2 ^ q.length
  | [] => by simp [bitsVal]
  | c :: q => by
    simp only [List.cons_append, bitsVal, bitsVal_app b q, List.length_cons, Nat.pow_succ]
    rw [Nat.mul_add, ← Nat.mul_assoc, Nat.mul_comm 2 b.toNat, Nat.mul_assoc, Nat.mul_comm 2 (2 ^ q.length)]
    omega
theorem ni_or8 : ∀ k, k < 8 → ∀ v, v < 2 ^ k → ∀ b : Bool, nI v ||| (nI b.toNat <<< (nI k &&& 31)) = nI (v + b.toNat * 2 ^ k) := by decide +kernel
/-- a stream: bytes put out, bits that wait -/
def pB (st : List Nat × List Bool) (b : Bool) : List Nat × List Bool := if st.2.length = 7 then (st.1 ++ [bitsVal (st.2 ++ [b])], []) else (st.1, st.2 ++ [b])
def pBs (st : List Nat × List Bool) (l : List Bool) : List Nat × List Bool := l.foldl pB st
def okS (st : List Nat × List Bool) : Prop := st.2.length < 8
def blen (st : List Nat × List Bool) : Nat := 8 * st.1.length + st.2.length
theorem pB_ok {st : List Nat × List Bool} {b : Bool} (h : okS st) : okS (pB st b) := by
  unfold pB okS at *
  split
  · simp
  · simp only [List.length_append, List.length_singleton]; omega
theorem pB_len {st : List Nat × List Bool} {b : Bool} (h : okS st) : blen (pB st b) = blen st + 1 := by
  unfold pB okS blen at *
  split
  · simp only [List.length_append, List.length_singleton, List.length_nil]; omega
  · simp only [List.length_append, List.length_singleton]; omega
theorem pBs_ok : ∀ (l : List Bool) {st : List Nat × List Bool}, okS st → okS (pBs st l)
  | [], _, h => h
  | b :: l, st, h => pBs_ok l (pB_ok h)
theorem pBs_len : ∀ (l : List Bool) {st : List Nat × List Bool}, okS st → blen (pBs st l) = blen st + l.length
  | [], _, h => rfl
  | b :: l, st, h => by
    show blen (pBs (pB st b) l) = _
    rw [pBs_len l (pB_ok h), pB_len h, List.length_cons]; omega
theorem pBs_app (st : List Nat × List Bool) (l m : List Bool) : pBs st (l ++ m) = pBs (pBs st l) m := by
  unfold pBs; rw [List.foldl_append]
theorem pBs_cons (st : List Nat × List Bool) (b : Bool) (m : List Bool) : pBs st (b :: m) = pBs (pB st b) m := rfl
def hiB (v : Nat) : Nat → List Bool
  | 0 => []
  | k + 1 => v.testBit k :: hiB v k
def loB (v : Nat) (i : Nat) : Nat → List Bool
  | 0 => []
  | k + 1 => v.testBit i :: loB v (i + 1) k
theorem hiB_len (v : Nat) : ∀ k, (hiB v k).length = k
  | 0 => rfl
  | k + 1 => by simp [hiB, hiB_len v k]
theorem loB_len (v : Nat) : ∀ k i, (loB v i k).length = k
  | 0, _ => rfl
  | k + 1, i => by simp [loB, loB_len v k]
/-! the class's output -/
def PO (post : Int32 × Int32 × Int32 × (Nat → Int32) → Prop) (st : List Nat × List Bool) : Prop := ∀ ob : Nat → Int32, Rep st.1 ob → post (nI st.1.length, nI (bitsVal st.2), nI st.2.length, ob)
theorem w_addByte {n : Nat → Nat} {bs : List Nat} {ob : Nat → Int32} {x : Int32} {v : Nat} {post : Int32 × (Nat → Int32) → Prop} (hn : n 11 < 2 ^ 31) (hl : bs.length < n 11) (hr : Rep bs ob) (hx : x &&& 255 = nI v)
    (hp : ∀ ob', Rep (bs ++ [v]) ob' → post (nI (bs.length + 1), ob')) : wp_Out_addByte n (nI bs.length) ob x post := by
  unfold wp_Out_addByte
  refine ⟨fun h => absurd h (nI_pos (by omega)), fun _ => ⟨fun h => absurd h (nI_ge hl hn), fun _ => ?_⟩⟩
  intro z hz
  refine ⟨vp_in_nI hl hn, ?_⟩
  intro f hf z6 hz6
  rw [hz6, nI_1, hf, nI_clamp (by omega), hz, hx]
  exact hp _ hr.push
theorem w_addBit {n : Nat → Nat} {st : List Nat × List Bool} {ob : Nat → Int32} {b : Bool} {post : Int32 × Int32 × Int32 × (Nat → Int32) → Prop} (hn : n 11 < 2 ^ 31) (ho : okS st) (hl : blen st + 1 ≤ 8 * n 11) (hr : Rep st.1 ob)
    (hp : PO post (pB st b)) : wp_Out_addBit n (nI st.1.length) (nI (bitsVal st.2)) (nI st.2.length) ob (nI b.toNat) post := by
  have hv : bitsVal st.2 < 2 ^ st.2.length := bitsVal_lt st.2
  unfold okS at ho
  unfold blen at hl
  unfold wp_Out_addBit
  intro z1 hz1 z2 hz2
  rw [ni_or8 _ ho _ hv b, ← bitsVal_app] at hz1
  rw [nI_1] at hz2
  have hlen : (st.2 ++ [b]).length = st.2.length + 1 := by simp
  refine ⟨fun h => ?_, fun h => ?_⟩
  · have h7 : st.2.length ≠ 7 := fun q => h (by rw [hz2, q]; rfl)
    unfold PO pB at hp
    rw [if_neg h7] at hp
    have := hp ob hr
    rw [hz1, hz2, ← hlen]
    exact this
  · have h7 : st.2.length = 7 := by
      have h8 : nI (st.2.length + 1) = nI 8 := by rw [← hz2, h]; rfl
      have := (nI_eq (by omega) (by decide)).mp h8
      omega
    unfold PO pB at hp
    rw [if_pos h7] at hp
    rw [hz1]
    have hv8 : bitsVal (st.2 ++ [b]) < 256 := by
      have := bitsVal_lt (st.2 ++ [b])
      rw [hlen, h7] at this
      exact this
    refine w_addByte hn (by omega) hr (v := bitsVal (st.2 ++ [b])) (by rw [ni_255 (by omega), Nat.mod_eq_of_lt hv8]) (fun ob' hr' => ?_)
    have := hp ob' hr'
    simp only [List.length_append, List.length_singleton] at this
    exact this
theorem w_hiBits_4 {n : Nat → Nat} {v k0 : Nat} {x2 : Int32} {post : Int32 × Int32 × Int32 × (Nat → Int32) → Prop} (hn : n 11 < 2 ^ 31) (hv : v < 2 ^ 31) : ∀ (k : Nat) (st : List Nat × List Bool) (ob : Nat → Int32), k ≤ 31 → okS st → blen st + k ≤ 8 * n 11 → Rep st.1 ob → PO post (pBs st (hiB v k)) → wp_Out_addBitsHighestFirst_4 n (nI v) x2 post (k + 1) (nI st.1.length) (nI (bitsVal st.2)) (nI st.2.length) ob (nI k - 1) := by
  intro k
  induction k with
  | zero =>
    intro st ob hk ho hl hr hp
    unfold wp_Out_addBitsHighestFirst_4
    exact ⟨fun _ => hp ob hr, fun h => absurd (by decide) h⟩
  | succ k ih =>
    intro st ob hk ho hl hr hp
    unfold wp_Out_addBitsHighestFirst_4
    rw [nI_pred]
    refine ⟨fun h => absurd h (nI_pos (by omega)), fun _ => ?_⟩
    rw [ni_bit hv (by omega)]
    refine w_addBit hn ho (by omega) hr (fun ob' hr' => ?_)
    intro z hz
    have e : z = nI k - 1 := by rw [hz, Int32.sub_eq_add_neg]
    rw [e]
    exact ih (pB st (v.testBit k)) ob' (by omega) (pB_ok ho) (by rw [pB_len ho]; omega) hr' hp
theorem w_hiBits {n : Nat → Nat} {v k : Nat} {st : List Nat × List Bool} {ob : Nat → Int32} {post : Int32 × Int32 × Int32 × (Nat → Int32) → Prop} (hn : n 11 < 2 ^ 31) (hv : v < 2 ^ 31) (hk : k ≤ 31) (ho : okS st) (hl : blen st + k ≤ 8 * n 11) (hr : Rep st.1 ob) (hp : PO post (pBs st (hiB v k))) :
    wp_Out_addBitsHighestFirst n (nI st.1.length) (nI (bitsVal st.2)) (nI st.2.length) ob (nI v) (nI k) post := by
  unfold wp_Out_addBitsHighestFirst
  intro z hz
  rw [hz]
  exact ⟨k + 1, w_hiBits_4 (k0 := 0) hn hv k st ob hk ho hl hr hp⟩
theorem w_loBits_2 {n : Nat → Nat} {v m : Nat} {post : Int32 × Int32 × Int32 × (Nat → Int32) → Prop} (hn : n 11 < 2 ^ 31) (hv : v < 2 ^ 31) (hm : m ≤ 31) : ∀ (k i : Nat) (st : List Nat × List Bool) (ob : Nat → Int32), i + k = m → okS st → blen st + k ≤ 8 * n 11 → Rep st.1 ob → PO post (pBs st (loB v i k)) → wp_Out_addBitsLowestFirst_2 n (nI v) (nI m) post (k + 1) (nI st.1.length) (nI (bitsVal st.2)) (nI st.2.length) ob (nI i) := by
  intro k
  induction k with
  | zero =>
    intro i st ob hi ho hl hr hp
    unfold wp_Out_addBitsLowestFirst_2
    exact ⟨fun _ => hp ob hr, fun h => absurd (nI_le (by omega) (by omega)) h⟩
  | succ k ih =>
    intro i st ob hi ho hl hr hp
    unfold wp_Out_addBitsLowestFirst_2
    refine ⟨fun h => absurd h (nI_ge (by omega) (by omega)), fun _ => ?_⟩
    rw [ni_bit hv (by omega)]
    refine w_addBit hn ho (by omega) hr (fun ob' hr' => ?_)
    intro z hz
    rw [hz, nI_1]
    exact ih (i + 1) (pB st (v.testBit i)) ob' (by omega) (pB_ok ho) (by rw [pB_len ho]; omega) hr' hp
theorem w_loBits {n : Nat → Nat} {v k : Nat} {st : List Nat × List Bool} {ob : Nat → Int32} {post : Int32 × Int32 × Int32 × (Nat → Int32) → Prop} (hn : n 11 < 2 ^ 31) (hv : v < 2 ^ 31) (hk : k ≤ 31) (ho : okS st) (hl : blen st + k ≤ 8 * n 11) (hr : Rep st.1 ob) (hp : PO post (pBs st (loB v 0 k))) :
    wp_Out_addBitsLowestFirst n (nI st.1.length) (nI (bitsVal st.2)) (nI st.2.length) ob (nI v) (nI k) post := by
  unfold wp_Out_addBitsLowestFirst
  exact ⟨k + 1, w_loBits_2 hn hv hk k 0 st ob (by omega) ho hl hr hp⟩
/-- zeros up to a whole byte -/
theorem pBs_zero : ∀ (k i : Nat) (bs : List Nat) (q : List Bool), 1 ≤ k → q.length + k = 8 → pBs (bs, q) (loB 0 i k) = (bs ++ [bitsVal q], []) := by
  intro k
  induction k with
  | zero => intro i bs q h; omega
  | succ k ih =>
    intro i bs q h hq
    have hz : (0 : Nat).testBit i = false := Nat.zero_testBit i
    rw [loB, pBs_cons, hz]
    have e0 : bitsVal (q ++ [false]) = bitsVal q := by rw [bitsVal_app]; simp
    rcases Nat.eq_zero_or_pos k with h0 | h0
    · subst h0
      unfold pB
      simp only
      rw [if_pos (by omega), e0]
      rfl
    · have : pB (bs, q) false = (bs, q ++ [false]) := by
        unfold pB
        simp only
        rw [if_neg (by omega)]
      rw [this, ih (i + 1) bs (q ++ [false]) h0 (by rw [List.length_append, List.length_singleton]; omega), e0]
theorem w_endByte {n : Nat → Nat} {st : List Nat × List Bool} {ob : Nat → Int32} {post : Int32 × Int32 × Int32 × (Nat → Int32) → Prop} (hn : n 11 < 2 ^ 28) (hl : st.1.length < n 11) (ho : okS st) (h0 : st.2 ≠ []) (hr : Rep st.1 ob)
    (hp : ∀ ob', Rep (st.1 ++ [bitsVal st.2]) ob' → post (nI (st.1.length + 1), 0, 0, ob')) : wp_Out_endByte n (nI st.1.length) (nI (bitsVal st.2)) (nI st.2.length) ob post := by
  have h1 : 0 < st.2.length := List.length_pos_iff.mpr h0
  unfold wp_Out_endByte
  refine ⟨fun h => absurd h (nI_nle h1 (by unfold okS at ho; omega)), fun _ => ?_⟩
  have ho2 : st.2.length < 8 := ho
  rw [show (8 : Int32) = nI 8 from rfl, pk_sub (by omega)]
  refine w_loBits (v := 0) (k := 8 - st.2.length) (by omega) (by decide) (by omega) ho (by unfold blen; omega) hr ?_
  unfold PO
  obtain ⟨bs, q⟩ := st
  simp only at h1 ho2 hp ⊢
  rw [pBs_zero (8 - q.length) 0 bs q (by omega) (by omega)]
  intro ob' hr'
  have := hp ob' hr'
  simp only [List.length_append, List.length_singleton]
  exact this
