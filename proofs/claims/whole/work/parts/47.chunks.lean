/-! PURE: chunks and sums, both sides -/
def AllB (bs : List Nat) : Prop := ∀ v ∈ bs, v < 256
theorem AllB.app {a b : List Nat} (ha : AllB a) (hb : AllB b) : AllB (a ++ b) := fun v h => (List.mem_append.mp h).elim (ha v) (hb v)
theorem be4_B (v : Nat) : AllB (be4 v) := by
  intro x hx
  simp only [be4, List.mem_cons, List.mem_nil_iff, or_false] at hx
  rcases hx with rfl | rfl | rfl | rfl <;> exact Nat.mod_lt _ (by decide)
theorem be4_len (v : Nat) : (be4 v).length = 4 := rfl
theorem Rep.set {bs : List Nat} {f : Nat → Int32} {i v : Nat} (h : Rep bs f) : Rep (bs.set i v) (upd f i (nI v)) := by
  intro j hj
  rw [List.length_set] at hj
  by_cases e : j = i
  · subst e
    rw [pk_us]
    simp [hj]
  · rw [pk_un e, h j hj]
    simp only [List.getD_eq_getElem?_getD]
    rw [List.getElem?_set_ne (fun q => e q.symm)]
theorem set4 (pre rest : List Nat) (a b c d e f g h : Nat) : ((((pre ++ (a :: b :: c :: d :: rest)).set pre.length e).set (pre.length + 1) f).set (pre.length + 2) g).set (pre.length + 3) h = pre ++ (e :: f :: g :: h :: rest) := by
  simp [List.set_append]
theorem w_eight {n : Nat → Nat} {x0 : Int32} {post : Int32 → Unit → Prop} (hp : post (st8 x0) ()) : wp_Chk_eightSteps n x0 post := by
  have loop : ∀ (k i : Nat) (c : Int32), i + k = 8 → post (stpN k c) () → wp_Chk_eightSteps_4 n x0 post (k + 1) c (nI i) := by
    intro k
    induction k with
    | zero =>
      intro i c hi h
      unfold wp_Chk_eightSteps_4
      exact ⟨fun _ => h, fun q => absurd (nI_le (a := 8) (by omega) (by omega)) q⟩
    | succ k ih =>
      intro i c hi h
      unfold wp_Chk_eightSteps_4
      refine ⟨fun q => absurd q (nI_ge (show i < 8 by omega) (by decide)), fun _ => ⟨fun q => ?_, fun q => ?_⟩⟩
      · intro z hz z2 hz2
        have e : stp c = z := by rw [hz]; exact if_neg q
        rw [hz2, nI_1, ← e]
        exact ih (i + 1) (stp c) (by omega) h
      · intro z hz z2 hz2
        have e : stp c = z := by rw [hz]; exact if_pos q
        rw [hz2, nI_1, ← e]
        exact ih (i + 1) (stp c) (by omega) h
  unfold wp_Chk_eightSteps
  exact ⟨_, loop 8 0 x0 (by omega) hp⟩
def CT (ct : Nat → Int32) : Prop := ∀ i, i < 256 → ct i = st8 (nI i)
theorem drop_cons {bs : List Nat} {i : Nat} (h : i < bs.length) : bs.drop i = bs.getD i 0 :: bs.drop (i + 1) := by
  rw [List.drop_eq_getElem_cons h]
  simp [List.getD_eq_getElem?_getD, h]
theorem getD_B {bs : List Nat} (h : AllB bs) (i : Nat) : bs.getD i 0 < 256 := by
  rw [List.getD_eq_getElem?_getD]
  cases hq : bs[i]? with
  | none => simp
  | some v => exact h v (List.mem_of_getElem? hq)
def crcI (l : List Nat) : Int32 := crcF l (-1) ^^^ (-1)
theorem w_crc {n : Nat → Nat} {bs : List Nat} {ob ct : Nat → Int32} {fr : Nat} {post : Int32 → Unit → Prop} (hn : n 11 < 2 ^ 31) (h12 : n 12 = 256) (hct : CT ct) (hl : bs.length ≤ n 11) (hf : fr ≤ bs.length) (hB : AllB bs) (hr : Rep bs ob) (hp : post (crcI (bs.drop fr)) ()) : wp_Chk_crc n ob ct (nI fr) (nI bs.length) post := by
  have loop : ∀ (k i : Nat) (c : Int32), i + k = bs.length → post (crcF (bs.drop i) c ^^^ (-1)) () → wp_Chk_crc_9 n ob ct (nI fr) (nI bs.length) post (k + 1) c (nI i) := by
    intro k
    induction k with
    | zero =>
      intro i c hi h
      unfold wp_Chk_crc_9
      refine ⟨fun _ => ?_, fun q => absurd (nI_le (by omega) (by omega)) q⟩
      rw [List.drop_eq_nil_of_le (by omega)] at h
      exact h
    | succ k ih =>
      intro i c hi h
      have hb := getD_B hB i
      unfold wp_Chk_crc_9
      refine ⟨fun q => absurd q (nI_ge (by omega) (by omega)), fun _ => ⟨fun q => absurd q (nI_ge (by omega) (by omega)), fun _ => ?_⟩⟩
      refine ⟨vp_in_nI (by omega) hn, ?_⟩
      rw [nI_clamp (by omega), hr i (by omega)]
      refine ⟨by rw [h12]; exact pk_andIn _ 8 (by decide) (by decide), ?_⟩
      intro z hz z2 hz2
      obtain ⟨j, hj, ej⟩ := pk_andE (c ^^^ nI (bs.getD i 0)) (m := 255) 8 (by decide)
      have hz' : z = st8 (c ^^^ nI (bs.getD i 0)) := by
        rw [hz, ← crc_step c hb, ej, nI_clamp (by omega), hct j (by omega)]
      rw [hz', hz2, nI_1]
      rw [drop_cons (show i < bs.length by omega)] at h
      exact ih (i + 1) _ (by omega) h
  unfold wp_Chk_crc
  intro z hz
  rw [if_neg (nI_pos (by omega))] at hz
  rw [hz]
  exact ⟨_, loop (bs.length - fr) fr (-1) (by omega) hp⟩
theorem w_change {n : Nat → Nat} {pre rest : List Nat} {a b c d : Nat} {ob : Nat → Int32} {x : Int32} {post : (Nat → Int32) → Prop} (hn : n 11 < 2 ^ 31) (hl : pre.length + 4 ≤ n 11) (hr : Rep (pre ++ (a :: b :: c :: d :: rest)) ob) (hp : ∀ ob', Rep (pre ++ (be4 (uN3 x) ++ rest)) ob' → post ob') : wp_Out_changeNumber n ob (nI pre.length) x post := by
  unfold wp_Out_changeNumber
  refine ⟨fun q => absurd q (nI_pos (by omega)), fun _ => ?_⟩
  rw [show (3 : Int32) = nI 3 from rfl, pk_sub (by omega)]
  refine ⟨fun _ => ?_, fun q => absurd (nI_lt (by omega) (by omega)) q⟩
  refine ⟨5, ?_⟩
  unfold wp_Out_changeNumber_18
  refine ⟨fun q => absurd q (by decide), fun _ => ?_⟩
  intro z1 hz1
  have e1 : nI pre.length + 0 = nI pre.length := by rw [show (0 : Int32) = nI 0 from rfl, nI_add]; rfl
  rw [e1]
  refine ⟨vp_in_nI (by omega) hn, ?_⟩
  intro f1 hf1 y1 hy1
  rw [hy1]
  unfold wp_Out_changeNumber_18
  refine ⟨fun q => absurd q (by decide), fun _ => ?_⟩
  intro z2 hz2
  have e2 : nI pre.length + (0 + 1) = nI (pre.length + 1) := by rw [show (0 + 1 : Int32) = nI 1 from rfl, nI_add]
  rw [e2]
  refine ⟨vp_in_nI (by omega) hn, ?_⟩
  intro f2 hf2 y2 hy2
  rw [hy2]
  unfold wp_Out_changeNumber_18
  refine ⟨fun q => absurd q (by decide), fun _ => ?_⟩
  intro z3 hz3
  have e3 : nI pre.length + (0 + 1 + 1) = nI (pre.length + 2) := by rw [show (0 + 1 + 1 : Int32) = nI 2 from rfl, nI_add]
  rw [e3]
  refine ⟨vp_in_nI (by omega) hn, ?_⟩
  intro f3 hf3 y3 hy3
  rw [hy3]
  unfold wp_Out_changeNumber_18
  refine ⟨fun q => absurd q (by decide), fun _ => ?_⟩
  intro z4 hz4
  have e4 : nI pre.length + (0 + 1 + 1 + 1) = nI (pre.length + 3) := by rw [show (0 + 1 + 1 + 1 : Int32) = nI 3 from rfl, nI_add]
  rw [e4]
  refine ⟨vp_in_nI (by omega) hn, ?_⟩
  intro f4 hf4 y4 hy4
  rw [hy4]
  unfold wp_Out_changeNumber_18
  refine ⟨fun _ => ?_, fun q => absurd (by decide) q⟩
  rw [nI_clamp (by omega)] at hf1 hf2 hf3 hf4
  have g1 : z1 = nI (uN3 x / 2 ^ 24 % 256) := by rw [hz1]; exact by_ushr x (k := 24) (by decide)
  have g2 : z2 = nI (uN3 x / 2 ^ 16 % 256) := by rw [hz2]; exact by_ushr x (k := 16) (by decide)
  have g3 : z3 = nI (uN3 x / 2 ^ 8 % 256) := by rw [hz3]; exact by_ushr x (k := 8) (by decide)
  have g4 : z4 = nI (uN3 x / 2 ^ 0 % 256) := by rw [hz4]; exact by_ushr x (k := 0) (by decide)
  refine hp f4 ?_
  rw [hf4, hf3, hf2, hf1, g1, g2, g3, g4]
  have := (((hr.set (i := pre.length) (v := uN3 x / 2 ^ 24 % 256)).set (i := pre.length + 1) (v := uN3 x / 2 ^ 16 % 256)).set (i := pre.length + 2) (v := uN3 x / 2 ^ 8 % 256)).set (i := pre.length + 3) (v := uN3 x / 2 ^ 0 % 256)
  rw [set4] at this
  have e : pre ++ (be4 (uN3 x) ++ rest) = pre ++ (uN3 x / 2 ^ 24 % 256 :: uN3 x / 2 ^ 16 % 256 :: uN3 x / 2 ^ 8 % 256 :: uN3 x / 2 ^ 0 % 256 :: rest) := by simp [be4]
  rw [e]
  exact this
theorem w_open {n : Nat → Nat} {bs : List Nat} {ob : Nat → Int32} {x s0 : Int32} {post : Int32 × Int32 × (Nat → Int32) → Prop} (hn : n 11 < 2 ^ 31) (hl : bs.length + 8 ≤ n 11) (hr : Rep bs ob) (hp : ∀ ob', Rep (bs ++ (0 :: 0 :: 0 :: 0 :: be4 (uN3 x))) ob' → post (nI (bs.length + 8), nI bs.length, ob')) : wp_Chk_open n (nI bs.length) s0 ob x post := by
  unfold wp_Chk_open
  refine w_addNumber hn (by omega) hr (fun ob1 hr1 => ?_)
  have l1 : (bs ++ be4 (uN3 0)).length = bs.length + 4 := by rw [List.length_append, be4_len]
  rw [← l1]
  refine w_addNumber hn (by omega) hr1 (fun ob2 hr2 => ?_)
  rw [l1]
  refine hp ob2 ?_
  have e : bs ++ be4 (uN3 0) ++ be4 (uN3 x) = bs ++ (0 :: 0 :: 0 :: 0 :: be4 (uN3 x)) := by
    rw [List.append_assoc]; rfl
  rw [← e]
  exact hr2
def chunk (body : List Nat) : List Nat := be4 (body.length - 4) ++ body ++ be4 (uN3 (crcI body))
theorem chunk_len (body : List Nat) : (chunk body).length = body.length + 8 := by
  unfold chunk
  rw [List.length_append, List.length_append, be4_len, be4_len]; omega
theorem chunk_B {body : List Nat} (h : AllB body) : AllB (chunk body) := ((be4_B _).app h).app (be4_B _)
theorem w_close {n : Nat → Nat} {pre body : List Nat} {ob ct : Nat → Int32} {post : Int32 × (Nat → Int32) → Prop} (hn : n 11 < 2 ^ 30) (h12 : n 12 = 256) (hct : CT ct) (hb4 : 4 ≤ body.length) (hl : pre.length + 8 + body.length ≤ n 11) (hB : AllB pre) (hB2 : AllB body) (hr : Rep (pre ++ (0 :: 0 :: 0 :: 0 :: body)) ob) (hp : ∀ ob', Rep (pre ++ chunk body) ob' → post (nI (pre ++ chunk body).length, ob')) :
    wp_Chk_close n (nI (pre.length + 4 + body.length)) (nI pre.length) ob ct post := by
  unfold wp_Chk_close
  rw [pk_sub (by omega), show (8 : Int32) = nI 8 from rfl, pk_sub (by omega)]
  have ev : pre.length + 4 + body.length - pre.length - 8 = body.length - 4 := by omega
  rw [ev]
  refine w_change (by omega) (by omega) hr (fun ob1 hr1 => ?_)
  rw [uN3_nI (by omega)] at hr1
  have l1 : (pre ++ (be4 (body.length - 4) ++ body)).length = pre.length + 4 + body.length := by
    rw [List.length_append, List.length_append, be4_len]; omega
  have d1 : (pre ++ (be4 (body.length - 4) ++ body)).drop (pre.length + 4) = body := by
    rw [← List.append_assoc]
    have : pre.length + 4 = (pre ++ be4 (body.length - 4)).length := by rw [List.length_append, be4_len]
    rw [this, List.drop_left]
  rw [show (4 : Int32) = nI 4 from rfl, nI_add, ← l1]
  refine w_crc (bs := pre ++ (be4 (body.length - 4) ++ body)) (by omega) h12 hct (by omega) (by omega) (hB.app ((be4_B _).app hB2)) hr1 ?_
  rw [d1]
  refine w_addNumber (by omega) (by omega) hr1 (fun ob2 hr2 => ?_)
  have e : pre ++ (be4 (body.length - 4) ++ body) ++ be4 (uN3 (crcI body)) = pre ++ chunk body := by
    unfold chunk; simp only [List.append_assoc]
  have := hp ob2 (by rw [← e]; exact hr2)
  rw [← e, List.length_append, be4_len] at this
  exact this
/-! the reference -/
theorem m_check {n : Nat → Nat} {bs : List Nat} {mf : Nat → Int32} {fr : Nat} {post : Int32 × (Nat → Int32) → Prop} (hn : n 17 < 2 ^ 31) (hl : bs.length + 4 ≤ n 17) (hf : fr ≤ bs.length) (hr : Rep bs mf) (hp : ∀ mf', Rep (bs ++ be4 (uN3 (crcI (bs.drop fr)))) mf' → post (nI (bs.length + 4), mf')) : wp_Mod_check n (nI bs.length) mf (nI fr) post := by
  have inner : ∀ (k4 : Int32 → (Nat → Int32) → Int32 → Int32 → Prop) (k i : Nat) (c y3 : Int32), i + k = 8 → k4 (nI bs.length) mf (stpN k c) (y3 + 1) → wp_Mod_check_24 n (nI fr) post k4 (k + 1) (nI bs.length) mf c y3 (nI i) := by
    intro k4 k
    induction k with
    | zero =>
      intro i c y3 hi h
      unfold wp_Mod_check_24
      exact ⟨fun _ z hz => by rw [hz]; exact h, fun q => absurd (nI_le (a := 8) (by omega) (by omega)) q⟩
    | succ k ih =>
      intro i c y3 hi h
      unfold wp_Mod_check_24
      refine ⟨fun q => absurd q (nI_ge (show i < 8 by omega) (by decide)), fun _ => ?_⟩
      intro z8 hz8 z9 hz9
      refine ⟨fun q => ?_, fun q => ?_⟩
      · intro z hz
        have e : stp c = z9 := by rw [hz9]; exact if_neg (by rw [← hz8]; exact q)
        rw [hz, nI_1, ← e]
        exact ih (i + 1) (stp c) y3 (by omega) h
      · intro z12 hz12 z hz
        have e : stp c = z12 := by rw [hz12, hz9]; exact if_pos (by rw [← hz8]; exact q)
        rw [hz, nI_1, ← e]
        exact ih (i + 1) (stp c) y3 (by omega) h
  have loop : ∀ (k i : Nat) (c : Int32), i + k = bs.length → crcF (bs.drop i) c ^^^ (-1) = crcI (bs.drop fr) → wp_Mod_check_4 n (nI fr) post (k + 1) (nI bs.length) mf c (nI i) := by
    intro k
    induction k with
    | zero =>
      intro i c hi h
      unfold wp_Mod_check_4
      refine ⟨fun _ => ?_, fun q => absurd (nI_le (by omega) (by omega)) q⟩
      rw [List.drop_eq_nil_of_le (by omega)] at h
      have h : c ^^^ (-1) = crcI (bs.drop fr) := h
      rw [h]
      exact m_four hn hl hr hp
    | succ k ih =>
      intro i c hi h
      unfold wp_Mod_check_4
      refine ⟨fun q => absurd q (nI_ge (by omega) (by omega)), fun _ => ⟨vp_in_nI (by omega) hn, ?_⟩⟩
      rw [nI_clamp (by omega), hr i (by omega)]
      intro z hz
      refine ⟨9, inner _ 8 0 z (nI i) (by omega) ?_⟩
      rw [nI_1]
      refine ih (i + 1) _ (by omega) ?_
      rw [drop_cons (show i < bs.length by omega)] at h
      rw [hz]
      exact h
  unfold wp_Mod_check
  exact ⟨_, loop (bs.length - fr) fr (-1) (by omega) rfl⟩
/-- the second sum -/
def adl (R : Nat → Nat) : Nat → Nat × Nat
  | 0 => (1, 0)
  | k + 1 => (((adl R k).1 + R k) % 65521, ((adl R k).2 + ((adl R k).1 + R k) % 65521) % 65521)
theorem adl_lt (R : Nat → Nat) : ∀ k, (adl R k).1 < 65521 ∧ (adl R k).2 < 65521
  | 0 => ⟨Nat.le_of_ble_eq_true rfl, Nat.le_of_ble_eq_true rfl⟩
  | k + 1 => ⟨Nat.mod_lt _ (by decide), Nat.mod_lt _ (by decide)⟩
def adlN (R : Nat → Nat) (m : Nat) : Nat := (adl R m).2 * 65536 + (adl R m).1
theorem adlN_lt (R : Nat → Nat) (m : Nat) : adlN R m < 4294967296 := by
  have := adl_lt R m
  unfold adlN
  omega
theorem ni_mod65 {a : Nat} (h : a < 2 ^ 31) : nI a - nI a / 65521 * 65521 = nI (a % 65521) := pk_rem h (by decide) (by decide)
theorem w_rsum {n : Nat → Nat} {R : Nat → Nat} {rb : Nat → Int32} {post : Int32 → Unit → Prop} (hm2 : n 9 ≤ 6960) (hR : Byt R) (hA : Agr (n 9) R rb) (hp : post (nI (adlN R (n 9))) ()) : wp_Rows_sum n rb post := by
  have loop : ∀ (k i : Nat), i + k = n 9 → wp_Rows_sum_6 n rb post (k + 1) (nI (adl R i).1) (nI (adl R i).2) (nI i) := by
    intro k
    induction k with
    | zero =>
      intro i hi
      unfold wp_Rows_sum_6
      refine ⟨fun _ => ?_, fun q => absurd (nI_le (by omega) (by omega)) q⟩
      rw [show (65536 : Int32) = nI 65536 from rfl, pk_mul, nI_add, show i = n 9 by omega]
      exact hp
    | succ k ih =>
      intro i hi
      have ha := adl_lt R i
      have hb := hR i
      unfold wp_Rows_sum_6
      refine ⟨fun q => absurd q (nI_ge (by omega) (by omega)), fun _ => ⟨vp_in_nI (by omega) (by omega), ?_⟩⟩
      rw [nI_clamp (by omega), hA i (by omega), nI_add, ni_mod65 (by omega)]
      intro z3 hz3
      rw [hz3, nI_add, ni_mod65 (by omega)]
      intro z4 hz4 z5 hz5
      rw [hz4, hz5, nI_1]
      exact ih (i + 1) (by omega)
  unfold wp_Rows_sum
  exact ⟨_, loop (n 9) 0 (by omega)⟩
theorem m_sum {n : Nat → Nat} {R : Nat → Nat} {bs : List Nat} {mr mf : Nat → Int32} {m : Nat} {post : Int32 × (Nat → Int32) → Prop} (hn : m ≤ n 16) (hm2 : m ≤ 6960) (hn2 : n 16 < 2 ^ 30) (hn3 : n 17 < 2 ^ 28) (hR : Byt R) (hA : Agr m R mr) (hl : bs.length + 4 ≤ n 17) (hr : Rep bs mf) (hp : ∀ mf', Rep (bs ++ be4 (adlN R m)) mf' → post (nI (bs.length + 4), mf')) :
    wp_Mod_sum n (nI m) (nI bs.length) mr mf post := by
  have loop : ∀ (k i : Nat), i + k = m → wp_Mod_sum_6 n (nI m) mr post (k + 1) (nI bs.length) mf (nI (adl R i).1) (nI (adl R i).2) (nI i) := by
    intro k
    induction k with
    | zero =>
      intro i hi
      unfold wp_Mod_sum_6
      refine ⟨fun _ => ?_, fun q => absurd (nI_le (by omega) (by omega)) q⟩
      rw [show i = m by omega]
      have ha := adl_lt R m
      have u1 : uN3 (nI (adl R m).1) = (adl R m).1 := uN3_nI (by omega)
      have u2 : uN3 (nI (adl R m).2) = (adl R m).2 := uN3_nI (by omega)
      refine m_one (by omega) (by omega) hr (by_sshr _ (k := 8) (by decide) (by decide)) (fun f1 hr1 => ?_)
      rw [u2] at hr1
      have l1 : (bs ++ [(adl R m).2 / 2 ^ 8 % 256]).length = bs.length + 1 := by simp
      rw [← l1]
      refine m_one (by omega) (by omega) hr1 (by_low _) (fun f2 hr2 => ?_)
      rw [u2] at hr2
      have l2 : (bs ++ [(adl R m).2 / 2 ^ 8 % 256] ++ [(adl R m).2 % 256]).length = (bs ++ [(adl R m).2 / 2 ^ 8 % 256]).length + 1 := by simp
      rw [← l2]
      refine m_one (by omega) (by omega) hr2 (by_sshr _ (k := 8) (by decide) (by decide)) (fun f3 hr3 => ?_)
      rw [u1] at hr3
      have l3 : (bs ++ [(adl R m).2 / 2 ^ 8 % 256] ++ [(adl R m).2 % 256] ++ [(adl R m).1 / 2 ^ 8 % 256]).length = (bs ++ [(adl R m).2 / 2 ^ 8 % 256] ++ [(adl R m).2 % 256]).length + 1 := by simp
      rw [← l3]
      refine m_one (by omega) (by omega) hr3 (by_low _) (fun f4 hr4 => ?_)
      rw [u1] at hr4
      rw [l3, l2, l1]
      refine hp f4 ?_
      have e : bs ++ [(adl R m).2 / 2 ^ 8 % 256] ++ [(adl R m).2 % 256] ++ [(adl R m).1 / 2 ^ 8 % 256] ++ [(adl R m).1 % 256] = bs ++ be4 (adlN R m) := by
        unfold be4 adlN
        simp only [List.append_assoc, List.cons_append, List.nil_append]
        congr 1
        congr 1
        · omega
        · congr 1
          · omega
          · congr 1
            · omega
            · congr 1
              omega
      rw [← e]
      exact hr4
    | succ k ih =>
      intro i hi
      have ha := adl_lt R i
      have hb := hR i
      unfold wp_Mod_sum_6
      refine ⟨fun q => absurd q (nI_ge (by omega) (by omega)), fun _ => ⟨vp_in_nI (by omega) (by omega), ?_⟩⟩
      rw [nI_clamp (by omega), hA i (by omega), nI_add, ni_mod65 (by omega)]
      intro z3 hz3
      rw [hz3, nI_add, ni_mod65 (by omega)]
      intro z4 hz4 z5 hz5
      rw [hz4, hz5, nI_1]
      exact ih (i + 1) (by omega)
  unfold wp_Mod_sum
  exact ⟨_, loop m 0 (by omega)⟩
