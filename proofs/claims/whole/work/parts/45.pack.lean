/-! PURE: how many bits; the class's packing loop -/
theorem lenB_len {l : Nat} (h : 3 ≤ l) (h2 : l ≤ 258) : (lenB l).length ≤ 13 ∧ (l < 11 → (lenB l).length ≤ 7) := by
  rcases Nat.lt_or_ge l 11 with q | q
  · have e : lenB l = hiB (257 + l - 3 - 256) 7 := by
      unfold lenB signB
      rw [if_pos q, if_neg (by omega), if_neg (by omega), if_pos (by omega)]
    rw [e, hiB_len]
    exact ⟨by decide, fun _ => Nat.le_refl _⟩
  · refine ⟨?_, fun z => absurd z (by omega)⟩
    by_cases e : l = 258
    · rw [e]
      have : lenB 258 = hiB (192 + 285 - 280) 8 := by
        unfold lenB signB
        rw [if_neg (by decide), if_pos rfl, if_neg (by decide), if_neg (by decide), if_neg (by decide)]
      rw [this, hiB_len]; decide
    · obtain ⟨j, j1, j5, ja, jb, je⟩ := lenB_j q (by omega)
      have h0 : 0 < 2 ^ j := Nat.pow_pos (by decide)
      have hd := dv4 h0 (show l - (3 + 4 * 2 ^ j) < 4 * 2 ^ j by omega)
      have hd0 := Nat.zero_le ((l - (3 + 4 * 2 ^ j)) / 2 ^ j)
      rw [je]
      unfold lenJ signB
      rw [if_neg (by omega), if_neg (by omega)]
      split
      · rw [List.length_append, hiB_len, loB_len]; omega
      · rw [List.length_append, hiB_len, loB_len]; omega
theorem dstB_len {d : Nat} (h : 1 ≤ d) (h2 : d ≤ 32768) : (dstB d).length ≤ 18 := by
  rcases Nat.lt_or_ge d 5 with q | q
  · unfold dstB; rw [if_pos q, hiB_len]; decide
  · obtain ⟨j, j1, j5, ja, jb, je⟩ := dstB_j q h2
    rw [je]
    unfold dstJ
    rw [List.length_append, hiB_len, loB_len]; omega
theorem enc_len {R : Nat → Nat} {m : Nat} (hm2 : m ≤ 6960) (hR : Byt R) : ∀ (k at_ : Nat), (enc R m k at_).length ≤ 9 * (m - at_)
  | 0, _ => Nat.zero_le _
  | k + 1, at_ => by
    unfold enc
    by_cases hlt : at_ < m
    · have hmo : mostOf m at_ ≤ m - at_ ∧ mostOf m at_ ≤ 258 := by unfold mostOf; split <;> omega
      have hb := bst_d R at_ (mostOf m at_) at_
      have hg := bst_ge R at_ (mostOf m at_) at_
      rw [if_pos hlt]
      by_cases h0 : (bst R at_ (mostOf m at_) at_).2 = 0
      · rw [if_pos h0, List.length_append]
        have h1 := enc_len hm2 hR k (at_ + 1)
        have h2 := signB_len (R at_)
        omega
      · rw [if_neg h0, List.length_append, List.length_append]
        have h3 : 3 ≤ (bst R at_ (mostOf m at_) at_).1 := by
          rcases Nat.lt_or_ge (bst R at_ (mostOf m at_) at_).1 3 with q | q
          · exact absurd (hb.2.1.mpr (by omega)) h0
          · exact q
        have h4 : (bst R at_ (mostOf m at_) at_).1 ≤ mostOf m at_ := hb.2.2.resolve_right h0
        have h1 := enc_len hm2 hR k (at_ + (bst R at_ (mostOf m at_) at_).1)
        have h5 := lenB_len h3 (by omega)
        have h6 := dstB_len (d := (bst R at_ (mostOf m at_) at_).2) (by omega) (by omega)
        rcases Nat.lt_or_ge (bst R at_ (mostOf m at_) at_).1 11 with q | q
        · have := h5.2 q; omega
        · omega
    · rw [if_neg hlt]; exact Nat.zero_le _
theorem w_fill {n : Nat → Nat} {x1 : Int32} {post : (Nat → Int32) → Prop} (hn : n 18 < 2 ^ 31) (hp : ∀ g : Nat → Int32, (∀ j, j < n 18 → g j = x1) → post g) {ga : Nat → Int32} : wp_Arr_fill n ga x1 post := by
  have loop : ∀ (k i : Nat) (g : Nat → Int32), i + k = n 18 → (∀ j, j < i → g j = x1) → wp_Arr_fill_5 n x1 post (k + 1) g (nI i) (nI (n 18)) := by
    intro k
    induction k with
    | zero =>
      intro i g hi hg
      unfold wp_Arr_fill_5
      exact ⟨fun _ => hp g (fun j hj => hg j (by omega)), fun h => absurd (nI_le (by omega) (by omega)) h⟩
    | succ k ih =>
      intro i g hi hg
      unfold wp_Arr_fill_5
      refine ⟨fun h => absurd h (nI_ge (by omega) (by omega)), fun _ => ⟨vp_in_nI (by omega) hn, ?_⟩⟩
      intro f hf z hz
      rw [hz, nI_1]
      refine ih (i + 1) f (by omega) (fun j hj => ?_)
      rw [hf, nI_clamp (by omega)]
      by_cases e : j = i
      · rw [e, pk_us]
      · rw [pk_un e]; exact hg j (by omega)
  unfold wp_Arr_fill
  intro z hz
  rw [hz]
  exact ⟨_, loop (n 18) 0 ga (by omega) (fun j h => absurd h (Nat.not_lt_zero j))⟩
theorem w_frestart {n : Nat → Nat} {R : Nat → Nat} {c0 : Int32} {nw nx : Nat → Int32} {post : Int32 × (Nat → Int32) → Prop} (h13 : n 13 = 1024) (hp : ∀ nw', CH R 0 nw' nx → post (0, nw')) : wp_Fin_restart n c0 nw post := by
  unfold wp_Fin_restart
  refine w_fill (by omega) (fun g hg => hp g ⟨fun u hu => ?_, fun i h => absurd h (Nat.not_lt_zero i)⟩)
  rw [hg u (by omega)]
  rfl
theorem w_single {n : Nat → Nat} {v c1 : Nat} {st : List Nat × List Bool} {ob : Nat → Int32} {post : Int32 × Int32 × Int32 × Int32 × (Nat → Int32) → Prop} (hn : n 11 < 2 ^ 31) (hv : v < 256) (ho : okS st) (hl : blen st + (signB v).length ≤ 8 * n 11) (hr : Rep st.1 ob)
    (hp : ∀ ob', Rep (pBs st (signB v)).1 ob' → post (nI (pBs st (signB v)).1.length, nI (bitsVal (pBs st (signB v)).2), nI (pBs st (signB v)).2.length, nI (c1 + 1), ob')) :
    wp_Pak_addSingle n (nI st.1.length) (nI (bitsVal st.2)) (nI st.2.length) (nI c1) ob (nI v) post := by
  unfold wp_Pak_addSingle
  intro z hz
  rw [hz, nI_1]
  unfold signB at hl hp
  refine ⟨fun h => ?_, fun h => ?_⟩
  · have g : ¬ v < 144 := fun q => absurd h (nI_ge q (by decide))
    rw [if_neg g, if_pos hv] at hl hp
    rw [hiB_len] at hl
    rw [show (400 : Int32) = nI 400 from rfl, nI_add, show (144 : Int32) = nI 144 from rfl, pk_sub (by omega)]
    exact w_hiBits (k := 9) hn (by omega) (by decide) ho hl hr hp
  · have g : v < 144 := Nat.lt_of_not_le (fun q => h (nI_le q (by omega)))
    rw [if_pos g] at hl hp
    rw [hiB_len] at hl
    rw [show (48 : Int32) = nI 48 from rfl, nI_add]
    exact w_hiBits (k := 8) hn (by omega) (by decide) ho hl hr hp
theorem w_run {n : Nat → Nat} {l d c2 c3 : Nat} {st : List Nat × List Bool} {ob : Nat → Int32} {post : Int32 × Int32 × Int32 × Int32 × Int32 × (Nat → Int32) → Prop} (hn : n 11 < 2 ^ 31) (h3 : 3 ≤ l) (h8 : l ≤ 258) (hd1 : 1 ≤ d) (hd : d ≤ 32768) (hc : c3 ≤ 258) (ho : okS st) (hl : blen st + ((lenB l).length + (dstB d).length) ≤ 8 * n 11) (hr : Rep st.1 ob)
    (hp : ∀ ob', Rep (pBs st (lenB l ++ dstB d)).1 ob' → post (nI (pBs st (lenB l ++ dstB d)).1.length, nI (bitsVal (pBs st (lenB l ++ dstB d)).2), nI (pBs st (lenB l ++ dstB d)).2.length, nI (c2 + 1), nI (if c3 < l then l else c3), ob')) :
    wp_Pak_addRun n (nI st.1.length) (nI (bitsVal st.2)) (nI st.2.length) (nI c2) (nI c3) ob (nI l) (nI d) post := by
  unfold wp_Pak_addRun
  intro z hz z2 hz2
  have e2 : z2 = nI (if c3 < l then l else c3) := by
    rw [hz2]
    by_cases h : c3 < l
    · rw [if_pos h, if_pos (nI_lt h (by omega))]
    · rw [if_neg h, if_neg (nI_nlt (by omega) (by omega))]
  rw [hz, nI_1, e2]
  intro z3 hz3
  rw [show (3 : Int32) = nI 3 from rfl, pk_sub h3] at hz3
  rw [hz3]
  rw [pBs_app] at hp
  -- behind the length: the distance
  have tail : ∀ (sg num more : Nat), 256 ≤ sg → sg < 286 → num < 2 ^ 31 → more ≤ 31 → signB sg ++ loB num 0 more = lenB l → wp_Pak_addRun_72 n (nI l) (nI d) post (nI st.1.length) (nI (bitsVal st.2)) (nI st.2.length) (nI (c2 + 1)) (nI (if c3 < l then l else c3)) ob (nI sg) (nI num) (nI more) := by
    intro sg num more s1 s2 hnum hmore he
    unfold wp_Pak_addRun_72
    have hel : (signB sg).length + more = (lenB l).length := by rw [← he, List.length_append, loB_len]
    refine w_runSign hn s1 s2 ho (by omega) hr (fun ob1 hr1 => ?_)
    refine w_loBits hn hnum hmore (pBs_ok _ ho) (by rw [pBs_len _ ho]; omega) hr1 ?_
    rw [← pBs_app, he]
    intro ob2 hr2
    rw [show (1 : Int32) = nI 1 from rfl, pk_sub hd1]
    exact w_distance hn hd1 hd (pBs_ok _ ho) (by rw [pBs_len _ ho]; omega) hr2 hp
  refine ⟨fun hne => ?_, fun heq => ?_⟩
  · have g2 : l ≠ 258 := fun q => hne (by rw [q]; rfl)
    obtain ⟨j, j5, ja, jb, je⟩ := lenB_k h3 (show l < 258 by omega)
    have hp2 := p2_lt (k := j) (by omega)
    have h0 : 0 < 2 ^ j := Nat.pow_pos (by decide)
    have hdv : (l - 3) / 2 ^ j < 8 := Nat.div_lt_of_lt_mul (by rw [Nat.mul_comm]; exact ja)
    refine w_moreBits (L := 8) (j := j) (by omega) (by omega) (by decide) ja jb ?_
    unfold wp_Pak_addRun_43
    refine ⟨fun _ => ?_, fun q => absurd q hne⟩
    rw [ni_shr (by omega) (by omega), show (4 : Int32) = nI 4 from rfl, pk_mul, show (257 : Int32) = nI 257 from rfl, nI_add, nI_add]
    have hd0 := Nat.zero_le ((l - 3) / 2 ^ j)
    exact tail _ (l - 3) j (by omega) (by omega) (by omega) (by omega) je
  · have g2 : l = 258 := (nI_eq (by omega) (by decide)).mp heq
    unfold wp_Pak_addRun_43
    refine ⟨fun q => absurd heq q, fun _ => ?_⟩
    refine tail 285 (l - 3) 0 (by decide) (by decide) (by omega) (by decide) ?_
    unfold lenB
    rw [if_neg (by omega), if_pos g2]
    exact List.append_nil _
theorem w_endB {n : Nat → Nat} {st : List Nat × List Bool} {ob : Nat → Int32} {post : Int32 × Int32 × Int32 × (Nat → Int32) → Prop} (hn : n 11 < 2 ^ 28) (ho : okS st) (hl : blen st ≤ 8 * n 11) (hr : Rep st.1 ob)
    (hp : ∀ ob', Rep (fin st) ob' → post (nI (fin st).length, 0, 0, ob')) : wp_Out_endByte n (nI st.1.length) (nI (bitsVal st.2)) (nI st.2.length) ob post := by
  obtain ⟨bs, q⟩ := st
  unfold okS at ho
  unfold blen at hl
  unfold fin at hp
  simp only at ho hl hp ⊢
  by_cases h : q = []
  · subst h
    rw [if_pos rfl] at hp
    unfold wp_Out_endByte
    refine ⟨fun _ => hp ob hr, fun h => absurd (by decide) h⟩
  · rw [if_neg h] at hp
    have h1 : 0 < q.length := List.length_pos_iff.mpr h
    refine w_endByte (st := (bs, q)) hn (by simp only; omega) ho h hr (fun ob' hr' => ?_)
    have := hp ob' hr'
    rw [List.length_append, List.length_singleton] at this
    exact this
theorem w_pack_33 {n : Nat → Nat} {R : Nat → Nat} {rb : Nat → Int32} {post : Int32 × Int32 × Int32 × Int32 × Int32 × Int32 × Int32 × Int32 × Int32 × (Nat → Int32) × (Nat → Int32) × (Nat → Int32) → Prop} (hm2 : n 9 ≤ 6960) (hm3 : 3 ≤ n 9) (h13 : n 13 = 1024) (h14 : n 14 = n 9) (hn3 : n 11 < 2 ^ 28) (hR : Byt R) (hA : Agr (n 9) R rb) :
    ∀ (k at_ : Nat) (st : List Nat × List Bool) (c : Nat × Nat × Nat) (C : Nat) (l0 d0 : Int32) (ob nw nx : Nat → Int32), n 9 ≤ at_ + k → at_ ≤ n 9 → okS st → blen st + (enc R (n 9) k at_).length + 7 ≤ 8 * n 11 → c.2.2 ≤ 258 → C ≤ at_ → C ≤ n 9 - 2 → CH R C nw nx → Rep st.1 ob →
      (∀ ob' i1 i2 i3 nw' nx', Rep (fin (pBs st (enc R (n 9) k at_ ++ signB 256))) ob' → post (nI (fin (pBs st (enc R (n 9) k at_ ++ signB 256))).length, 0, 0, nI (cnt R (n 9) k at_ c).1, nI (cnt R (n 9) k at_ c).2.1, nI (cnt R (n 9) k at_ c).2.2, i1, i2, i3, ob', nw', nx')) →
      wp_Pak_pack_33 n rb post (k + 1) (nI st.1.length) (nI (bitsVal st.2)) (nI st.2.length) (nI c.1) (nI c.2.1) (nI c.2.2) (nI C) l0 d0 ob nw nx (nI at_) := by
  have done : ∀ (st : List Nat × List Bool) (c : Nat × Nat × Nat) (i1 i2 i3 : Int32) (ob nw nx : Nat → Int32), okS st → blen st + 7 ≤ 8 * n 11 → Rep st.1 ob → (∀ ob' i1 i2 i3 nw' nx', Rep (fin (pBs st (signB 256))) ob' → post (nI (fin (pBs st (signB 256))).length, 0, 0, nI c.1, nI c.2.1, nI c.2.2, i1, i2, i3, ob', nw', nx')) → wp_Pak_addRunSign n (nI st.1.length) (nI (bitsVal st.2)) (nI st.2.length) ob 256 (fun u6 => wp_Out_endByte n u6.1 u6.2.1 u6.2.2.1 u6.2.2.2 (fun u8 => post (u8.1, u8.2.1, u8.2.2.1, nI c.1, nI c.2.1, nI c.2.2, i1, i2, i3, u8.2.2.2, nw, nx))) := by
    intro st c i1 i2 i3 ob nw nx ho hl hr hp
    refine w_runSign (s := 256) (by omega) (by decide) (by decide) ho hl hr (fun ob' hr' => ?_)
    exact w_endB (by omega) (pBs_ok _ ho) (by rw [pBs_len _ ho]; exact hl) hr' (fun ob2 hr2 => hp ob2 _ _ _ _ _ hr2)
  intro k
  induction k with
  | zero =>
    intro at_ st c C l0 d0 ob nw nx hk hat ho hl hc hC1 hC2 hch hr hp
    unfold wp_Pak_pack_33
    exact ⟨fun _ => done st c _ _ _ ob nw nx ho (by simp only [enc, List.length_nil] at hl; omega) hr hp, fun h => absurd (nI_le (by omega) (by omega)) h⟩
  | succ k ih =>
    intro at_ st c C l0 d0 ob nw nx hk hat ho hl hc hC1 hC2 hch hr hp
    unfold wp_Pak_pack_33
    by_cases hlt : at_ < n 9
    · refine ⟨fun h => absurd h (nI_ge hlt (by omega)), fun _ => ?_⟩
      have hmo : mostOf (n 9) at_ ≤ n 9 - at_ ∧ mostOf (n 9) at_ ≤ 258 := by unfold mostOf; split <;> omega
      have ee : enc R (n 9) (k + 1) at_ = if (bst R at_ (mostOf (n 9) at_) at_).2 = 0 then signB (R at_) ++ enc R (n 9) k (at_ + 1) else (lenB (bst R at_ (mostOf (n 9) at_) at_).1 ++ dstB (bst R at_ (mostOf (n 9) at_) at_).2) ++ enc R (n 9) k (at_ + (bst R at_ (mostOf (n 9) at_) at_).1) := if_pos hlt
      have ec : cnt R (n 9) (k + 1) at_ c = if (bst R at_ (mostOf (n 9) at_) at_).2 = 0 then cnt R (n 9) k (at_ + 1) (c.1 + 1, c.2.1, c.2.2) else cnt R (n 9) k (at_ + (bst R at_ (mostOf (n 9) at_) at_).1) (c.1, c.2.1 + 1, if c.2.2 < (bst R at_ (mostOf (n 9) at_) at_).1 then (bst R at_ (mostOf (n 9) at_) at_).1 else c.2.2) := if_pos hlt
      rw [ee] at hl hp
      rw [ec] at hp
      have hb := bst_d R at_ (mostOf (n 9) at_) at_
      have hg := bst_ge R at_ (mostOf (n 9) at_) at_
      refine w_look hm2 hm3 h13 h14 hR hA hlt hC1 hC2 hch (fun T nw' nx' hT1 hT2 hch' => ?_)
      by_cases h0 : (bst R at_ (mostOf (n 9) at_) at_).2 = 0
      · rw [if_pos h0] at hl hp
        rw [if_pos h0] at hp
        have ecb : cbL (bst R at_ (mostOf (n 9) at_) at_) = 0 := if_pos h0
        rw [ecb]
        refine ⟨fun _ => ?_, fun h => absurd (show nI 0 ≤ 0 by decide) h⟩
        refine ⟨vp_in_nI (by omega) (by omega), ?_⟩
        rw [nI_clamp (by omega), hA _ hlt]
        rw [List.length_append] at hl
        refine w_single (by omega) (hR at_) ho (by omega) hr (fun ob' hr' => ?_)
        intro z hz
        rw [hz, nI_1]
        refine ih (at_ + 1) (pBs st (signB (R at_))) (c.1 + 1, c.2.1, c.2.2) T _ _ ob' nw' nx' (by omega) (by omega) (pBs_ok _ ho) (by rw [pBs_len _ ho]; omega) hc (by omega) hT2 hch' hr' ?_
        rw [← pBs_app, ← List.append_assoc]
        exact hp
      · rw [if_neg h0] at hl hp
        rw [if_neg h0] at hp
        have ecb : cbL (bst R at_ (mostOf (n 9) at_) at_) = (bst R at_ (mostOf (n 9) at_) at_).1 := if_neg h0
        have h3 : 3 ≤ (bst R at_ (mostOf (n 9) at_) at_).1 := by
          rcases Nat.lt_or_ge (bst R at_ (mostOf (n 9) at_) at_).1 3 with q | q
          · exact absurd (hb.2.1.mpr (by omega)) h0
          · exact q
        have h4 : (bst R at_ (mostOf (n 9) at_) at_).1 ≤ mostOf (n 9) at_ := hb.2.2.resolve_right h0
        rw [ecb]
        refine ⟨fun h => absurd h (nI_nle (by omega) (by omega)), fun _ => ?_⟩
        rw [List.length_append, List.length_append] at hl
        refine w_run (by omega) h3 (by omega) (by omega) (by omega) hc ho (by omega) hr (fun ob' hr' => ?_)
        intro z hz
        rw [nI_add] at hz
        rw [hz]
        refine ih (at_ + (bst R at_ (mostOf (n 9) at_) at_).1) (pBs st (lenB (bst R at_ (mostOf (n 9) at_) at_).1 ++ dstB (bst R at_ (mostOf (n 9) at_) at_).2)) (c.1, c.2.1 + 1, if c.2.2 < (bst R at_ (mostOf (n 9) at_) at_).1 then (bst R at_ (mostOf (n 9) at_) at_).1 else c.2.2) T _ _ ob' nw' nx' (by omega) (by omega) (pBs_ok _ ho) (by rw [pBs_len _ ho, List.length_append]; omega) (by simp only; split <;> omega) (by omega) hT2 hch' hr' ?_
        rw [← pBs_app, ← List.append_assoc]
        exact hp
    · have ee : enc R (n 9) (k + 1) at_ = [] := if_neg hlt
      have ec : cnt R (n 9) (k + 1) at_ c = c := if_neg hlt
      rw [ee] at hl hp
      rw [ec] at hp
      exact ⟨fun _ => done st c _ _ _ ob nw nx ho (by simp only [List.length_nil] at hl; omega) hr hp, fun h => absurd (nI_le (by omega) (by omega)) h⟩
/-- what the packed bytes are: from a stream of whole bytes -/
def packS (R : Nat → Nat) (m : Nat) (bs : List Nat) : List Nat := fin (pBs (bs, []) ([true, true, false] ++ (enc R m m 0 ++ signB 256)))
theorem packS_len {R : Nat → Nat} {m : Nat} (hm2 : m ≤ 6960) (hR : Byt R) (bs : List Nat) : (packS R m bs).length ≤ bs.length + (9 * m + 17) / 8 := by
  unfold packS
  have ho : okS (bs, ([] : List Bool)) := Nat.zero_lt_succ 7
  have h1 := pBs_len ([true, true, false] ++ (enc R m m 0 ++ signB 256)) ho
  have h2 := pBs_ok ([true, true, false] ++ (enc R m m 0 ++ signB 256)) ho
  have h3 := enc_len hm2 hR m 0
  have h4 : (signB 256).length = 7 := rfl
  rw [List.length_append, List.length_append, h4] at h1
  generalize pBs (bs, []) ([true, true, false] ++ (enc R m m 0 ++ signB 256)) = st at h1 h2 ⊢
  unfold okS at h2
  unfold blen at h1
  simp only [List.length_cons, List.length_nil] at h1
  unfold fin
  split
  · omega
  · rename_i hne
    have := List.length_pos_iff.mpr hne
    rw [List.length_append, List.length_singleton]
    omega
theorem w_pack {n : Nat → Nat} {R : Nat → Nat} {bs : List Nat} {rb ob nw nx : Nat → Int32} {i1 i2 i3 i4 i5 i6 : Int32} {post : Int32 × Int32 × Int32 × Int32 × Int32 × Int32 × Int32 × Int32 × Int32 × (Nat → Int32) × (Nat → Int32) × (Nat → Int32) → Prop} (hm2 : n 9 ≤ 6960) (hm3 : 3 ≤ n 9) (h13 : n 13 = 1024) (h14 : n 14 = n 9) (hn3 : n 11 < 2 ^ 28) (hR : Byt R) (hA : Agr (n 9) R rb) (hl : bs.length + (9 * n 9 + 17) / 8 ≤ n 11) (hr : Rep bs ob)
    (hp : ∀ ob' j1 j2 j3 nw' nx', Rep (packS R (n 9) bs) ob' → post (nI (packS R (n 9) bs).length, 0, 0, nI (cnt R (n 9) (n 9) 0 (0, 0, 0)).1, nI (cnt R (n 9) (n 9) 0 (0, 0, 0)).2.1, nI (cnt R (n 9) (n 9) 0 (0, 0, 0)).2.2, j1, j2, j3, ob', nw', nx')) :
    wp_Pak_pack n (nI bs.length) 0 0 i1 i2 i3 i4 i5 i6 rb ob nw nx post := by
  have ho : okS (bs, ([] : List Bool)) := Nat.zero_lt_succ 7
  have h3 := enc_len hm2 hR (n 9) 0
  have hb0 : blen (bs, ([] : List Bool)) = 8 * bs.length := by unfold blen; simp
  unfold wp_Pak_pack
  refine w_frestart (R := R) (nx := nx) h13 (fun nw' hch => ?_)
  refine w_loBits (st := (bs, [])) (v := 3) (k := 3) (by omega) (by decide) (by decide) ho (by rw [hb0]; omega) hr (fun ob1 hr1 => ?_)
  have e3 : loB 3 0 3 = [true, true, false] := by decide
  rw [e3] at hr1 ⊢
  refine ⟨n 9 + 1, ?_⟩
  have := w_pack_33 (post := post) hm2 hm3 h13 h14 hn3 hR hA (n 9) 0 (pBs (bs, []) [true, true, false]) (0, 0, 0) 0 i5 i6 ob1 nw' nx (by omega) (by omega) (pBs_ok _ ho) (by rw [pBs_len _ ho, hb0]; simp only [List.length_cons, List.length_nil]; omega) (by decide) (Nat.le_refl _) (Nat.zero_le _) hch hr1 (by
    rw [← pBs_app]
    intro ob' j1 j2 j3 nw2 nx2 hr2
    exact hp ob' j1 j2 j3 nw2 nx2 hr2)
  exact this
theorem m_pack {n : Nat → Nat} {R : Nat → Nat} {bs : List Nat} {mr mf : Nat → Int32} {m : Nat} {post : Int32 × Int32 × Int32 × Int32 × Int32 × (Nat → Int32) → Prop} (hn : m ≤ n 16) (hm2 : m ≤ 6960) (hn2 : n 16 < 2 ^ 30) (hn3 : n 17 < 2 ^ 28) (hR : Byt R) (hA : Agr m R mr) (hl : bs.length + (9 * m + 17) / 8 ≤ n 17) (hr : Rep bs mf)
    (hp : ∀ mf', Rep (packS R m bs) mf' → post (nI (packS R m bs).length, 0, nI (cnt R m m 0 (0, 0, 0)).1, nI (cnt R m m 0 (0, 0, 0)).2.1, nI (cnt R m m 0 (0, 0, 0)).2.2, mf')) :
    wp_Mod_pack n (nI m) (nI bs.length) 0 0 0 0 mr mf post := by
  have ho : okS (bs, ([] : List Bool)) := Nat.zero_lt_succ 7
  have h3 := enc_len hm2 hR m 0
  have hb0 : blen (bs, ([] : List Bool)) = 8 * bs.length := by unfold blen; simp
  unfold wp_Mod_pack
  refine m_next (st := (bs, [])) (b := true) (by omega) ho (by rw [hb0]; omega) hr (fun mf1 hr1 => ?_)
  refine m_next (b := true) (by omega) (pB_ok ho) (by rw [pB_len ho, hb0]; omega) hr1 (fun mf2 hr2 => ?_)
  refine m_next (b := false) (by omega) (pB_ok (pB_ok ho)) (by rw [pB_len (pB_ok ho), pB_len ho, hb0]; omega) hr2 (fun mf3 hr3 => ?_)
  refine ⟨m + 1, ?_⟩
  have := m_pack_17 (post := post) hn hm2 hn2 hn3 hR hA m 0 (pBs (bs, []) [true, true, false]) (0, 0, 0) mf3 (by omega) (by omega) (pBs_ok _ ho) (by rw [pBs_len _ ho, hb0]; simp only [List.length_cons, List.length_nil]; omega) (by decide) hr3 (by
    rw [← pBs_app]
    intro mf' hr'
    exact hp mf' hr')
  exact this
