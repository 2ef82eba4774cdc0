/-! PURE: put of the reference -/
theorem drop_app (a b : List Nat) {k : Nat} (h : k = a.length) : (a ++ b).drop k = b := by rw [h, List.drop_left]
theorem set23 (pre rest : List Nat) (a b c d g h : Nat) : ((pre ++ (a :: b :: c :: d :: rest)).set (pre.length + 2) g).set (pre.length + 3) h = pre ++ (a :: b :: g :: h :: rest) := by
  simp [List.set_append]
theorem m_four' {n : Nat → Nat} {bs : List Nat} {mf : Nat → Int32} {x : Int32} {v : Nat} {post : Int32 × (Nat → Int32) → Prop} (hn : n 17 < 2 ^ 31) (hl : bs.length + 4 ≤ n 17) (hr : Rep bs mf) (hv : uN3 x = v) (hp : ∀ mf', Rep (bs ++ be4 v) mf' → post (nI (bs ++ be4 v).length, mf')) : wp_Mod_four n (nI bs.length) mf x post :=
  m_four hn hl hr (fun mf' h => by
    rw [hv] at h
    have := hp mf' h
    rw [List.length_append, be4_len] at this
    exact this)
theorem m_name' {n : Nat → Nat} {bs : List Nat} {mf : Nat → Int32} {a b c d v : Nat} {xa xb xc xd : Int32} {post : Int32 × (Nat → Int32) → Prop} (hn : n 17 < 2 ^ 31) (hb4 : [a, b, c, d] = be4 v) (ea : xa = nI a) (eb : xb = nI b) (ec : xc = nI c) (ed : xd = nI d) (hl : bs.length + 4 ≤ n 17) (hr : Rep bs mf) (hp : ∀ mf', Rep (bs ++ be4 v) mf' → post (nI (bs ++ be4 v).length, mf')) : wp_Mod_name n (nI bs.length) mf xa xb xc xd post := by
  have hB : AllB [a, b, c, d] := by rw [hb4]; exact be4_B v
  rw [ea, eb, ec, ed]
  refine m_name hn (hB a (by simp)) (hB b (by simp)) (hB c (by simp)) (hB d (by simp)) hl hr (fun mf' h => ?_)
  rw [hb4] at h
  have := hp mf' h
  rw [List.length_append, be4_len] at this
  exact this
theorem m_one' {n : Nat → Nat} {bs : List Nat} {mf : Nat → Int32} {x : Int32} {v : Nat} {post : Int32 × (Nat → Int32) → Prop} (hn : n 17 < 2 ^ 31) (hl : bs.length < n 17) (hr : Rep bs mf) (hx : x &&& 255 = nI v) (hp : ∀ mf', Rep (bs ++ [v]) mf' → post (nI (bs ++ [v]).length, mf')) : wp_Mod_one n (nI bs.length) mf x post :=
  m_one hn hl hr hx (fun mf' h => by
    have := hp mf' h
    rw [List.length_append, List.length_singleton] at this
    exact this)
theorem m_check' {n : Nat → Nat} {bs : List Nat} {mf : Nat → Int32} {fr : Nat} {x : Int32} {l : List Nat} {post : Int32 × (Nat → Int32) → Prop} (hn : n 17 < 2 ^ 31) (hl : bs.length + 4 ≤ n 17) (hf : fr ≤ bs.length) (hx : x = nI fr) (hd : bs.drop fr = l) (hr : Rep bs mf) (hp : ∀ mf', Rep (bs ++ be4 (uN3 (crcI l))) mf' → post (nI (bs ++ be4 (uN3 (crcI l))).length, mf')) : wp_Mod_check n (nI bs.length) mf x post := by
  rw [hx]
  refine m_check hn hl hf hr (fun mf' h => ?_)
  rw [hd] at h
  have := hp mf' h
  rw [List.length_append, be4_len] at this
  exact this
theorem nm_IHDR : [73, 72, 68, 82] = be4 1229472850 := by decide
theorem nm_IDAT : [73, 68, 65, 84] = be4 1229209940 := by decide
theorem nm_IEND : [73, 69, 78, 68] = be4 1229278788 := by decide
theorem nm_s1 : [137, 80, 78, 71] = be4 2303741511 := by decide
theorem nm_s2 : [13, 10, 26, 10] = be4 218765834 := by decide
theorem sig_be : [] ++ be4 2303741511 ++ be4 218765834 = sigN := by decide
def NX (n : Nat → Nat) (w h : Nat) (mf : Nat → Int32) (K : Int32 × (Nat → Int32) → Prop) : Prop := wp_Mod_name n 0 mf 137 80 78 71 (fun u3 => wp_Mod_name n u3.1 u3.2 13 10 26 10 (fun u5 => wp_Mod_four n u5.1 u5.2 13 (fun u7 => wp_Mod_name n u7.1 u7.2 73 72 68 82 (fun u9 => wp_Mod_four n u9.1 u9.2 (nI w) (fun u11 => wp_Mod_four n u11.1 u11.2 (nI h) (fun u13 => wp_Mod_one n u13.1 u13.2 8 (fun u15 => wp_Mod_one n u15.1 u15.2 2 (fun u17 => wp_Mod_one n u17.1 u17.2 0 (fun u19 => wp_Mod_one n u19.1 u19.2 0 (fun u21 => wp_Mod_one n u21.1 u21.2 0 (fun u23 => wp_Mod_check n u23.1 u23.2 12 (fun u25 => K u25))))))))))))
theorem m_head {n : Nat → Nat} {w h : Nat} {mf : Nat → Int32} {K : Int32 × (Nat → Int32) → Prop} (hw : w < 1000) (hh : h < 1000) (h17 : n 17 = 9000) (hp : ∀ mf', Rep (sigN ++ chunk (bodyH w h)) mf' → K (nI (sigN ++ chunk (bodyH w h)).length, mf')) : NX n w h mf K := by
  unfold NX
  have hn : n 17 < 2 ^ 31 := by omega
  have st : wp_Mod_name n (nI ([] : List Nat).length) mf 137 80 78 71 (fun u3 => wp_Mod_name n u3.1 u3.2 13 10 26 10 (fun u5 => wp_Mod_four n u5.1 u5.2 13 (fun u7 => wp_Mod_name n u7.1 u7.2 73 72 68 82 (fun u9 => wp_Mod_four n u9.1 u9.2 (nI w) (fun u11 => wp_Mod_four n u11.1 u11.2 (nI h) (fun u13 => wp_Mod_one n u13.1 u13.2 8 (fun u15 => wp_Mod_one n u15.1 u15.2 2 (fun u17 => wp_Mod_one n u17.1 u17.2 0 (fun u19 => wp_Mod_one n u19.1 u19.2 0 (fun u21 => wp_Mod_one n u21.1 u21.2 0 (fun u23 => wp_Mod_check n u23.1 u23.2 12 (fun u25 => K u25)))))))))))) := by
    have L0 : ([] : List Nat).length = 0 := rfl
    refine m_name' hn nm_s1 rfl rfl rfl rfl (by omega) Rep.nil (fun f1 hr1 => ?_)
    have L1 : ([] ++ be4 2303741511).length = 4 := by rw [List.length_append, be4_len, L0]
    refine m_name' hn nm_s2 rfl rfl rfl rfl (by omega) hr1 (fun f2 hr2 => ?_)
    rw [sig_be] at hr2 ⊢
    have L2 : sigN.length = 8 := rfl
    refine m_four' (v := 13) hn (by omega) hr2 rfl (fun f3 hr3 => ?_)
    have L3 : (sigN ++ be4 13).length = 12 := by rw [List.length_append, be4_len, L2]
    refine m_name' hn nm_IHDR rfl rfl rfl rfl (by omega) hr3 (fun f4 hr4 => ?_)
    have L4 : (sigN ++ be4 13 ++ be4 1229472850).length = 16 := by rw [List.length_append, be4_len, L3]
    refine m_four' (v := w) hn (by omega) hr4 (uN3_nI (by omega)) (fun f5 hr5 => ?_)
    have L5 : (sigN ++ be4 13 ++ be4 1229472850 ++ be4 w).length = 20 := by rw [List.length_append, be4_len, L4]
    refine m_four' (v := h) hn (by omega) hr5 (uN3_nI (by omega)) (fun f6 hr6 => ?_)
    have L6 : (sigN ++ be4 13 ++ be4 1229472850 ++ be4 w ++ be4 h).length = 24 := by rw [List.length_append, be4_len, L5]
    refine m_one' (v := 8) hn (by omega) hr6 (by decide) (fun f7 hr7 => ?_)
    have L7 : (sigN ++ be4 13 ++ be4 1229472850 ++ be4 w ++ be4 h ++ [8]).length = 25 := by rw [List.length_append, L6]; rfl
    refine m_one' (v := 2) hn (by omega) hr7 (by decide) (fun f8 hr8 => ?_)
    have L8 : (sigN ++ be4 13 ++ be4 1229472850 ++ be4 w ++ be4 h ++ [8] ++ [2]).length = 26 := by rw [List.length_append, L7]; rfl
    refine m_one' (v := 0) hn (by omega) hr8 (by decide) (fun f9 hr9 => ?_)
    have L9 : (sigN ++ be4 13 ++ be4 1229472850 ++ be4 w ++ be4 h ++ [8] ++ [2] ++ [0]).length = 27 := by rw [List.length_append, L8]; rfl
    refine m_one' (v := 0) hn (by omega) hr9 (by decide) (fun f10 hr10 => ?_)
    have L10 : (sigN ++ be4 13 ++ be4 1229472850 ++ be4 w ++ be4 h ++ [8] ++ [2] ++ [0] ++ [0]).length = 28 := by rw [List.length_append, L9]; rfl
    refine m_one' (v := 0) hn (by omega) hr10 (by decide) (fun f11 hr11 => ?_)
    have eH : sigN ++ be4 13 ++ be4 1229472850 ++ be4 w ++ be4 h ++ [8] ++ [2] ++ [0] ++ [0] ++ [0] = sigN ++ be4 13 ++ bodyH w h := by
      unfold bodyH hdrN
      simp only [List.append_assoc, List.cons_append, List.nil_append]
    rw [eH] at hr11 ⊢
    have lH : (sigN ++ be4 13 ++ bodyH w h).length = 29 := by rw [List.length_append, L3, bodyH_len]
    refine m_check' (fr := 12) (l := bodyH w h) hn (by omega) (by omega) rfl (drop_app _ _ L3.symm) hr11 (fun f12 hr12 => ?_)
    have eP : sigN ++ be4 13 ++ bodyH w h ++ be4 (uN3 (crcI (bodyH w h))) = sigN ++ chunk (bodyH w h) := by
      unfold chunk
      rw [bodyH_len]
      simp only [List.append_assoc]
    rw [eP] at hr12 ⊢
    exact hp f12 hr12
  exact st
theorem m_put {n : Nat → Nat} {w h : Nat} {col : Nat → Nat → Nat} {mc mr mf : Nat → Int32} {i0 i1 i2 i3 i4 i5 i6 : Int32} {post : Int32 → Int32 × Int32 × Int32 × Int32 × Int32 × Int32 × Int32 × (Nat → Int32) × (Nat → Int32) → Prop} (hd : Dim w h) (h15 : n 15 = 2304) (h16 : n 16 = 6960) (h17 : n 17 = 9000) (hB : ColB col) (hC : Cols w h col mc)
    (hp : ∀ mr' mf', Agr ((3 * w + 1) * h) (RR (Qc col) w) mr' → Rep (fileS w h (RR (Qc col) w) ((3 * w + 1) * h)) mf' → post (nI (fileS w h (RR (Qc col) w) ((3 * w + 1) * h)).length) (0, nI ((3 * w + 1) * h), nI (fileS w h (RR (Qc col) w) ((3 * w + 1) * h)).length, 0, nI (cnt (RR (Qc col) w) ((3 * w + 1) * h) ((3 * w + 1) * h) 0 (0, 0, 0)).1, nI (cnt (RR (Qc col) w) ((3 * w + 1) * h) ((3 * w + 1) * h) 0 (0, 0, 0)).2.1, nI (cnt (RR (Qc col) w) ((3 * w + 1) * h) ((3 * w + 1) * h) 0 (0, 0, 0)).2.2, mr', mf')) :
    wp_Mod_put n i0 (nI w) (nI h) i1 i2 i3 i4 i5 i6 mc mr mf post := by
  obtain ⟨w1, w2, hh1, hh2⟩ := id hd
  have m4 : (3 * w + 1) * h ≤ 145 * 48 := Nat.mul_le_mul (by omega) (by omega)
  have hR := RR_B (Qc col) w
  unfold wp_Mod_put
  refine m_rows hd h15 h16 hB hC (fun mr' hA => ?_)
  have hp := fun mf' => hp mr' mf' hA
  generalize RR (Qc col) w = R at hR hA hp ⊢
  generalize (3 * w + 1) * h = m at m4 hA hp ⊢
  have hpl := packS_len (m := m) (by omega) hR []
  simp only [List.length_nil, Nat.zero_add] at hpl
  refine m_head (by omega) (by omega) h17 (fun f12 hr12 => ?_)
  have lP : (sigN ++ chunk (bodyH w h)).length = 33 := by rw [List.length_append, chunk_len, bodyH_len]; rfl
  generalize hPd : sigN ++ chunk (bodyH w h) = P at hr12 lP ⊢
  -- IDAT
  have hn : n 17 < 2 ^ 31 := by omega
  refine m_four' (v := 0) hn (by omega) hr12 rfl (fun f13 hr13 => ?_)
  have l13 : (P ++ be4 0).length = P.length + 4 := by rw [List.length_append, be4_len]
  refine m_name' hn nm_IDAT rfl rfl rfl rfl (by omega) hr13 (fun f14 hr14 => ?_)
  have l14 : (P ++ be4 0 ++ be4 1229209940).length = (P ++ be4 0).length + 4 := by rw [List.length_append, be4_len]
  refine m_one' (v := 120) hn (by omega) hr14 (by decide) (fun f15 hr15 => ?_)
  have l15 : (P ++ be4 0 ++ be4 1229209940 ++ [120]).length = (P ++ be4 0 ++ be4 1229209940).length + 1 := by rw [List.length_append, List.length_singleton]
  refine m_one' (v := 1) hn (by omega) hr15 (by decide) (fun f16 hr16 => ?_)
  have l16 : (P ++ be4 0 ++ be4 1229209940 ++ [120] ++ [1]).length = (P ++ be4 0 ++ be4 1229209940 ++ [120]).length + 1 := by rw [List.length_append, List.length_singleton]
  refine m_pack (by omega) (by omega) (by omega) (by omega) hR hA (by omega) hr16 (fun f17 hr17 => ?_)
  rw [packS_pre] at hr17 ⊢
  have l17 : (P ++ be4 0 ++ be4 1229209940 ++ [120] ++ [1] ++ packS R m []).length = (P ++ be4 0 ++ be4 1229209940 ++ [120] ++ [1]).length + (packS R m []).length := by rw [List.length_append]
  refine m_sum (by omega) (by omega) (by omega) (by omega) hR hA (by omega) hr17 (fun f18 hr18 => ?_)
  have eD : P ++ be4 0 ++ be4 1229209940 ++ [120] ++ [1] ++ packS R m [] ++ be4 (adlN R m) = P ++ (0 :: 0 :: 0 :: 0 :: bodyD R m) := by
    unfold bodyD
    rw [show be4 0 = [0, 0, 0, 0] from rfl]
    simp only [List.append_assoc, List.cons_append, List.nil_append]
  rw [eD] at hr18
  have lD := bodyD_len R m
  have l18 : (P ++ be4 0 ++ be4 1229209940 ++ [120] ++ [1] ++ packS R m []).length + 4 = P.length + 4 + (bodyD R m).length := by omega
  rw [l18]
  have hv : (bodyD R m).length - 4 < 65536 := by omega
  intro z39 hz39
  have ez : z39 = nI ((bodyD R m).length - 4) := by
    rw [hz39, show (8 : Int32) = nI 8 from rfl, pk_sub (by omega), pk_sub (by omega)]
    congr 1; omega
  intro z40 hz40
  have ez40 : z40 = nI (((bodyD R m).length - 4) / 256) := by
    rw [hz40, ez]
    exact ni_shr (k := 8) (by decide) (by omega)
  rw [show (2 : Int32) = nI 2 from rfl, show (3 : Int32) = nI 3 from rfl, nI_add, nI_add]
  refine ⟨vp_in_nI (by omega) (by omega), ?_⟩
  intro f42 hf42 z43 hz43
  have ez43 : z43 = nI (((bodyD R m).length - 4) % 256) := by
    rw [hz43, ez, ni_255 (by omega)]
  refine ⟨vp_in_nI (by omega) (by omega), ?_⟩
  intro f45 hf45
  rw [nI_clamp (by omega)] at hf42 hf45
  have hr45 : Rep (P ++ (be4 ((bodyD R m).length - 4) ++ bodyD R m)) f45 := by
    have := (hr18.set (i := P.length + 2) (v := ((bodyD R m).length - 4) / 256)).set (i := P.length + 3) (v := ((bodyD R m).length - 4) % 256)
    rw [set23] at this
    rw [hf45, hf42, ez40, ez43]
    have e : P ++ (be4 ((bodyD R m).length - 4) ++ bodyD R m) = P ++ (0 :: 0 :: ((bodyD R m).length - 4) / 256 :: ((bodyD R m).length - 4) % 256 :: bodyD R m) := by
      congr 1
      unfold be4
      simp only [List.cons_append, List.nil_append]
      congr 1
      · omega
      · congr 1
        · omega
        · congr 1
          omega
    rw [e]
    exact this
  have l45 : (P ++ (be4 ((bodyD R m).length - 4) ++ bodyD R m)).length = P.length + 4 + (bodyD R m).length := by
    rw [List.length_append, List.length_append, be4_len]; omega
  rw [show (4 : Int32) = nI 4 from rfl, nI_add, ← l45]
  have d46 : (P ++ (be4 ((bodyD R m).length - 4) ++ bodyD R m)).drop (P.length + 4) = bodyD R m := by
    rw [← List.append_assoc]
    exact drop_app _ _ (by rw [List.length_append, be4_len])
  refine m_check' hn (by omega) (by omega) rfl d46 hr45 (fun f46 hr46 => ?_)
  have e46 : P ++ (be4 ((bodyD R m).length - 4) ++ bodyD R m) ++ be4 (uN3 (crcI (bodyD R m))) = P ++ chunk (bodyD R m) := by
    unfold chunk
    simp only [List.append_assoc]
  rw [e46] at hr46 ⊢
  have l46b : (P ++ chunk (bodyD R m)).length = P.length + 8 + (bodyD R m).length := by rw [List.length_append, chunk_len]; omega
  refine m_four' (v := 0) hn (by omega) hr46 rfl (fun f48 hr48 => ?_)
  have l48 : (P ++ chunk (bodyD R m) ++ be4 0).length = (P ++ chunk (bodyD R m)).length + 4 := by rw [List.length_append, be4_len]
  refine m_name' hn nm_IEND rfl rfl rfl rfl (by omega) hr48 (fun f50 hr50 => ?_)
  have l50 : (P ++ chunk (bodyD R m) ++ be4 0 ++ be4 1229278788).length = (P ++ chunk (bodyD R m) ++ be4 0).length + 4 := by rw [List.length_append, be4_len]
  refine m_check' (fr := (P ++ chunk (bodyD R m) ++ be4 0).length) (l := be4 1229278788) hn (by omega) (by omega) (by rw [l50]; exact (pk_sub (by omega)).trans (congrArg nI (by omega))) (drop_app _ _ rfl) hr50 (fun f52 hr52 => ?_)
  have e52 : P ++ chunk (bodyD R m) ++ be4 0 ++ be4 1229278788 ++ be4 (uN3 (crcI (be4 1229278788))) = fileS w h R m := by
    have hc : chunk (be4 1229278788) = be4 0 ++ be4 1229278788 ++ be4 (uN3 (crcI (be4 1229278788))) := by
      unfold chunk
      rw [be4_len]
    unfold fileS
    rw [hPd, hc]
    simp only [List.append_assoc]
  rw [e52] at hr52 ⊢
  exact hp f52 hr52
