/-! PURE: put of the class -/
theorem w_header {n : Nat → Nat} {tb : Tbs} {w h : Nat} {bs : List Nat} {ob ct : Nat → Int32} {s0 : Int32} {post : Int32 × Int32 × (Nat → Int32) → Prop} (hw : w < 1000) (hh : h < 1000) (ht1 : (tb 1).2 = (5, hdrF)) (hn : n 11 < 2 ^ 30) (h12 : n 12 = 256) (hct : CT ct) (hB : AllB bs) (hl : bs.length + 25 ≤ n 11) (hr : Rep bs ob)
    (hp : ∀ ob' i1, Rep (bs ++ chunk (bodyH w h)) ob' → post (nI (bs ++ chunk (bodyH w h)).length, i1, ob')) : wp_PP_addHeader n tb (nI w) (nI h) (nI bs.length) s0 ob ct post := by
  unfold wp_PP_addHeader
  refine w_open (by omega) (by omega) hr (fun ob1 hr1 => ?_)
  rw [show uN3 1229472850 = 1229472850 from rfl] at hr1
  have l1 : (bs ++ (0 :: 0 :: 0 :: 0 :: be4 1229472850)).length = bs.length + 8 := by simp [be4_len]
  rw [← l1]
  refine w_addNumber (by omega) (by omega) hr1 (fun ob2 hr2 => ?_)
  rw [uN3_nI (by omega)] at hr2
  have l2 : (bs ++ (0 :: 0 :: 0 :: 0 :: be4 1229472850) ++ be4 w).length = (bs ++ (0 :: 0 :: 0 :: 0 :: be4 1229472850)).length + 4 := by rw [List.length_append, be4_len]
  rw [← l2]
  refine w_addNumber (by omega) (by omega) hr2 (fun ob3 hr3 => ?_)
  rw [uN3_nI (by omega)] at hr3
  have l3 : (bs ++ (0 :: 0 :: 0 :: 0 :: be4 1229472850) ++ be4 w ++ be4 h).length = (bs ++ (0 :: 0 :: 0 :: 0 :: be4 1229472850) ++ be4 w).length + 4 := by rw [List.length_append, be4_len]
  rw [← l3]
  refine w_addAll (K := 1) (T := hdrN) (by omega) (by rw [ht1]; rfl) (by decide) (fun j hj => by rw [ht1]; exact hdrF_N j hj) hdrN_B (by show _ + 5 ≤ _; omega) hr3 (fun ob4 hr4 => ?_)
  have e4 : bs ++ (0 :: 0 :: 0 :: 0 :: be4 1229472850) ++ be4 w ++ be4 h ++ hdrN = bs ++ (0 :: 0 :: 0 :: 0 :: bodyH w h) := by
    unfold bodyH
    simp only [List.append_assoc, List.cons_append]
  rw [e4] at hr4 ⊢
  have l4 : (bs ++ (0 :: 0 :: 0 :: 0 :: bodyH w h)).length = bs.length + 4 + (bodyH w h).length := by
    simp only [List.length_append, List.length_cons]; omega
  rw [l4]
  exact w_close hn h12 hct (by rw [bodyH_len]; decide) (by rw [bodyH_len]; omega) hB (bodyH_B w h) hr4 (fun ob5 hr5 => hp ob5 _ hr5)
theorem w_put {n : Nat → Nat} {tb : Tbs} {w h : Nat} {Q : Nat → Nat → Nat} {pb rb fl ob ct nw nx : Nat → Int32} {i0 i1 i2 i3 i4 i5 i6 i7 i8 i9 : Int32} {post : Int32 → Int32 × Int32 × Int32 × Int32 × Int32 × Int32 × Int32 × Int32 × Int32 × Int32 × (Nat → Int32) × (Nat → Int32) × (Nat → Int32) × (Nat → Int32) × (Nat → Int32) → Prop} (hd : Dim w h) (ht0 : (tb 0).2 = (8, sigF)) (ht1 : (tb 1).2 = (5, hdrF)) (ht3 : (tb 3).2 = (2, datF)) (h8 : n 8 = 3 * (w + 1) * (h + 1)) (h9 : n 9 = (3 * w + 1) * h) (h10 : n 10 = h) (h11 : n 11 = 63 + (9 * n 9 + 17) / 8) (h12 : n 12 = 256) (h13 : n 13 = 1024) (h14 : n 14 = n 9) (hct : CT ct) (hQ : QB Q) (hP : Padded w h Q pb)
    (hp : ∀ j0 j1 j2 j3 rb' fl' ob' nw' nx', (∀ y, y < h → fl' y = nI (bf Q w y 4)) → Rep (fileS w h (RR Q w) (n 9)) ob' → post (nI (fileS w h (RR Q w) (n 9)).length) (nI (fileS w h (RR Q w) (n 9)).length, 0, 0, j0, nI (cnt (RR Q w) (n 9) (n 9) 0 (0, 0, 0)).1, nI (cnt (RR Q w) (n 9) (n 9) 0 (0, 0, 0)).2.1, nI (cnt (RR Q w) (n 9) (n 9) 0 (0, 0, 0)).2.2, j1, j2, j3, rb', fl', ob', nw', nx')) :
    wp_PP_put n tb (nI w) (nI h) (nI (3 * (w + 1))) (nI (3 * w)) i0 i1 i2 i3 i4 i5 i6 i7 i8 i9 pb rb fl ob ct nw nx post := by
  obtain ⟨w1, w2, hh1, hh2⟩ := id hd
  have m4 : n 9 ≤ 145 * 48 := by rw [h9]; exact Nat.mul_le_mul (by omega) (by omega)
  have m3 : 4 * 1 ≤ n 9 := by rw [h9]; exact Nat.mul_le_mul (by omega) (by omega)
  have hR := RR_B Q w
  have hpl := packS_len (m := n 9) (by omega) hR []
  simp only [List.length_nil, Nat.zero_add] at hpl
  unfold wp_PP_put
  refine w_make hd h8 h9 h10 hQ hP (fun rb' fl' hA hfl => ?_)
  unfold wp_Out_restart
  refine w_addAll (K := 0) (T := sigN) (bs := []) (by omega) (by rw [ht0]; rfl) (by decide) (fun j hj => by rw [ht0]; exact sigF_N j hj) sigN_B (by show 0 + 8 ≤ _; omega) Rep.nil (fun ob1 hr1 => ?_)
  rw [List.nil_append] at hr1 ⊢
  refine w_header (by omega) (by omega) ht1 (by omega) h12 hct sigN_B (by show 8 + 25 ≤ _; omega) hr1 (fun ob2 s2 hr2 => ?_)
  have hB2 : AllB (sigN ++ chunk (bodyH w h)) := sigN_B.app (chunk_B (bodyH_B w h))
  have l2 : (sigN ++ chunk (bodyH w h)).length = 33 := by rw [List.length_append, chunk_len, bodyH_len]; rfl
  generalize hbs : sigN ++ chunk (bodyH w h) = bs at hr2 hB2 l2 ⊢
  refine w_open (by omega) (by omega) hr2 (fun ob1d hr1 => ?_)
  rw [show uN3 1229209940 = 1229209940 from rfl] at hr1
  have l1 : (bs ++ (0 :: 0 :: 0 :: 0 :: be4 1229209940)).length = bs.length + 8 := by simp [be4_len]
  rw [← l1]
  refine w_addAll (K := 3) (T := datN) (by omega) (by rw [ht3]; rfl) (by decide) (fun j hj => by rw [ht3]; exact datF_N j hj) datN_B (by show _ + 2 ≤ _; omega) hr1 (fun ob2d hr2d => ?_)
  have ld : (bs ++ (0 :: 0 :: 0 :: 0 :: be4 1229209940) ++ datN).length = (bs ++ (0 :: 0 :: 0 :: 0 :: be4 1229209940)).length + 2 := by rw [List.length_append]; rfl
  refine w_pack (by omega) (by omega) h13 h14 (by omega) hR hA (by omega) hr2d (fun ob4 j1 j2 j3 nw' nx' hr4 => ?_)
  rw [packS_pre] at hr4 ⊢
  refine w_rsum (by omega) hR hA ?_
  have l4 : (bs ++ (0 :: 0 :: 0 :: 0 :: be4 1229209940) ++ datN ++ packS (RR Q w) (n 9) []).length = (bs ++ (0 :: 0 :: 0 :: 0 :: be4 1229209940) ++ datN).length + (packS (RR Q w) (n 9) []).length := by rw [List.length_append]
  refine w_addNumber (by omega) (by omega) hr4 (fun ob5 hr5 => ?_)
  rw [uN3_nI (adlN_lt (RR Q w) (n 9))] at hr5
  have e5 : bs ++ (0 :: 0 :: 0 :: 0 :: be4 1229209940) ++ datN ++ packS (RR Q w) (n 9) [] ++ be4 (adlN (RR Q w) (n 9)) = bs ++ (0 :: 0 :: 0 :: 0 :: bodyD (RR Q w) (n 9)) := by
    unfold bodyD datN
    simp only [List.append_assoc, List.cons_append, List.nil_append]
  rw [e5] at hr5
  have l5 : (bs ++ (0 :: 0 :: 0 :: 0 :: be4 1229209940) ++ datN ++ packS (RR Q w) (n 9) []).length + 4 = bs.length + 4 + (bodyD (RR Q w) (n 9)).length := by
    rw [l4, ld, l1, bodyD_len]; omega
  rw [l5]
  refine w_close (by omega) h12 hct (by rw [bodyD_len]; omega) (by rw [bodyD_len]; omega) hB2 (bodyD_B (RR Q w) (n 9)) hr5 (fun ob3 hr3 => ?_)
  subst hbs
  have hB3 : AllB (sigN ++ chunk (bodyH w h) ++ chunk (bodyD (RR Q w) (n 9))) := hB2.app (chunk_B (bodyD_B _ _))
  have l3 : (sigN ++ chunk (bodyH w h) ++ chunk (bodyD (RR Q w) (n 9))).length = 51 + (packS (RR Q w) (n 9) []).length := by rw [List.length_append, chunk_len, bodyD_len, l2]; omega
  refine w_open (by omega) (by omega) hr3 (fun ob4 hr4 => ?_)
  rw [show uN3 1229278788 = 1229278788 from rfl] at hr4
  have e4 : nI ((sigN ++ chunk (bodyH w h) ++ chunk (bodyD (RR Q w) (n 9))).length + 8) = nI ((sigN ++ chunk (bodyH w h) ++ chunk (bodyD (RR Q w) (n 9))).length + 4 + (be4 1229278788).length) := by rw [be4_len]
  rw [e4]
  refine w_close (by omega) h12 hct (by rw [be4_len]; decide) (by rw [be4_len]; omega) hB3 (be4_B _) hr4 (fun ob5 hr5 => ?_)
  exact hp _ _ _ _ _ _ _ _ _ hfl hr5
