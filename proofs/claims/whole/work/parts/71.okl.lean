theorem rp_okl0 : (((rp_mi 230).drop 0).take 36).all (fun e => rp_okE 230 e && rp_decE 230 e) = true := by decide +kernel
theorem rp_okl1 : (((rp_mi 230).drop 36).take 36).all (fun e => rp_okE 230 e && rp_decE 230 e) = true := by decide +kernel
theorem rp_okl2 : (((rp_mi 230).drop 72).take 36).all (fun e => rp_okE 230 e && rp_decE 230 e) = true := by decide +kernel
theorem rp_okl3 : (((rp_mi 230).drop 108).take 36).all (fun e => rp_okE 230 e && rp_decE 230 e) = true := by decide +kernel
theorem rp_okl4 : (((rp_mi 230).drop 144).take 36).all (fun e => rp_okE 230 e && rp_decE 230 e) = true := by decide +kernel
theorem rp_okl5 : (((rp_mi 230).drop 180).take 36).all (fun e => rp_okE 230 e && rp_decE 230 e) = true := by decide +kernel
theorem rp_okl6 : (((rp_mi 230).drop 216).take 36).all (fun e => rp_okE 230 e && rp_decE 230 e) = true := by decide +kernel
theorem rp_okl7 : (((rp_mi 230).drop 252).take 36).all (fun e => rp_okE 230 e && rp_decE 230 e) = true := by decide +kernel
theorem rp_okl8 : (((rp_mi 230).drop 288).take 36).all (fun e => rp_okE 230 e && rp_decE 230 e) = true := by decide +kernel
theorem rp_okl9 : (((rp_mi 230).drop 324).take 36).all (fun e => rp_okE 230 e && rp_decE 230 e) = true := by decide +kernel
theorem rp_okl10 : (((rp_mi 230).drop 360).take 36).all (fun e => rp_okE 230 e && rp_decE 230 e) = true := by decide +kernel
theorem rp_okl11 : (((rp_mi 230).drop 396).take 36).all (fun e => rp_okE 230 e && rp_decE 230 e) = true := by decide +kernel
theorem rp_okl12 : (((rp_mi 230).drop 432).take 36).all (fun e => rp_okE 230 e && rp_decE 230 e) = true := by decide +kernel
theorem rp_okl13 : (((rp_mi 230).drop 468).take 36).all (fun e => rp_okE 230 e && rp_decE 230 e) = true := by decide +kernel
theorem rp_okl14 : (((rp_mi 230).drop 504).take 36).all (fun e => rp_okE 230 e && rp_decE 230 e) = true := by decide +kernel
theorem rp_okl15 : (((rp_mi 230).drop 540).take 36).all (fun e => rp_okE 230 e && rp_decE 230 e) = true := by decide +kernel
theorem rp_okl16 : (((rp_mi 230).drop 576).take 36).all (fun e => rp_okE 230 e && rp_decE 230 e) = true := by decide +kernel
theorem rp_okl17 : (((rp_mi 230).drop 612).take 36).all (fun e => rp_okE 230 e && rp_decE 230 e) = true := by decide +kernel
theorem rp_okl18 : (((rp_mi 230).drop 648).take 36).all (fun e => rp_okE 230 e && rp_decE 230 e) = true := by decide +kernel
theorem rp_okl19 : (((rp_mi 230).drop 684).take 36).all (fun e => rp_okE 230 e && rp_decE 230 e) = true := by decide +kernel
theorem rp_okl20 : (((rp_mi 230).drop 720).take 36).all (fun e => rp_okE 230 e && rp_decE 230 e) = true := by decide +kernel
theorem rp_okl21 : (((rp_mi 230).drop 756).take 36).all (fun e => rp_okE 230 e && rp_decE 230 e) = true := by decide +kernel
theorem rp_okl22 : (((rp_mi 230).drop 792).take 36).all (fun e => rp_okE 230 e && rp_decE 230 e) = true := by decide +kernel
theorem rp_okl23 : (((rp_mi 230).drop 828).take 36).all (fun e => rp_okE 230 e && rp_decE 230 e) = true := by decide +kernel
theorem rp_okl24 : (((rp_mi 230).drop 864).take 36).all (fun e => rp_okE 230 e && rp_decE 230 e) = true := by decide +kernel
theorem rp_okl25 : (((rp_mi 230).drop 900).take 36).all (fun e => rp_okE 230 e && rp_decE 230 e) = true := by decide +kernel
theorem rp_okL : rp_okM 230 = true := by
  have hl : (rp_mi 230).length = 936 := by decide +kernel
  refine List.all_eq_true.mpr fun e he => ?_
  obtain ⟨i, hi, rfl⟩ := List.mem_iff_getElem.mp he
  have key : ∀ a, a ≤ i → i < a + 36 → (((rp_mi 230).drop a).take 36).all (fun e => rp_okE 230 e && rp_decE 230 e) = true → (rp_okE 230 (rp_mi 230)[i] && rp_decE 230 (rp_mi 230)[i]) = true := by
    intro a h1 h2 h
    refine List.all_eq_true.mp h _ (List.mem_iff_getElem?.mpr ⟨i - a, ?_⟩)
    rw [List.getElem?_take_of_lt (by omega), List.getElem?_drop, show a + (i - a) = i by omega, List.getElem?_eq_getElem hi]
  rw [hl] at hi
  by_cases h0 : i < 36
  · exact key 0 (by omega) (by omega) rp_okl0
  by_cases h1 : i < 72
  · exact key 36 (by omega) (by omega) rp_okl1
  by_cases h2 : i < 108
  · exact key 72 (by omega) (by omega) rp_okl2
  by_cases h3 : i < 144
  · exact key 108 (by omega) (by omega) rp_okl3
  by_cases h4 : i < 180
  · exact key 144 (by omega) (by omega) rp_okl4
  by_cases h5 : i < 216
  · exact key 180 (by omega) (by omega) rp_okl5
  by_cases h6 : i < 252
  · exact key 216 (by omega) (by omega) rp_okl6
  by_cases h7 : i < 288
  · exact key 252 (by omega) (by omega) rp_okl7
  by_cases h8 : i < 324
  · exact key 288 (by omega) (by omega) rp_okl8
  by_cases h9 : i < 360
  · exact key 324 (by omega) (by omega) rp_okl9
  by_cases h10 : i < 396
  · exact key 360 (by omega) (by omega) rp_okl10
  by_cases h11 : i < 432
  · exact key 396 (by omega) (by omega) rp_okl11
  by_cases h12 : i < 468
  · exact key 432 (by omega) (by omega) rp_okl12
  by_cases h13 : i < 504
  · exact key 468 (by omega) (by omega) rp_okl13
  by_cases h14 : i < 540
  · exact key 504 (by omega) (by omega) rp_okl14
  by_cases h15 : i < 576
  · exact key 540 (by omega) (by omega) rp_okl15
  by_cases h16 : i < 612
  · exact key 576 (by omega) (by omega) rp_okl16
  by_cases h17 : i < 648
  · exact key 612 (by omega) (by omega) rp_okl17
  by_cases h18 : i < 684
  · exact key 648 (by omega) (by omega) rp_okl18
  by_cases h19 : i < 720
  · exact key 684 (by omega) (by omega) rp_okl19
  by_cases h20 : i < 756
  · exact key 720 (by omega) (by omega) rp_okl20
  by_cases h21 : i < 792
  · exact key 756 (by omega) (by omega) rp_okl21
  by_cases h22 : i < 828
  · exact key 792 (by omega) (by omega) rp_okl22
  by_cases h23 : i < 864
  · exact key 828 (by omega) (by omega) rp_okl23
  by_cases h24 : i < 900
  · exact key 864 (by omega) (by omega) rp_okl24
  by_cases h25 : i < 936
  · exact key 900 (by omega) (by omega) rp_okl25
  omega
theorem rp_oks : ∀ j, j < 231 → rp_okM j = true := by
  intro j hj
  have e : List.range 231 = [0, 1, 2, 3, 4, 5, 6, 7] ++ ([8, 9, 10, 11, 12, 13, 14, 15] ++ ([16, 17, 18, 19, 20, 21, 22, 23] ++ ([24, 25, 26, 27, 28, 29, 30, 31] ++ ([32, 33, 34, 35, 36, 37, 38, 39] ++ ([40, 41, 42, 43, 44, 45, 46, 47] ++ ([48, 49, 50, 51, 52, 53, 54, 55] ++ ([56, 57, 58, 59, 60, 61, 62, 63] ++ ([64, 65, 66, 67, 68, 69, 70, 71] ++ ([72, 73, 74, 75, 76, 77, 78, 79] ++ ([80, 81, 82, 83, 84, 85, 86, 87] ++ ([88, 89, 90, 91, 92, 93, 94, 95] ++ ([96, 97, 98, 99, 100, 101, 102, 103] ++ ([104, 105, 106, 107, 108, 109, 110, 111] ++ ([112, 113, 114, 115, 116, 117, 118, 119] ++ ([120, 121, 122, 123, 124, 125, 126, 127] ++ ([128, 129, 130, 131, 132, 133, 134, 135] ++ ([136, 137, 138, 139, 140, 141, 142, 143] ++ ([144, 145, 146, 147, 148, 149, 150, 151] ++ ([152, 153, 154, 155, 156, 157, 158, 159] ++ ([160, 161, 162, 163, 164, 165, 166, 167] ++ ([168, 169, 170, 171, 172, 173, 174, 175] ++ ([176, 177, 178, 179, 180, 181, 182, 183] ++ ([184, 185, 186, 187, 188, 189, 190, 191] ++ ([192, 193, 194, 195, 196, 197, 198, 199] ++ ([200, 201, 202, 203, 204, 205, 206, 207] ++ ([208, 209, 210, 211, 212, 213, 214, 215] ++ ([216, 217, 218, 219, 220, 221, 222, 223] ++ ([224, 225, 226, 227, 228, 229] ++ [230])))))))))))))))))))))))))))) := by decide +kernel
  have h : ∀ j ∈ [0, 1, 2, 3, 4, 5, 6, 7] ++ ([8, 9, 10, 11, 12, 13, 14, 15] ++ ([16, 17, 18, 19, 20, 21, 22, 23] ++ ([24, 25, 26, 27, 28, 29, 30, 31] ++ ([32, 33, 34, 35, 36, 37, 38, 39] ++ ([40, 41, 42, 43, 44, 45, 46, 47] ++ ([48, 49, 50, 51, 52, 53, 54, 55] ++ ([56, 57, 58, 59, 60, 61, 62, 63] ++ ([64, 65, 66, 67, 68, 69, 70, 71] ++ ([72, 73, 74, 75, 76, 77, 78, 79] ++ ([80, 81, 82, 83, 84, 85, 86, 87] ++ ([88, 89, 90, 91, 92, 93, 94, 95] ++ ([96, 97, 98, 99, 100, 101, 102, 103] ++ ([104, 105, 106, 107, 108, 109, 110, 111] ++ ([112, 113, 114, 115, 116, 117, 118, 119] ++ ([120, 121, 122, 123, 124, 125, 126, 127] ++ ([128, 129, 130, 131, 132, 133, 134, 135] ++ ([136, 137, 138, 139, 140, 141, 142, 143] ++ ([144, 145, 146, 147, 148, 149, 150, 151] ++ ([152, 153, 154, 155, 156, 157, 158, 159] ++ ([160, 161, 162, 163, 164, 165, 166, 167] ++ ([168, 169, 170, 171, 172, 173, 174, 175] ++ ([176, 177, 178, 179, 180, 181, 182, 183] ++ ([184, 185, 186, 187, 188, 189, 190, 191] ++ ([192, 193, 194, 195, 196, 197, 198, 199] ++ ([200, 201, 202, 203, 204, 205, 206, 207] ++ ([208, 209, 210, 211, 212, 213, 214, 215] ++ ([216, 217, 218, 219, 220, 221, 222, 223] ++ ([224, 225, 226, 227, 228, 229] ++ [230])))))))))))))))))))))))))))), rp_okM j = true := List.forall_mem_append.mpr ⟨rp_okg0, List.forall_mem_append.mpr ⟨rp_okg1, List.forall_mem_append.mpr ⟨rp_okg2, List.forall_mem_append.mpr ⟨rp_okg3, List.forall_mem_append.mpr ⟨rp_okg4, List.forall_mem_append.mpr ⟨rp_okg5, List.forall_mem_append.mpr ⟨rp_okg6, List.forall_mem_append.mpr ⟨rp_okg7, List.forall_mem_append.mpr ⟨rp_okg8, List.forall_mem_append.mpr ⟨rp_okg9, List.forall_mem_append.mpr ⟨rp_okg10, List.forall_mem_append.mpr ⟨rp_okg11, List.forall_mem_append.mpr ⟨rp_okg12, List.forall_mem_append.mpr ⟨rp_okg13, List.forall_mem_append.mpr ⟨rp_okg14, List.forall_mem_append.mpr ⟨rp_okg15, List.forall_mem_append.mpr ⟨rp_okg16, List.forall_mem_append.mpr ⟨rp_okg17, List.forall_mem_append.mpr ⟨rp_okg18, List.forall_mem_append.mpr ⟨rp_okg19, List.forall_mem_append.mpr ⟨rp_okg20, List.forall_mem_append.mpr ⟨rp_okg21, List.forall_mem_append.mpr ⟨rp_okg22, List.forall_mem_append.mpr ⟨rp_okg23, List.forall_mem_append.mpr ⟨rp_okg24, List.forall_mem_append.mpr ⟨rp_okg25, List.forall_mem_append.mpr ⟨rp_okg26, List.forall_mem_append.mpr ⟨rp_okg27, List.forall_mem_append.mpr ⟨rp_okg28, fun _ h => by rw [List.mem_singleton] at h; rw [h]; exact rp_okL⟩⟩⟩⟩⟩⟩⟩⟩⟩⟩⟩⟩⟩⟩⟩⟩⟩⟩⟩⟩⟩⟩⟩⟩⟩⟩⟩⟩⟩
  exact h j (e ▸ List.mem_range.mpr hj)
