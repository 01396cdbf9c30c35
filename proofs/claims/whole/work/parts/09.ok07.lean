theorem okm_0 : ([0, 1, 2, 3, 4, 5, 6, 7, 8, 9, 10, 11, 12, 13, 14, 15, 16, 17, 18, 19] : List Nat).all m_okM = true := by decide +kernel
theorem okm_1 : ([20, 21, 22, 23, 24, 25, 26, 27, 28, 29, 30, 31, 32, 33, 34, 35, 36, 37, 38, 39] : List Nat).all m_okM = true := by decide +kernel
theorem okm_2 : ([40, 41, 42, 43, 44, 45, 46, 47, 48, 49, 50, 51, 52, 53, 54, 55, 56, 57, 58, 59] : List Nat).all m_okM = true := by decide +kernel
theorem okm_3 : ([60, 61, 62, 63, 64, 65, 66, 67, 68, 69, 70, 71, 72, 73, 74, 75, 76, 77, 78, 79] : List Nat).all m_okM = true := by decide +kernel
theorem okm_4 : ([80, 81, 82, 83, 84, 85, 86, 87, 88, 89, 90, 91, 92, 93, 94, 95, 96, 97, 99, 100] : List Nat).all m_okM = true := by decide +kernel
theorem okm_5 : ([101, 102, 103, 104, 105, 106, 107, 108, 109, 110, 111, 112, 113, 114, 115, 116, 117, 118, 119, 120] : List Nat).all m_okM = true := by decide +kernel
theorem okm_6 : ([121, 122, 123, 124, 125, 126, 127, 128, 129, 130, 131, 132, 133, 134, 135, 136, 137, 138, 139, 140] : List Nat).all m_okM = true := by decide +kernel
theorem okm_7 : ([141, 142, 143, 144, 145, 146, 147, 148, 149, 150, 151, 152, 153, 154, 155, 156, 157, 158, 159, 160] : List Nat).all m_okM = true := by decide +kernel
theorem okm_8 : ([161, 162, 163, 164, 165, 166, 167, 168, 169, 170, 171, 172, 173, 174, 175, 176, 177, 178, 179, 180] : List Nat).all m_okM = true := by decide +kernel
theorem okm_9 : ([181, 182, 183, 184, 185, 186, 187, 188, 189, 190, 191, 192, 193, 194, 195, 196, 197, 198, 199, 200] : List Nat).all m_okM = true := by decide +kernel
theorem okm_10 : ([201, 202, 203, 204, 205, 206, 207, 208, 209, 210, 211, 212, 213, 214, 215, 216, 217, 218, 219, 220] : List Nat).all m_okM = true := by decide +kernel
theorem okm_11 : ([221, 222, 223, 224, 225, 226, 227, 228, 229, 230, 231, 232, 233, 234, 235, 236, 237, 238, 239, 240] : List Nat).all m_okM = true := by decide +kernel
theorem okm_12 : ([241, 242, 243, 244, 245, 246, 247, 248, 249, 250, 251, 252, 253, 254, 255, 256, 257, 258] : List Nat).all m_okM = true := by decide +kernel
theorem okM_all (m : Nat) (h : m < 260) (hl : ¬ m = 259) (hn : ¬ m = 98) : m_okM m = true := by
  rcases Nat.lt_or_ge m 130 with h1 | h1
  · rcases Nat.lt_or_ge m 65 with h2 | h2
    · rcases Nat.lt_or_ge m 32 with h3 | h3
      · rcases Nat.lt_or_ge m 16 with h4 | h4
        · rcases Nat.lt_or_ge m 8 with h5 | h5
          · rcases Nat.lt_or_ge m 4 with h6 | h6
            · rcases Nat.lt_or_ge m 2 with h7 | h7
              · rcases Nat.lt_or_ge m 1 with h8 | h8
                · obtain rfl : m = 0 := by omega; exact List.all_eq_true.mp okm_0 0 (by decide)
                · obtain rfl : m = 1 := by omega; exact List.all_eq_true.mp okm_0 1 (by decide)
              · rcases Nat.lt_or_ge m 3 with h8 | h8
                · obtain rfl : m = 2 := by omega; exact List.all_eq_true.mp okm_0 2 (by decide)
                · obtain rfl : m = 3 := by omega; exact List.all_eq_true.mp okm_0 3 (by decide)
            · rcases Nat.lt_or_ge m 6 with h7 | h7
              · rcases Nat.lt_or_ge m 5 with h8 | h8
                · obtain rfl : m = 4 := by omega; exact List.all_eq_true.mp okm_0 4 (by decide)
                · obtain rfl : m = 5 := by omega; exact List.all_eq_true.mp okm_0 5 (by decide)
              · rcases Nat.lt_or_ge m 7 with h8 | h8
                · obtain rfl : m = 6 := by omega; exact List.all_eq_true.mp okm_0 6 (by decide)
                · obtain rfl : m = 7 := by omega; exact List.all_eq_true.mp okm_0 7 (by decide)
          · rcases Nat.lt_or_ge m 12 with h6 | h6
            · rcases Nat.lt_or_ge m 10 with h7 | h7
              · rcases Nat.lt_or_ge m 9 with h8 | h8
                · obtain rfl : m = 8 := by omega; exact List.all_eq_true.mp okm_0 8 (by decide)
                · obtain rfl : m = 9 := by omega; exact List.all_eq_true.mp okm_0 9 (by decide)
              · rcases Nat.lt_or_ge m 11 with h8 | h8
                · obtain rfl : m = 10 := by omega; exact List.all_eq_true.mp okm_0 10 (by decide)
                · obtain rfl : m = 11 := by omega; exact List.all_eq_true.mp okm_0 11 (by decide)
            · rcases Nat.lt_or_ge m 14 with h7 | h7
              · rcases Nat.lt_or_ge m 13 with h8 | h8
                · obtain rfl : m = 12 := by omega; exact List.all_eq_true.mp okm_0 12 (by decide)
                · obtain rfl : m = 13 := by omega; exact List.all_eq_true.mp okm_0 13 (by decide)
              · rcases Nat.lt_or_ge m 15 with h8 | h8
                · obtain rfl : m = 14 := by omega; exact List.all_eq_true.mp okm_0 14 (by decide)
                · obtain rfl : m = 15 := by omega; exact List.all_eq_true.mp okm_0 15 (by decide)
        · rcases Nat.lt_or_ge m 24 with h5 | h5
          · rcases Nat.lt_or_ge m 20 with h6 | h6
            · rcases Nat.lt_or_ge m 18 with h7 | h7
              · rcases Nat.lt_or_ge m 17 with h8 | h8
                · obtain rfl : m = 16 := by omega; exact List.all_eq_true.mp okm_0 16 (by decide)
                · obtain rfl : m = 17 := by omega; exact List.all_eq_true.mp okm_0 17 (by decide)
              · rcases Nat.lt_or_ge m 19 with h8 | h8
                · obtain rfl : m = 18 := by omega; exact List.all_eq_true.mp okm_0 18 (by decide)
                · obtain rfl : m = 19 := by omega; exact List.all_eq_true.mp okm_0 19 (by decide)
            · rcases Nat.lt_or_ge m 22 with h7 | h7
              · rcases Nat.lt_or_ge m 21 with h8 | h8
                · obtain rfl : m = 20 := by omega; exact List.all_eq_true.mp okm_1 20 (by decide)
                · obtain rfl : m = 21 := by omega; exact List.all_eq_true.mp okm_1 21 (by decide)
              · rcases Nat.lt_or_ge m 23 with h8 | h8
                · obtain rfl : m = 22 := by omega; exact List.all_eq_true.mp okm_1 22 (by decide)
                · obtain rfl : m = 23 := by omega; exact List.all_eq_true.mp okm_1 23 (by decide)
          · rcases Nat.lt_or_ge m 28 with h6 | h6
            · rcases Nat.lt_or_ge m 26 with h7 | h7
              · rcases Nat.lt_or_ge m 25 with h8 | h8
                · obtain rfl : m = 24 := by omega; exact List.all_eq_true.mp okm_1 24 (by decide)
                · obtain rfl : m = 25 := by omega; exact List.all_eq_true.mp okm_1 25 (by decide)
              · rcases Nat.lt_or_ge m 27 with h8 | h8
                · obtain rfl : m = 26 := by omega; exact List.all_eq_true.mp okm_1 26 (by decide)
                · obtain rfl : m = 27 := by omega; exact List.all_eq_true.mp okm_1 27 (by decide)
            · rcases Nat.lt_or_ge m 30 with h7 | h7
              · rcases Nat.lt_or_ge m 29 with h8 | h8
                · obtain rfl : m = 28 := by omega; exact List.all_eq_true.mp okm_1 28 (by decide)
                · obtain rfl : m = 29 := by omega; exact List.all_eq_true.mp okm_1 29 (by decide)
              · rcases Nat.lt_or_ge m 31 with h8 | h8
                · obtain rfl : m = 30 := by omega; exact List.all_eq_true.mp okm_1 30 (by decide)
                · obtain rfl : m = 31 := by omega; exact List.all_eq_true.mp okm_1 31 (by decide)
      · rcases Nat.lt_or_ge m 48 with h4 | h4
        · rcases Nat.lt_or_ge m 40 with h5 | h5
          · rcases Nat.lt_or_ge m 36 with h6 | h6
            · rcases Nat.lt_or_ge m 34 with h7 | h7
              · rcases Nat.lt_or_ge m 33 with h8 | h8
                · obtain rfl : m = 32 := by omega; exact List.all_eq_true.mp okm_1 32 (by decide)
                · obtain rfl : m = 33 := by omega; exact List.all_eq_true.mp okm_1 33 (by decide)
              · rcases Nat.lt_or_ge m 35 with h8 | h8
                · obtain rfl : m = 34 := by omega; exact List.all_eq_true.mp okm_1 34 (by decide)
                · obtain rfl : m = 35 := by omega; exact List.all_eq_true.mp okm_1 35 (by decide)
            · rcases Nat.lt_or_ge m 38 with h7 | h7
              · rcases Nat.lt_or_ge m 37 with h8 | h8
                · obtain rfl : m = 36 := by omega; exact List.all_eq_true.mp okm_1 36 (by decide)
                · obtain rfl : m = 37 := by omega; exact List.all_eq_true.mp okm_1 37 (by decide)
              · rcases Nat.lt_or_ge m 39 with h8 | h8
                · obtain rfl : m = 38 := by omega; exact List.all_eq_true.mp okm_1 38 (by decide)
                · obtain rfl : m = 39 := by omega; exact List.all_eq_true.mp okm_1 39 (by decide)
          · rcases Nat.lt_or_ge m 44 with h6 | h6
            · rcases Nat.lt_or_ge m 42 with h7 | h7
              · rcases Nat.lt_or_ge m 41 with h8 | h8
                · obtain rfl : m = 40 := by omega; exact List.all_eq_true.mp okm_2 40 (by decide)
                · obtain rfl : m = 41 := by omega; exact List.all_eq_true.mp okm_2 41 (by decide)
              · rcases Nat.lt_or_ge m 43 with h8 | h8
                · obtain rfl : m = 42 := by omega; exact List.all_eq_true.mp okm_2 42 (by decide)
                · obtain rfl : m = 43 := by omega; exact List.all_eq_true.mp okm_2 43 (by decide)
            · rcases Nat.lt_or_ge m 46 with h7 | h7
              · rcases Nat.lt_or_ge m 45 with h8 | h8
                · obtain rfl : m = 44 := by omega; exact List.all_eq_true.mp okm_2 44 (by decide)
                · obtain rfl : m = 45 := by omega; exact List.all_eq_true.mp okm_2 45 (by decide)
              · rcases Nat.lt_or_ge m 47 with h8 | h8
                · obtain rfl : m = 46 := by omega; exact List.all_eq_true.mp okm_2 46 (by decide)
                · obtain rfl : m = 47 := by omega; exact List.all_eq_true.mp okm_2 47 (by decide)
        · rcases Nat.lt_or_ge m 56 with h5 | h5
          · rcases Nat.lt_or_ge m 52 with h6 | h6
            · rcases Nat.lt_or_ge m 50 with h7 | h7
              · rcases Nat.lt_or_ge m 49 with h8 | h8
                · obtain rfl : m = 48 := by omega; exact List.all_eq_true.mp okm_2 48 (by decide)
                · obtain rfl : m = 49 := by omega; exact List.all_eq_true.mp okm_2 49 (by decide)
              · rcases Nat.lt_or_ge m 51 with h8 | h8
                · obtain rfl : m = 50 := by omega; exact List.all_eq_true.mp okm_2 50 (by decide)
                · obtain rfl : m = 51 := by omega; exact List.all_eq_true.mp okm_2 51 (by decide)
            · rcases Nat.lt_or_ge m 54 with h7 | h7
              · rcases Nat.lt_or_ge m 53 with h8 | h8
                · obtain rfl : m = 52 := by omega; exact List.all_eq_true.mp okm_2 52 (by decide)
                · obtain rfl : m = 53 := by omega; exact List.all_eq_true.mp okm_2 53 (by decide)
              · rcases Nat.lt_or_ge m 55 with h8 | h8
                · obtain rfl : m = 54 := by omega; exact List.all_eq_true.mp okm_2 54 (by decide)
                · obtain rfl : m = 55 := by omega; exact List.all_eq_true.mp okm_2 55 (by decide)
          · rcases Nat.lt_or_ge m 60 with h6 | h6
            · rcases Nat.lt_or_ge m 58 with h7 | h7
              · rcases Nat.lt_or_ge m 57 with h8 | h8
                · obtain rfl : m = 56 := by omega; exact List.all_eq_true.mp okm_2 56 (by decide)
                · obtain rfl : m = 57 := by omega; exact List.all_eq_true.mp okm_2 57 (by decide)
              · rcases Nat.lt_or_ge m 59 with h8 | h8
                · obtain rfl : m = 58 := by omega; exact List.all_eq_true.mp okm_2 58 (by decide)
                · obtain rfl : m = 59 := by omega; exact List.all_eq_true.mp okm_2 59 (by decide)
            · rcases Nat.lt_or_ge m 62 with h7 | h7
              · rcases Nat.lt_or_ge m 61 with h8 | h8
                · obtain rfl : m = 60 := by omega; exact List.all_eq_true.mp okm_3 60 (by decide)
                · obtain rfl : m = 61 := by omega; exact List.all_eq_true.mp okm_3 61 (by decide)
              · rcases Nat.lt_or_ge m 63 with h8 | h8
                · obtain rfl : m = 62 := by omega; exact List.all_eq_true.mp okm_3 62 (by decide)
                · rcases Nat.lt_or_ge m 64 with h9 | h9
                  · obtain rfl : m = 63 := by omega; exact List.all_eq_true.mp okm_3 63 (by decide)
                  · obtain rfl : m = 64 := by omega; exact List.all_eq_true.mp okm_3 64 (by decide)
    · rcases Nat.lt_or_ge m 97 with h3 | h3
      · rcases Nat.lt_or_ge m 81 with h4 | h4
        · rcases Nat.lt_or_ge m 73 with h5 | h5
          · rcases Nat.lt_or_ge m 69 with h6 | h6
            · rcases Nat.lt_or_ge m 67 with h7 | h7
              · rcases Nat.lt_or_ge m 66 with h8 | h8
                · obtain rfl : m = 65 := by omega; exact List.all_eq_true.mp okm_3 65 (by decide)
                · obtain rfl : m = 66 := by omega; exact List.all_eq_true.mp okm_3 66 (by decide)
              · rcases Nat.lt_or_ge m 68 with h8 | h8
                · obtain rfl : m = 67 := by omega; exact List.all_eq_true.mp okm_3 67 (by decide)
                · obtain rfl : m = 68 := by omega; exact List.all_eq_true.mp okm_3 68 (by decide)
            · rcases Nat.lt_or_ge m 71 with h7 | h7
              · rcases Nat.lt_or_ge m 70 with h8 | h8
                · obtain rfl : m = 69 := by omega; exact List.all_eq_true.mp okm_3 69 (by decide)
                · obtain rfl : m = 70 := by omega; exact List.all_eq_true.mp okm_3 70 (by decide)
              · rcases Nat.lt_or_ge m 72 with h8 | h8
                · obtain rfl : m = 71 := by omega; exact List.all_eq_true.mp okm_3 71 (by decide)
                · obtain rfl : m = 72 := by omega; exact List.all_eq_true.mp okm_3 72 (by decide)
          · rcases Nat.lt_or_ge m 77 with h6 | h6
            · rcases Nat.lt_or_ge m 75 with h7 | h7
              · rcases Nat.lt_or_ge m 74 with h8 | h8
                · obtain rfl : m = 73 := by omega; exact List.all_eq_true.mp okm_3 73 (by decide)
                · obtain rfl : m = 74 := by omega; exact List.all_eq_true.mp okm_3 74 (by decide)
              · rcases Nat.lt_or_ge m 76 with h8 | h8
                · obtain rfl : m = 75 := by omega; exact List.all_eq_true.mp okm_3 75 (by decide)
                · obtain rfl : m = 76 := by omega; exact List.all_eq_true.mp okm_3 76 (by decide)
            · rcases Nat.lt_or_ge m 79 with h7 | h7
              · rcases Nat.lt_or_ge m 78 with h8 | h8
                · obtain rfl : m = 77 := by omega; exact List.all_eq_true.mp okm_3 77 (by decide)
                · obtain rfl : m = 78 := by omega; exact List.all_eq_true.mp okm_3 78 (by decide)
              · rcases Nat.lt_or_ge m 80 with h8 | h8
                · obtain rfl : m = 79 := by omega; exact List.all_eq_true.mp okm_3 79 (by decide)
                · obtain rfl : m = 80 := by omega; exact List.all_eq_true.mp okm_4 80 (by decide)
        · rcases Nat.lt_or_ge m 89 with h5 | h5
          · rcases Nat.lt_or_ge m 85 with h6 | h6
            · rcases Nat.lt_or_ge m 83 with h7 | h7
              · rcases Nat.lt_or_ge m 82 with h8 | h8
                · obtain rfl : m = 81 := by omega; exact List.all_eq_true.mp okm_4 81 (by decide)
                · obtain rfl : m = 82 := by omega; exact List.all_eq_true.mp okm_4 82 (by decide)
              · rcases Nat.lt_or_ge m 84 with h8 | h8
                · obtain rfl : m = 83 := by omega; exact List.all_eq_true.mp okm_4 83 (by decide)
                · obtain rfl : m = 84 := by omega; exact List.all_eq_true.mp okm_4 84 (by decide)
            · rcases Nat.lt_or_ge m 87 with h7 | h7
              · rcases Nat.lt_or_ge m 86 with h8 | h8
                · obtain rfl : m = 85 := by omega; exact List.all_eq_true.mp okm_4 85 (by decide)
                · obtain rfl : m = 86 := by omega; exact List.all_eq_true.mp okm_4 86 (by decide)
              · rcases Nat.lt_or_ge m 88 with h8 | h8
                · obtain rfl : m = 87 := by omega; exact List.all_eq_true.mp okm_4 87 (by decide)
                · obtain rfl : m = 88 := by omega; exact List.all_eq_true.mp okm_4 88 (by decide)
          · rcases Nat.lt_or_ge m 93 with h6 | h6
            · rcases Nat.lt_or_ge m 91 with h7 | h7
              · rcases Nat.lt_or_ge m 90 with h8 | h8
                · obtain rfl : m = 89 := by omega; exact List.all_eq_true.mp okm_4 89 (by decide)
                · obtain rfl : m = 90 := by omega; exact List.all_eq_true.mp okm_4 90 (by decide)
              · rcases Nat.lt_or_ge m 92 with h8 | h8
                · obtain rfl : m = 91 := by omega; exact List.all_eq_true.mp okm_4 91 (by decide)
                · obtain rfl : m = 92 := by omega; exact List.all_eq_true.mp okm_4 92 (by decide)
            · rcases Nat.lt_or_ge m 95 with h7 | h7
              · rcases Nat.lt_or_ge m 94 with h8 | h8
                · obtain rfl : m = 93 := by omega; exact List.all_eq_true.mp okm_4 93 (by decide)
                · obtain rfl : m = 94 := by omega; exact List.all_eq_true.mp okm_4 94 (by decide)
              · rcases Nat.lt_or_ge m 96 with h8 | h8
                · obtain rfl : m = 95 := by omega; exact List.all_eq_true.mp okm_4 95 (by decide)
                · obtain rfl : m = 96 := by omega; exact List.all_eq_true.mp okm_4 96 (by decide)
      · rcases Nat.lt_or_ge m 113 with h4 | h4
        · rcases Nat.lt_or_ge m 105 with h5 | h5
          · rcases Nat.lt_or_ge m 101 with h6 | h6
            · rcases Nat.lt_or_ge m 99 with h7 | h7
              · rcases Nat.lt_or_ge m 98 with h8 | h8
                · obtain rfl : m = 97 := by omega; exact List.all_eq_true.mp okm_4 97 (by decide)
                · exact absurd (show m = 98 by omega) hn
              · rcases Nat.lt_or_ge m 100 with h8 | h8
                · obtain rfl : m = 99 := by omega; exact List.all_eq_true.mp okm_4 99 (by decide)
                · obtain rfl : m = 100 := by omega; exact List.all_eq_true.mp okm_4 100 (by decide)
            · rcases Nat.lt_or_ge m 103 with h7 | h7
              · rcases Nat.lt_or_ge m 102 with h8 | h8
                · obtain rfl : m = 101 := by omega; exact List.all_eq_true.mp okm_5 101 (by decide)
                · obtain rfl : m = 102 := by omega; exact List.all_eq_true.mp okm_5 102 (by decide)
              · rcases Nat.lt_or_ge m 104 with h8 | h8
                · obtain rfl : m = 103 := by omega; exact List.all_eq_true.mp okm_5 103 (by decide)
                · obtain rfl : m = 104 := by omega; exact List.all_eq_true.mp okm_5 104 (by decide)
          · rcases Nat.lt_or_ge m 109 with h6 | h6
            · rcases Nat.lt_or_ge m 107 with h7 | h7
              · rcases Nat.lt_or_ge m 106 with h8 | h8
                · obtain rfl : m = 105 := by omega; exact List.all_eq_true.mp okm_5 105 (by decide)
                · obtain rfl : m = 106 := by omega; exact List.all_eq_true.mp okm_5 106 (by decide)
              · rcases Nat.lt_or_ge m 108 with h8 | h8
                · obtain rfl : m = 107 := by omega; exact List.all_eq_true.mp okm_5 107 (by decide)
                · obtain rfl : m = 108 := by omega; exact List.all_eq_true.mp okm_5 108 (by decide)
            · rcases Nat.lt_or_ge m 111 with h7 | h7
              · rcases Nat.lt_or_ge m 110 with h8 | h8
                · obtain rfl : m = 109 := by omega; exact List.all_eq_true.mp okm_5 109 (by decide)
                · obtain rfl : m = 110 := by omega; exact List.all_eq_true.mp okm_5 110 (by decide)
              · rcases Nat.lt_or_ge m 112 with h8 | h8
                · obtain rfl : m = 111 := by omega; exact List.all_eq_true.mp okm_5 111 (by decide)
                · obtain rfl : m = 112 := by omega; exact List.all_eq_true.mp okm_5 112 (by decide)
        · rcases Nat.lt_or_ge m 121 with h5 | h5
          · rcases Nat.lt_or_ge m 117 with h6 | h6
            · rcases Nat.lt_or_ge m 115 with h7 | h7
              · rcases Nat.lt_or_ge m 114 with h8 | h8
                · obtain rfl : m = 113 := by omega; exact List.all_eq_true.mp okm_5 113 (by decide)
                · obtain rfl : m = 114 := by omega; exact List.all_eq_true.mp okm_5 114 (by decide)
              · rcases Nat.lt_or_ge m 116 with h8 | h8
                · obtain rfl : m = 115 := by omega; exact List.all_eq_true.mp okm_5 115 (by decide)
                · obtain rfl : m = 116 := by omega; exact List.all_eq_true.mp okm_5 116 (by decide)
            · rcases Nat.lt_or_ge m 119 with h7 | h7
              · rcases Nat.lt_or_ge m 118 with h8 | h8
                · obtain rfl : m = 117 := by omega; exact List.all_eq_true.mp okm_5 117 (by decide)
                · obtain rfl : m = 118 := by omega; exact List.all_eq_true.mp okm_5 118 (by decide)
              · rcases Nat.lt_or_ge m 120 with h8 | h8
                · obtain rfl : m = 119 := by omega; exact List.all_eq_true.mp okm_5 119 (by decide)
                · obtain rfl : m = 120 := by omega; exact List.all_eq_true.mp okm_5 120 (by decide)
          · rcases Nat.lt_or_ge m 125 with h6 | h6
            · rcases Nat.lt_or_ge m 123 with h7 | h7
              · rcases Nat.lt_or_ge m 122 with h8 | h8
                · obtain rfl : m = 121 := by omega; exact List.all_eq_true.mp okm_6 121 (by decide)
                · obtain rfl : m = 122 := by omega; exact List.all_eq_true.mp okm_6 122 (by decide)
              · rcases Nat.lt_or_ge m 124 with h8 | h8
                · obtain rfl : m = 123 := by omega; exact List.all_eq_true.mp okm_6 123 (by decide)
                · obtain rfl : m = 124 := by omega; exact List.all_eq_true.mp okm_6 124 (by decide)
            · rcases Nat.lt_or_ge m 127 with h7 | h7
              · rcases Nat.lt_or_ge m 126 with h8 | h8
                · obtain rfl : m = 125 := by omega; exact List.all_eq_true.mp okm_6 125 (by decide)
                · obtain rfl : m = 126 := by omega; exact List.all_eq_true.mp okm_6 126 (by decide)
              · rcases Nat.lt_or_ge m 128 with h8 | h8
                · obtain rfl : m = 127 := by omega; exact List.all_eq_true.mp okm_6 127 (by decide)
                · rcases Nat.lt_or_ge m 129 with h9 | h9
                  · obtain rfl : m = 128 := by omega; exact List.all_eq_true.mp okm_6 128 (by decide)
                  · obtain rfl : m = 129 := by omega; exact List.all_eq_true.mp okm_6 129 (by decide)
  · rcases Nat.lt_or_ge m 195 with h2 | h2
    · rcases Nat.lt_or_ge m 162 with h3 | h3
      · rcases Nat.lt_or_ge m 146 with h4 | h4
        · rcases Nat.lt_or_ge m 138 with h5 | h5
          · rcases Nat.lt_or_ge m 134 with h6 | h6
            · rcases Nat.lt_or_ge m 132 with h7 | h7
              · rcases Nat.lt_or_ge m 131 with h8 | h8
                · obtain rfl : m = 130 := by omega; exact List.all_eq_true.mp okm_6 130 (by decide)
                · obtain rfl : m = 131 := by omega; exact List.all_eq_true.mp okm_6 131 (by decide)
              · rcases Nat.lt_or_ge m 133 with h8 | h8
                · obtain rfl : m = 132 := by omega; exact List.all_eq_true.mp okm_6 132 (by decide)
                · obtain rfl : m = 133 := by omega; exact List.all_eq_true.mp okm_6 133 (by decide)
            · rcases Nat.lt_or_ge m 136 with h7 | h7
              · rcases Nat.lt_or_ge m 135 with h8 | h8
                · obtain rfl : m = 134 := by omega; exact List.all_eq_true.mp okm_6 134 (by decide)
                · obtain rfl : m = 135 := by omega; exact List.all_eq_true.mp okm_6 135 (by decide)
              · rcases Nat.lt_or_ge m 137 with h8 | h8
                · obtain rfl : m = 136 := by omega; exact List.all_eq_true.mp okm_6 136 (by decide)
                · obtain rfl : m = 137 := by omega; exact List.all_eq_true.mp okm_6 137 (by decide)
          · rcases Nat.lt_or_ge m 142 with h6 | h6
            · rcases Nat.lt_or_ge m 140 with h7 | h7
              · rcases Nat.lt_or_ge m 139 with h8 | h8
                · obtain rfl : m = 138 := by omega; exact List.all_eq_true.mp okm_6 138 (by decide)
                · obtain rfl : m = 139 := by omega; exact List.all_eq_true.mp okm_6 139 (by decide)
              · rcases Nat.lt_or_ge m 141 with h8 | h8
                · obtain rfl : m = 140 := by omega; exact List.all_eq_true.mp okm_6 140 (by decide)
                · obtain rfl : m = 141 := by omega; exact List.all_eq_true.mp okm_7 141 (by decide)
            · rcases Nat.lt_or_ge m 144 with h7 | h7
              · rcases Nat.lt_or_ge m 143 with h8 | h8
                · obtain rfl : m = 142 := by omega; exact List.all_eq_true.mp okm_7 142 (by decide)
                · obtain rfl : m = 143 := by omega; exact List.all_eq_true.mp okm_7 143 (by decide)
              · rcases Nat.lt_or_ge m 145 with h8 | h8
                · obtain rfl : m = 144 := by omega; exact List.all_eq_true.mp okm_7 144 (by decide)
                · obtain rfl : m = 145 := by omega; exact List.all_eq_true.mp okm_7 145 (by decide)
        · rcases Nat.lt_or_ge m 154 with h5 | h5
          · rcases Nat.lt_or_ge m 150 with h6 | h6
            · rcases Nat.lt_or_ge m 148 with h7 | h7
              · rcases Nat.lt_or_ge m 147 with h8 | h8
                · obtain rfl : m = 146 := by omega; exact List.all_eq_true.mp okm_7 146 (by decide)
                · obtain rfl : m = 147 := by omega; exact List.all_eq_true.mp okm_7 147 (by decide)
              · rcases Nat.lt_or_ge m 149 with h8 | h8
                · obtain rfl : m = 148 := by omega; exact List.all_eq_true.mp okm_7 148 (by decide)
                · obtain rfl : m = 149 := by omega; exact List.all_eq_true.mp okm_7 149 (by decide)
            · rcases Nat.lt_or_ge m 152 with h7 | h7
              · rcases Nat.lt_or_ge m 151 with h8 | h8
                · obtain rfl : m = 150 := by omega; exact List.all_eq_true.mp okm_7 150 (by decide)
                · obtain rfl : m = 151 := by omega; exact List.all_eq_true.mp okm_7 151 (by decide)
              · rcases Nat.lt_or_ge m 153 with h8 | h8
                · obtain rfl : m = 152 := by omega; exact List.all_eq_true.mp okm_7 152 (by decide)
                · obtain rfl : m = 153 := by omega; exact List.all_eq_true.mp okm_7 153 (by decide)
          · rcases Nat.lt_or_ge m 158 with h6 | h6
            · rcases Nat.lt_or_ge m 156 with h7 | h7
              · rcases Nat.lt_or_ge m 155 with h8 | h8
                · obtain rfl : m = 154 := by omega; exact List.all_eq_true.mp okm_7 154 (by decide)
                · obtain rfl : m = 155 := by omega; exact List.all_eq_true.mp okm_7 155 (by decide)
              · rcases Nat.lt_or_ge m 157 with h8 | h8
                · obtain rfl : m = 156 := by omega; exact List.all_eq_true.mp okm_7 156 (by decide)
                · obtain rfl : m = 157 := by omega; exact List.all_eq_true.mp okm_7 157 (by decide)
            · rcases Nat.lt_or_ge m 160 with h7 | h7
              · rcases Nat.lt_or_ge m 159 with h8 | h8
                · obtain rfl : m = 158 := by omega; exact List.all_eq_true.mp okm_7 158 (by decide)
                · obtain rfl : m = 159 := by omega; exact List.all_eq_true.mp okm_7 159 (by decide)
              · rcases Nat.lt_or_ge m 161 with h8 | h8
                · obtain rfl : m = 160 := by omega; exact List.all_eq_true.mp okm_7 160 (by decide)
                · obtain rfl : m = 161 := by omega; exact List.all_eq_true.mp okm_8 161 (by decide)
      · rcases Nat.lt_or_ge m 178 with h4 | h4
        · rcases Nat.lt_or_ge m 170 with h5 | h5
          · rcases Nat.lt_or_ge m 166 with h6 | h6
            · rcases Nat.lt_or_ge m 164 with h7 | h7
              · rcases Nat.lt_or_ge m 163 with h8 | h8
                · obtain rfl : m = 162 := by omega; exact List.all_eq_true.mp okm_8 162 (by decide)
                · obtain rfl : m = 163 := by omega; exact List.all_eq_true.mp okm_8 163 (by decide)
              · rcases Nat.lt_or_ge m 165 with h8 | h8
                · obtain rfl : m = 164 := by omega; exact List.all_eq_true.mp okm_8 164 (by decide)
                · obtain rfl : m = 165 := by omega; exact List.all_eq_true.mp okm_8 165 (by decide)
            · rcases Nat.lt_or_ge m 168 with h7 | h7
              · rcases Nat.lt_or_ge m 167 with h8 | h8
                · obtain rfl : m = 166 := by omega; exact List.all_eq_true.mp okm_8 166 (by decide)
                · obtain rfl : m = 167 := by omega; exact List.all_eq_true.mp okm_8 167 (by decide)
              · rcases Nat.lt_or_ge m 169 with h8 | h8
                · obtain rfl : m = 168 := by omega; exact List.all_eq_true.mp okm_8 168 (by decide)
                · obtain rfl : m = 169 := by omega; exact List.all_eq_true.mp okm_8 169 (by decide)
          · rcases Nat.lt_or_ge m 174 with h6 | h6
            · rcases Nat.lt_or_ge m 172 with h7 | h7
              · rcases Nat.lt_or_ge m 171 with h8 | h8
                · obtain rfl : m = 170 := by omega; exact List.all_eq_true.mp okm_8 170 (by decide)
                · obtain rfl : m = 171 := by omega; exact List.all_eq_true.mp okm_8 171 (by decide)
              · rcases Nat.lt_or_ge m 173 with h8 | h8
                · obtain rfl : m = 172 := by omega; exact List.all_eq_true.mp okm_8 172 (by decide)
                · obtain rfl : m = 173 := by omega; exact List.all_eq_true.mp okm_8 173 (by decide)
            · rcases Nat.lt_or_ge m 176 with h7 | h7
              · rcases Nat.lt_or_ge m 175 with h8 | h8
                · obtain rfl : m = 174 := by omega; exact List.all_eq_true.mp okm_8 174 (by decide)
                · obtain rfl : m = 175 := by omega; exact List.all_eq_true.mp okm_8 175 (by decide)
              · rcases Nat.lt_or_ge m 177 with h8 | h8
                · obtain rfl : m = 176 := by omega; exact List.all_eq_true.mp okm_8 176 (by decide)
                · obtain rfl : m = 177 := by omega; exact List.all_eq_true.mp okm_8 177 (by decide)
        · rcases Nat.lt_or_ge m 186 with h5 | h5
          · rcases Nat.lt_or_ge m 182 with h6 | h6
            · rcases Nat.lt_or_ge m 180 with h7 | h7
              · rcases Nat.lt_or_ge m 179 with h8 | h8
                · obtain rfl : m = 178 := by omega; exact List.all_eq_true.mp okm_8 178 (by decide)
                · obtain rfl : m = 179 := by omega; exact List.all_eq_true.mp okm_8 179 (by decide)
              · rcases Nat.lt_or_ge m 181 with h8 | h8
                · obtain rfl : m = 180 := by omega; exact List.all_eq_true.mp okm_8 180 (by decide)
                · obtain rfl : m = 181 := by omega; exact List.all_eq_true.mp okm_9 181 (by decide)
            · rcases Nat.lt_or_ge m 184 with h7 | h7
              · rcases Nat.lt_or_ge m 183 with h8 | h8
                · obtain rfl : m = 182 := by omega; exact List.all_eq_true.mp okm_9 182 (by decide)
                · obtain rfl : m = 183 := by omega; exact List.all_eq_true.mp okm_9 183 (by decide)
              · rcases Nat.lt_or_ge m 185 with h8 | h8
                · obtain rfl : m = 184 := by omega; exact List.all_eq_true.mp okm_9 184 (by decide)
                · obtain rfl : m = 185 := by omega; exact List.all_eq_true.mp okm_9 185 (by decide)
          · rcases Nat.lt_or_ge m 190 with h6 | h6
            · rcases Nat.lt_or_ge m 188 with h7 | h7
              · rcases Nat.lt_or_ge m 187 with h8 | h8
                · obtain rfl : m = 186 := by omega; exact List.all_eq_true.mp okm_9 186 (by decide)
                · obtain rfl : m = 187 := by omega; exact List.all_eq_true.mp okm_9 187 (by decide)
              · rcases Nat.lt_or_ge m 189 with h8 | h8
                · obtain rfl : m = 188 := by omega; exact List.all_eq_true.mp okm_9 188 (by decide)
                · obtain rfl : m = 189 := by omega; exact List.all_eq_true.mp okm_9 189 (by decide)
            · rcases Nat.lt_or_ge m 192 with h7 | h7
              · rcases Nat.lt_or_ge m 191 with h8 | h8
                · obtain rfl : m = 190 := by omega; exact List.all_eq_true.mp okm_9 190 (by decide)
                · obtain rfl : m = 191 := by omega; exact List.all_eq_true.mp okm_9 191 (by decide)
              · rcases Nat.lt_or_ge m 193 with h8 | h8
                · obtain rfl : m = 192 := by omega; exact List.all_eq_true.mp okm_9 192 (by decide)
                · rcases Nat.lt_or_ge m 194 with h9 | h9
                  · obtain rfl : m = 193 := by omega; exact List.all_eq_true.mp okm_9 193 (by decide)
                  · obtain rfl : m = 194 := by omega; exact List.all_eq_true.mp okm_9 194 (by decide)
    · rcases Nat.lt_or_ge m 227 with h3 | h3
      · rcases Nat.lt_or_ge m 211 with h4 | h4
        · rcases Nat.lt_or_ge m 203 with h5 | h5
          · rcases Nat.lt_or_ge m 199 with h6 | h6
            · rcases Nat.lt_or_ge m 197 with h7 | h7
              · rcases Nat.lt_or_ge m 196 with h8 | h8
                · obtain rfl : m = 195 := by omega; exact List.all_eq_true.mp okm_9 195 (by decide)
                · obtain rfl : m = 196 := by omega; exact List.all_eq_true.mp okm_9 196 (by decide)
              · rcases Nat.lt_or_ge m 198 with h8 | h8
                · obtain rfl : m = 197 := by omega; exact List.all_eq_true.mp okm_9 197 (by decide)
                · obtain rfl : m = 198 := by omega; exact List.all_eq_true.mp okm_9 198 (by decide)
            · rcases Nat.lt_or_ge m 201 with h7 | h7
              · rcases Nat.lt_or_ge m 200 with h8 | h8
                · obtain rfl : m = 199 := by omega; exact List.all_eq_true.mp okm_9 199 (by decide)
                · obtain rfl : m = 200 := by omega; exact List.all_eq_true.mp okm_9 200 (by decide)
              · rcases Nat.lt_or_ge m 202 with h8 | h8
                · obtain rfl : m = 201 := by omega; exact List.all_eq_true.mp okm_10 201 (by decide)
                · obtain rfl : m = 202 := by omega; exact List.all_eq_true.mp okm_10 202 (by decide)
          · rcases Nat.lt_or_ge m 207 with h6 | h6
            · rcases Nat.lt_or_ge m 205 with h7 | h7
              · rcases Nat.lt_or_ge m 204 with h8 | h8
                · obtain rfl : m = 203 := by omega; exact List.all_eq_true.mp okm_10 203 (by decide)
                · obtain rfl : m = 204 := by omega; exact List.all_eq_true.mp okm_10 204 (by decide)
              · rcases Nat.lt_or_ge m 206 with h8 | h8
                · obtain rfl : m = 205 := by omega; exact List.all_eq_true.mp okm_10 205 (by decide)
                · obtain rfl : m = 206 := by omega; exact List.all_eq_true.mp okm_10 206 (by decide)
            · rcases Nat.lt_or_ge m 209 with h7 | h7
              · rcases Nat.lt_or_ge m 208 with h8 | h8
                · obtain rfl : m = 207 := by omega; exact List.all_eq_true.mp okm_10 207 (by decide)
                · obtain rfl : m = 208 := by omega; exact List.all_eq_true.mp okm_10 208 (by decide)
              · rcases Nat.lt_or_ge m 210 with h8 | h8
                · obtain rfl : m = 209 := by omega; exact List.all_eq_true.mp okm_10 209 (by decide)
                · obtain rfl : m = 210 := by omega; exact List.all_eq_true.mp okm_10 210 (by decide)
        · rcases Nat.lt_or_ge m 219 with h5 | h5
          · rcases Nat.lt_or_ge m 215 with h6 | h6
            · rcases Nat.lt_or_ge m 213 with h7 | h7
              · rcases Nat.lt_or_ge m 212 with h8 | h8
                · obtain rfl : m = 211 := by omega; exact List.all_eq_true.mp okm_10 211 (by decide)
                · obtain rfl : m = 212 := by omega; exact List.all_eq_true.mp okm_10 212 (by decide)
              · rcases Nat.lt_or_ge m 214 with h8 | h8
                · obtain rfl : m = 213 := by omega; exact List.all_eq_true.mp okm_10 213 (by decide)
                · obtain rfl : m = 214 := by omega; exact List.all_eq_true.mp okm_10 214 (by decide)
            · rcases Nat.lt_or_ge m 217 with h7 | h7
              · rcases Nat.lt_or_ge m 216 with h8 | h8
                · obtain rfl : m = 215 := by omega; exact List.all_eq_true.mp okm_10 215 (by decide)
                · obtain rfl : m = 216 := by omega; exact List.all_eq_true.mp okm_10 216 (by decide)
              · rcases Nat.lt_or_ge m 218 with h8 | h8
                · obtain rfl : m = 217 := by omega; exact List.all_eq_true.mp okm_10 217 (by decide)
                · obtain rfl : m = 218 := by omega; exact List.all_eq_true.mp okm_10 218 (by decide)
          · rcases Nat.lt_or_ge m 223 with h6 | h6
            · rcases Nat.lt_or_ge m 221 with h7 | h7
              · rcases Nat.lt_or_ge m 220 with h8 | h8
                · obtain rfl : m = 219 := by omega; exact List.all_eq_true.mp okm_10 219 (by decide)
                · obtain rfl : m = 220 := by omega; exact List.all_eq_true.mp okm_10 220 (by decide)
              · rcases Nat.lt_or_ge m 222 with h8 | h8
                · obtain rfl : m = 221 := by omega; exact List.all_eq_true.mp okm_11 221 (by decide)
                · obtain rfl : m = 222 := by omega; exact List.all_eq_true.mp okm_11 222 (by decide)
            · rcases Nat.lt_or_ge m 225 with h7 | h7
              · rcases Nat.lt_or_ge m 224 with h8 | h8
                · obtain rfl : m = 223 := by omega; exact List.all_eq_true.mp okm_11 223 (by decide)
                · obtain rfl : m = 224 := by omega; exact List.all_eq_true.mp okm_11 224 (by decide)
              · rcases Nat.lt_or_ge m 226 with h8 | h8
                · obtain rfl : m = 225 := by omega; exact List.all_eq_true.mp okm_11 225 (by decide)
                · obtain rfl : m = 226 := by omega; exact List.all_eq_true.mp okm_11 226 (by decide)
      · rcases Nat.lt_or_ge m 243 with h4 | h4
        · rcases Nat.lt_or_ge m 235 with h5 | h5
          · rcases Nat.lt_or_ge m 231 with h6 | h6
            · rcases Nat.lt_or_ge m 229 with h7 | h7
              · rcases Nat.lt_or_ge m 228 with h8 | h8
                · obtain rfl : m = 227 := by omega; exact List.all_eq_true.mp okm_11 227 (by decide)
                · obtain rfl : m = 228 := by omega; exact List.all_eq_true.mp okm_11 228 (by decide)
              · rcases Nat.lt_or_ge m 230 with h8 | h8
                · obtain rfl : m = 229 := by omega; exact List.all_eq_true.mp okm_11 229 (by decide)
                · obtain rfl : m = 230 := by omega; exact List.all_eq_true.mp okm_11 230 (by decide)
            · rcases Nat.lt_or_ge m 233 with h7 | h7
              · rcases Nat.lt_or_ge m 232 with h8 | h8
                · obtain rfl : m = 231 := by omega; exact List.all_eq_true.mp okm_11 231 (by decide)
                · obtain rfl : m = 232 := by omega; exact List.all_eq_true.mp okm_11 232 (by decide)
              · rcases Nat.lt_or_ge m 234 with h8 | h8
                · obtain rfl : m = 233 := by omega; exact List.all_eq_true.mp okm_11 233 (by decide)
                · obtain rfl : m = 234 := by omega; exact List.all_eq_true.mp okm_11 234 (by decide)
          · rcases Nat.lt_or_ge m 239 with h6 | h6
            · rcases Nat.lt_or_ge m 237 with h7 | h7
              · rcases Nat.lt_or_ge m 236 with h8 | h8
                · obtain rfl : m = 235 := by omega; exact List.all_eq_true.mp okm_11 235 (by decide)
                · obtain rfl : m = 236 := by omega; exact List.all_eq_true.mp okm_11 236 (by decide)
              · rcases Nat.lt_or_ge m 238 with h8 | h8
                · obtain rfl : m = 237 := by omega; exact List.all_eq_true.mp okm_11 237 (by decide)
                · obtain rfl : m = 238 := by omega; exact List.all_eq_true.mp okm_11 238 (by decide)
            · rcases Nat.lt_or_ge m 241 with h7 | h7
              · rcases Nat.lt_or_ge m 240 with h8 | h8
                · obtain rfl : m = 239 := by omega; exact List.all_eq_true.mp okm_11 239 (by decide)
                · obtain rfl : m = 240 := by omega; exact List.all_eq_true.mp okm_11 240 (by decide)
              · rcases Nat.lt_or_ge m 242 with h8 | h8
                · obtain rfl : m = 241 := by omega; exact List.all_eq_true.mp okm_12 241 (by decide)
                · obtain rfl : m = 242 := by omega; exact List.all_eq_true.mp okm_12 242 (by decide)
        · rcases Nat.lt_or_ge m 251 with h5 | h5
          · rcases Nat.lt_or_ge m 247 with h6 | h6
            · rcases Nat.lt_or_ge m 245 with h7 | h7
              · rcases Nat.lt_or_ge m 244 with h8 | h8
                · obtain rfl : m = 243 := by omega; exact List.all_eq_true.mp okm_12 243 (by decide)
                · obtain rfl : m = 244 := by omega; exact List.all_eq_true.mp okm_12 244 (by decide)
              · rcases Nat.lt_or_ge m 246 with h8 | h8
                · obtain rfl : m = 245 := by omega; exact List.all_eq_true.mp okm_12 245 (by decide)
                · obtain rfl : m = 246 := by omega; exact List.all_eq_true.mp okm_12 246 (by decide)
            · rcases Nat.lt_or_ge m 249 with h7 | h7
              · rcases Nat.lt_or_ge m 248 with h8 | h8
                · obtain rfl : m = 247 := by omega; exact List.all_eq_true.mp okm_12 247 (by decide)
                · obtain rfl : m = 248 := by omega; exact List.all_eq_true.mp okm_12 248 (by decide)
              · rcases Nat.lt_or_ge m 250 with h8 | h8
                · obtain rfl : m = 249 := by omega; exact List.all_eq_true.mp okm_12 249 (by decide)
                · obtain rfl : m = 250 := by omega; exact List.all_eq_true.mp okm_12 250 (by decide)
          · rcases Nat.lt_or_ge m 255 with h6 | h6
            · rcases Nat.lt_or_ge m 253 with h7 | h7
              · rcases Nat.lt_or_ge m 252 with h8 | h8
                · obtain rfl : m = 251 := by omega; exact List.all_eq_true.mp okm_12 251 (by decide)
                · obtain rfl : m = 252 := by omega; exact List.all_eq_true.mp okm_12 252 (by decide)
              · rcases Nat.lt_or_ge m 254 with h8 | h8
                · obtain rfl : m = 253 := by omega; exact List.all_eq_true.mp okm_12 253 (by decide)
                · obtain rfl : m = 254 := by omega; exact List.all_eq_true.mp okm_12 254 (by decide)
            · rcases Nat.lt_or_ge m 257 with h7 | h7
              · rcases Nat.lt_or_ge m 256 with h8 | h8
                · obtain rfl : m = 255 := by omega; exact List.all_eq_true.mp okm_12 255 (by decide)
                · obtain rfl : m = 256 := by omega; exact List.all_eq_true.mp okm_12 256 (by decide)
              · rcases Nat.lt_or_ge m 258 with h8 | h8
                · obtain rfl : m = 257 := by omega; exact List.all_eq_true.mp okm_12 257 (by decide)
                · rcases Nat.lt_or_ge m 259 with h9 | h9
                  · obtain rfl : m = 258 := by omega; exact List.all_eq_true.mp okm_12 258 (by decide)
                  · exact absurd (show m = 259 by omega) hl
theorem okL_all (m : Nat) (h : m < 260) (hn : ¬ m = 98) : m_okL m (mcd m) = true := by
  rcases Nat.lt_or_ge m 130 with h1 | h1
  · rcases Nat.lt_or_ge m 65 with h2 | h2
    · rcases Nat.lt_or_ge m 32 with h3 | h3
      · rcases Nat.lt_or_ge m 16 with h4 | h4
        · rcases Nat.lt_or_ge m 8 with h5 | h5
          · rcases Nat.lt_or_ge m 4 with h6 | h6
            · rcases Nat.lt_or_ge m 2 with h7 | h7
              · rcases Nat.lt_or_ge m 1 with h8 | h8
                · obtain rfl : m = 0 := by omega; exact ok_Tokens_init
                · obtain rfl : m = 1 := by omega; exact ok_LawReader_init
              · rcases Nat.lt_or_ge m 3 with h8 | h8
                · obtain rfl : m = 2 := by omega; exact ok_Laws_init
                · obtain rfl : m = 3 := by omega; exact ok_Plan_init
            · rcases Nat.lt_or_ge m 6 with h7 | h7
              · rcases Nat.lt_or_ge m 5 with h8 | h8
                · obtain rfl : m = 4 := by omega; exact ok_LineReader_init
                · obtain rfl : m = 5 := by omega; exact ok_Day_init
              · rcases Nat.lt_or_ge m 7 with h8 | h8
                · obtain rfl : m = 6 := by omega; exact ok_Way_init
                · obtain rfl : m = 7 := by omega; exact ok_Seen_init
          · rcases Nat.lt_or_ge m 12 with h6 | h6
            · rcases Nat.lt_or_ge m 10 with h7 | h7
              · rcases Nat.lt_or_ge m 9 with h8 | h8
                · obtain rfl : m = 8 := by omega; exact ok_Log_init
                · obtain rfl : m = 9 := by omega; exact ok_C_init
              · rcases Nat.lt_or_ge m 11 with h8 | h8
                · obtain rfl : m = 10 := by omega; exact ok_M_plain
                · obtain rfl : m = 11 := by omega; exact ok_M_copies
            · rcases Nat.lt_or_ge m 14 with h7 | h7
              · rcases Nat.lt_or_ge m 13 with h8 | h8
                · obtain rfl : m = 12 := by omega; exact ok_M_atFirst
                · obtain rfl : m = 13 := by omega; exact ok_M_plainTried
              · rcases Nat.lt_or_ge m 15 with h8 | h8
                · obtain rfl : m = 14 := by omega; exact ok_M_begin
                · obtain rfl : m = 15 := by omega; exact ok_M_keepText
        · rcases Nat.lt_or_ge m 24 with h5 | h5
          · rcases Nat.lt_or_ge m 20 with h6 | h6
            · rcases Nat.lt_or_ge m 18 with h7 | h7
              · rcases Nat.lt_or_ge m 17 with h8 | h8
                · obtain rfl : m = 16 := by omega; exact ok_M_init
                · obtain rfl : m = 17 := by omega; exact ok_C_tapeFour
              · rcases Nat.lt_or_ge m 19 with h8 | h8
                · obtain rfl : m = 18 := by omega; exact ok_C_feed
                · obtain rfl : m = 19 := by omega; exact ok_M_feed
            · rcases Nat.lt_or_ge m 22 with h7 | h7
              · rcases Nat.lt_or_ge m 21 with h8 | h8
                · obtain rfl : m = 20 := by omega; exact ok_Laws_clear
                · obtain rfl : m = 21 := by omega; exact ok_Plan_clear
              · rcases Nat.lt_or_ge m 23 with h8 | h8
                · obtain rfl : m = 22 := by omega; exact ok_Tokens_isLetter
                · obtain rfl : m = 23 := by omega; exact ok_Tokens_wordKind
          · rcases Nat.lt_or_ge m 28 with h6 | h6
            · rcases Nat.lt_or_ge m 26 with h7 | h7
              · rcases Nat.lt_or_ge m 25 with h8 | h8
                · obtain rfl : m = 24 := by omega; exact ok_Tokens_readWord
                · obtain rfl : m = 25 := by omega; exact ok_Tokens_isDigit
              · rcases Nat.lt_or_ge m 27 with h8 | h8
                · obtain rfl : m = 26 := by omega; exact ok_Tokens_readNumber
                · obtain rfl : m = 27 := by omega; exact ok_Tokens_signKind
            · rcases Nat.lt_or_ge m 30 with h7 | h7
              · rcases Nat.lt_or_ge m 29 with h8 | h8
                · obtain rfl : m = 28 := by omega; exact ok_Tokens_lengthenSign
                · obtain rfl : m = 29 := by omega; exact ok_Tokens_advance
              · rcases Nat.lt_or_ge m 31 with h8 | h8
                · obtain rfl : m = 30 := by omega; exact ok_Tokens_begin
                · obtain rfl : m = 31 := by omega; exact ok_LineReader_fails
      · rcases Nat.lt_or_ge m 48 with h4 | h4
        · rcases Nat.lt_or_ge m 40 with h5 | h5
          · rcases Nat.lt_or_ge m 36 with h6 | h6
            · rcases Nat.lt_or_ge m 34 with h7 | h7
              · rcases Nat.lt_or_ge m 33 with h8 | h8
                · obtain rfl : m = 32 := by omega; exact ok_Plan_numberOf
                · obtain rfl : m = 33 := by omega; exact ok_LineReader_readsNumber
              · rcases Nat.lt_or_ge m 35 with h8 | h8
                · obtain rfl : m = 34 := by omega; exact ok_LineReader_skipsMinus
                · obtain rfl : m = 35 := by omega; exact ok_LineReader_readsMan
            · rcases Nat.lt_or_ge m 38 with h7 | h7
              · rcases Nat.lt_or_ge m 37 with h8 | h8
                · obtain rfl : m = 36 := by omega; exact ok_LineReader_readsEnd
                · obtain rfl : m = 37 := by omega; exact ok_LineReader_readsPerson
              · rcases Nat.lt_or_ge m 39 with h8 | h8
                · obtain rfl : m = 38 := by omega; exact ok_LineReader_readsRing
                · obtain rfl : m = 39 := by omega; exact ok_LineReader_readsMeet
          · rcases Nat.lt_or_ge m 44 with h6 | h6
            · rcases Nat.lt_or_ge m 42 with h7 | h7
              · rcases Nat.lt_or_ge m 41 with h8 | h8
                · obtain rfl : m = 40 := by omega; exact ok_LineReader_readsCold
                · obtain rfl : m = 41 := by omega; exact ok_LineReader_readsCrowd
              · rcases Nat.lt_or_ge m 43 with h8 | h8
                · obtain rfl : m = 42 := by omega; exact ok_LineReader_readsSeed
                · obtain rfl : m = 43 := by omega; exact ok_Laws_isTold
            · rcases Nat.lt_or_ge m 46 with h7 | h7
              · rcases Nat.lt_or_ge m 45 with h8 | h8
                · obtain rfl : m = 44 := by omega; exact ok_LawReader_levelOf
                · obtain rfl : m = 45 := by omega; exact ok_Laws_add
              · rcases Nat.lt_or_ge m 47 with h8 | h8
                · obtain rfl : m = 46 := by omega; exact ok_LawReader_unpile
                · obtain rfl : m = 47 := by omega; exact ok_LawReader_pileUp
        · rcases Nat.lt_or_ge m 56 with h5 | h5
          · rcases Nat.lt_or_ge m 52 with h6 | h6
            · rcases Nat.lt_or_ge m 50 with h7 | h7
              · rcases Nat.lt_or_ge m 49 with h8 | h8
                · obtain rfl : m = 48 := by omega; exact ok_LawReader_topLevel
                · obtain rfl : m = 49 := by omega; exact ok_LawReader_pilesKnot
              · rcases Nat.lt_or_ge m 51 with h8 | h8
                · obtain rfl : m = 50 := by omega; exact ok_LawReader_takesValue
                · obtain rfl : m = 51 := by omega; exact ok_LawReader_takesSign
            · rcases Nat.lt_or_ge m 54 with h7 | h7
              · rcases Nat.lt_or_ge m 53 with h8 | h8
                · obtain rfl : m = 52 := by omega; exact ok_LawReader_readsLaw
                · obtain rfl : m = 53 := by omega; exact ok_LineReader_readsLaw
              · rcases Nat.lt_or_ge m 55 with h8 | h8
                · obtain rfl : m = 54 := by omega; exact ok_LineReader_readsLine
                · obtain rfl : m = 55 := by omega; exact ok_LineReader_readsAll
          · rcases Nat.lt_or_ge m 60 with h6 | h6
            · rcases Nat.lt_or_ge m 58 with h7 | h7
              · rcases Nat.lt_or_ge m 57 with h8 | h8
                · obtain rfl : m = 56 := by omega; exact ok_Day_begin
                · obtain rfl : m = 57 := by omega; exact ok_Seen_forget
              · rcases Nat.lt_or_ge m 59 with h8 | h8
                · obtain rfl : m = 58 := by omega; exact ok_C_text
                · obtain rfl : m = 59 := by omega; exact ok_M_isSmall
            · rcases Nat.lt_or_ge m 62 with h7 | h7
              · rcases Nat.lt_or_ge m 61 with h8 | h8
                · obtain rfl : m = 60 := by omega; exact ok_M_wordAt
                · obtain rfl : m = 61 := by omega; exact ok_M_packed
              · rcases Nat.lt_or_ge m 63 with h8 | h8
                · obtain rfl : m = 62 := by omega; exact ok_M_isDigit
                · rcases Nat.lt_or_ge m 64 with h9 | h9
                  · obtain rfl : m = 63 := by omega; exact ok_M_signToken
                  · obtain rfl : m = 64 := by omega; exact ok_M_token
    · rcases Nat.lt_or_ge m 97 with h3 | h3
      · rcases Nat.lt_or_ge m 81 with h4 | h4
        · rcases Nat.lt_or_ge m 73 with h5 | h5
          · rcases Nat.lt_or_ge m 69 with h6 | h6
            · rcases Nat.lt_or_ge m 67 with h7 | h7
              · rcases Nat.lt_or_ge m 66 with h8 | h8
                · obtain rfl : m = 65 := by omega; exact ok_M_wrong
                · obtain rfl : m = 66 := by omega; exact ok_M_find
              · rcases Nat.lt_or_ge m 68 with h8 | h8
                · obtain rfl : m = 67 := by omega; exact ok_M_isIn
                · obtain rfl : m = 68 := by omega; exact ok_M_number
            · rcases Nat.lt_or_ge m 71 with h7 | h7
              · rcases Nat.lt_or_ge m 70 with h8 | h8
                · obtain rfl : m = 69 := by omega; exact ok_M_isSign
                · obtain rfl : m = 70 := by omega; exact ok_M_signed
              · rcases Nat.lt_or_ge m 72 with h8 | h8
                · obtain rfl : m = 71 := by omega; exact ok_M_manLine
                · obtain rfl : m = 72 := by omega; exact ok_M_manThere
          · rcases Nat.lt_or_ge m 77 with h6 | h6
            · rcases Nat.lt_or_ge m 75 with h7 | h7
              · rcases Nat.lt_or_ge m 74 with h8 | h8
                · obtain rfl : m = 73 := by omega; exact ok_M_ringLine
                · obtain rfl : m = 74 := by omega; exact ok_M_meetLine
              · rcases Nat.lt_or_ge m 76 with h8 | h8
                · obtain rfl : m = 75 := by omega; exact ok_M_coldLine
                · obtain rfl : m = 76 := by omega; exact ok_M_onceLine
            · rcases Nat.lt_or_ge m 79 with h7 | h7
              · rcases Nat.lt_or_ge m 78 with h8 | h8
                · obtain rfl : m = 77 := by omega; exact ok_M_waitsFor
                · obtain rfl : m = 78 := by omega; exact ok_M_isKey
              · rcases Nat.lt_or_ge m 80 with h8 | h8
                · obtain rfl : m = 79 := by omega; exact ok_M_isCounted
                · obtain rfl : m = 80 := by omega; exact ok_M_nameMet
        · rcases Nat.lt_or_ge m 89 with h5 | h5
          · rcases Nat.lt_or_ge m 85 with h6 | h6
            · rcases Nat.lt_or_ge m 83 with h7 | h7
              · rcases Nat.lt_or_ge m 82 with h8 | h8
                · obtain rfl : m = 81 := by omega; exact ok_M_grown
                · obtain rfl : m = 82 := by omega; exact ok_M_leafRead
              · rcases Nat.lt_or_ge m 84 with h8 | h8
                · obtain rfl : m = 83 := by omega; exact ok_M_rank
                · obtain rfl : m = 84 := by omega; exact ok_M_dropHeld
            · rcases Nat.lt_or_ge m 87 with h7 | h7
              · rcases Nat.lt_or_ge m 86 with h8 | h8
                · obtain rfl : m = 85 := by omega; exact ok_M_bind
                · obtain rfl : m = 86 := by omega; exact ok_M_signs
              · rcases Nat.lt_or_ge m 88 with h8 | h8
                · obtain rfl : m = 87 := by omega; exact ok_M_sumRead
                · obtain rfl : m = 88 := by omega; exact ok_M_lineRead
          · rcases Nat.lt_or_ge m 93 with h6 | h6
            · rcases Nat.lt_or_ge m 91 with h7 | h7
              · rcases Nat.lt_or_ge m 90 with h8 | h8
                · obtain rfl : m = 89 := by omega; exact ok_M_text
                · obtain rfl : m = 90 := by omega; exact ok_C_fault
              · rcases Nat.lt_or_ge m 92 with h8 | h8
                · obtain rfl : m = 91 := by omega; exact ok_M_fault
                · obtain rfl : m = 92 := by omega; exact ok_C_named
            · rcases Nat.lt_or_ge m 95 with h7 | h7
              · rcases Nat.lt_or_ge m 94 with h8 | h8
                · obtain rfl : m = 93 := by omega; exact ok_M_named
                · obtain rfl : m = 94 := by omega; exact ok_C_isPerson
              · rcases Nat.lt_or_ge m 96 with h8 | h8
                · obtain rfl : m = 95 := by omega; exact ok_Day_placeOf
                · obtain rfl : m = 96 := by omega; exact ok_Day_modeOf
      · rcases Nat.lt_or_ge m 113 with h4 | h4
        · rcases Nat.lt_or_ge m 105 with h5 | h5
          · rcases Nat.lt_or_ge m 101 with h6 | h6
            · rcases Nat.lt_or_ge m 99 with h7 | h7
              · rcases Nat.lt_or_ge m 98 with h8 | h8
                · obtain rfl : m = 97 := by omega; exact ok_C_man
                · exact absurd (show m = 98 by omega) hn
              · rcases Nat.lt_or_ge m 100 with h8 | h8
                · obtain rfl : m = 99 := by omega; exact ok_M_isMan
                · obtain rfl : m = 100 := by omega; exact ok_M_fails
            · rcases Nat.lt_or_ge m 103 with h7 | h7
              · rcases Nat.lt_or_ge m 102 with h8 | h8
                · obtain rfl : m = 101 := by omega; exact ok_M_placeOf
                · obtain rfl : m = 102 := by omega; exact ok_M_man
              · rcases Nat.lt_or_ge m 104 with h8 | h8
                · obtain rfl : m = 103 := by omega; exact ok_M_thrown
                · obtain rfl : m = 104 := by omega; exact ok_C_isMeeting
          · rcases Nat.lt_or_ge m 109 with h6 | h6
            · rcases Nat.lt_or_ge m 107 with h7 | h7
              · rcases Nat.lt_or_ge m 106 with h8 | h8
                · obtain rfl : m = 105 := by omega; exact ok_C_meeting
                · obtain rfl : m = 106 := by omega; exact ok_M_isMeeting
              · rcases Nat.lt_or_ge m 108 with h8 | h8
                · obtain rfl : m = 107 := by omega; exact ok_M_meeting
                · obtain rfl : m = 108 := by omega; exact ok_C_shows
            · rcases Nat.lt_or_ge m 111 with h7 | h7
              · rcases Nat.lt_or_ge m 110 with h8 | h8
                · obtain rfl : m = 109 := by omega; exact ok_M_shows
                · obtain rfl : m = 110 := by omega; exact ok_Way_follow
              · rcases Nat.lt_or_ge m 112 with h8 | h8
                · obtain rfl : m = 111 := by omega; exact ok_Laws_joined
                · obtain rfl : m = 112 := by omega; exact ok_Laws_valueOf
        · rcases Nat.lt_or_ge m 121 with h5 | h5
          · rcases Nat.lt_or_ge m 117 with h6 | h6
            · rcases Nat.lt_or_ge m 115 with h7 | h7
              · rcases Nat.lt_or_ge m 114 with h8 | h8
                · obtain rfl : m = 113 := by omega; exact ok_Way_lawOf
                · obtain rfl : m = 114 := by omega; exact ok_C_law
              · rcases Nat.lt_or_ge m 116 with h8 | h8
                · obtain rfl : m = 115 := by omega; exact ok_M_waitsOf
                · obtain rfl : m = 116 := by omega; exact ok_M_rateIn
            · rcases Nat.lt_or_ge m 119 with h7 | h7
              · rcases Nat.lt_or_ge m 118 with h8 | h8
                · obtain rfl : m = 117 := by omega; exact ok_M_layNames
                · obtain rfl : m = 118 := by omega; exact ok_M_bounded
              · rcases Nat.lt_or_ge m 120 with h8 | h8
                · obtain rfl : m = 119 := by omega; exact ok_M_times
                · obtain rfl : m = 120 := by omega; exact ok_M_compares
          · rcases Nat.lt_or_ge m 125 with h6 | h6
            · rcases Nat.lt_or_ge m 123 with h7 | h7
              · rcases Nat.lt_or_ge m 122 with h8 | h8
                · obtain rfl : m = 121 := by omega; exact ok_M_valueOf
                · obtain rfl : m = 122 := by omega; exact ok_M_lawOf
              · rcases Nat.lt_or_ge m 124 with h8 | h8
                · obtain rfl : m = 123 := by omega; exact ok_M_law
                · obtain rfl : m = 124 := by omega; exact ok_Day_takesIn
            · rcases Nat.lt_or_ge m 127 with h7 | h7
              · rcases Nat.lt_or_ge m 126 with h8 | h8
                · obtain rfl : m = 125 := by omega; exact ok_Log_note
                · obtain rfl : m = 126 := by omega; exact ok_C_ring
              · rcases Nat.lt_or_ge m 128 with h8 | h8
                · obtain rfl : m = 127 := by omega; exact ok_M_put
                · rcases Nat.lt_or_ge m 129 with h9 | h9
                  · obtain rfl : m = 128 := by omega; exact ok_M_remember
                  · obtain rfl : m = 129 := by omega; exact ok_M_joins
  · rcases Nat.lt_or_ge m 195 with h2 | h2
    · rcases Nat.lt_or_ge m 162 with h3 | h3
      · rcases Nat.lt_or_ge m 146 with h4 | h4
        · rcases Nat.lt_or_ge m 138 with h5 | h5
          · rcases Nat.lt_or_ge m 134 with h6 | h6
            · rcases Nat.lt_or_ge m 132 with h7 | h7
              · rcases Nat.lt_or_ge m 131 with h8 | h8
                · obtain rfl : m = 130 := by omega; exact ok_M_ring
                · obtain rfl : m = 131 := by omega; exact ok_Day_takeOut
              · rcases Nat.lt_or_ge m 133 with h8 | h8
                · obtain rfl : m = 132 := by omega; exact ok_C_hangUp
                · obtain rfl : m = 133 := by omega; exact ok_M_leaves
            · rcases Nat.lt_or_ge m 136 with h7 | h7
              · rcases Nat.lt_or_ge m 135 with h8 | h8
                · obtain rfl : m = 134 := by omega; exact ok_M_hangUp
                · obtain rfl : m = 135 := by omega; exact ok_C_set
              · rcases Nat.lt_or_ge m 137 with h8 | h8
                · obtain rfl : m = 136 := by omega; exact ok_M_set
                · obtain rfl : m = 137 := by omega; exact ok_Day_isOneThere
          · rcases Nat.lt_or_ge m 142 with h6 | h6
            · rcases Nat.lt_or_ge m 140 with h7 | h7
              · rcases Nat.lt_or_ge m 139 with h8 | h8
                · obtain rfl : m = 138 := by omega; exact ok_C_putOff
                · obtain rfl : m = 139 := by omega; exact ok_M_isOpen
              · rcases Nat.lt_or_ge m 141 with h8 | h8
                · obtain rfl : m = 140 := by omega; exact ok_M_putOff
                · obtain rfl : m = 141 := by omega; exact ok_Way_takeRings
            · rcases Nat.lt_or_ge m 144 with h7 | h7
              · rcases Nat.lt_or_ge m 143 with h8 | h8
                · obtain rfl : m = 142 := by omega; exact ok_Day_drawNumber
                · obtain rfl : m = 143 := by omega; exact ok_Way_isStrangerRinging
              · rcases Nat.lt_or_ge m 145 with h8 | h8
                · obtain rfl : m = 144 := by omega; exact ok_Day_takesStranger
                · obtain rfl : m = 145 := by omega; exact ok_C_within
        · rcases Nat.lt_or_ge m 154 with h5 | h5
          · rcases Nat.lt_or_ge m 150 with h6 | h6
            · rcases Nat.lt_or_ge m 148 with h7 | h7
              · rcases Nat.lt_or_ge m 147 with h8 | h8
                · obtain rfl : m = 146 := by omega; exact ok_Way_isCold
                · obtain rfl : m = 147 := by omega; exact ok_Way_startTalk
              · rcases Nat.lt_or_ge m 149 with h8 | h8
                · obtain rfl : m = 148 := by omega; exact ok_Way_goOnTalking
                · obtain rfl : m = 149 := by omega; exact ok_Way_driftAll
            · rcases Nat.lt_or_ge m 152 with h7 | h7
              · rcases Nat.lt_or_ge m 151 with h8 | h8
                · obtain rfl : m = 150 := by omega; exact ok_Way_meet
                · obtain rfl : m = 151 := by omega; exact ok_Way_passMinute
              · rcases Nat.lt_or_ge m 153 with h8 | h8
                · obtain rfl : m = 152 := by omega; exact ok_C_go
                · obtain rfl : m = 153 := by omega; exact ok_M_number1
          · rcases Nat.lt_or_ge m 158 with h6 | h6
            · rcases Nat.lt_or_ge m 156 with h7 | h7
              · rcases Nat.lt_or_ge m 155 with h8 | h8
                · obtain rfl : m = 154 := by omega; exact ok_M_isStranger
                · obtain rfl : m = 155 := by omega; exact ok_M_boundLaw
              · rcases Nat.lt_or_ge m 157 with h8 | h8
                · obtain rfl : m = 156 := by omega; exact ok_M_isCold
                · obtain rfl : m = 157 := by omega; exact ok_M_begins
            · rcases Nat.lt_or_ge m 160 with h7 | h7
              · rcases Nat.lt_or_ge m 159 with h8 | h8
                · obtain rfl : m = 158 := by omega; exact ok_M_isTold
                · obtain rfl : m = 159 := by omega; exact ok_M_within
              · rcases Nat.lt_or_ge m 161 with h8 | h8
                · obtain rfl : m = 160 := by omega; exact ok_M_drifts
                · obtain rfl : m = 161 := by omega; exact ok_M_comes
      · rcases Nat.lt_or_ge m 178 with h4 | h4
        · rcases Nat.lt_or_ge m 170 with h5 | h5
          · rcases Nat.lt_or_ge m 166 with h6 | h6
            · rcases Nat.lt_or_ge m 164 with h7 | h7
              · rcases Nat.lt_or_ge m 163 with h8 | h8
                · obtain rfl : m = 162 := by omega; exact ok_M_meets
                · obtain rfl : m = 163 := by omega; exact ok_M_minuteGoes
              · rcases Nat.lt_or_ge m 165 with h8 | h8
                · obtain rfl : m = 164 := by omega; exact ok_M_go
                · obtain rfl : m = 165 := by omega; exact ok_Day_copy
            · rcases Nat.lt_or_ge m 168 with h7 | h7
              · rcases Nat.lt_or_ge m 167 with h8 | h8
                · obtain rfl : m = 166 := by omega; exact ok_C_startTrial
                · obtain rfl : m = 167 := by omega; exact ok_C_passTrial
              · rcases Nat.lt_or_ge m 169 with h8 | h8
                · obtain rfl : m = 168 := by omega; exact ok_Day_howMany
                · obtain rfl : m = 169 := by omega; exact ok_C_ahead
          · rcases Nat.lt_or_ge m 174 with h6 | h6
            · rcases Nat.lt_or_ge m 172 with h7 | h7
              · rcases Nat.lt_or_ge m 171 with h8 | h8
                · obtain rfl : m = 170 := by omega; exact ok_M_layTried
                · obtain rfl : m = 171 := by omega; exact ok_M_goMany
              · rcases Nat.lt_or_ge m 173 with h8 | h8
                · obtain rfl : m = 172 := by omega; exact ok_M_are
                · obtain rfl : m = 173 := by omega; exact ok_M_ahead
            · rcases Nat.lt_or_ge m 176 with h7 | h7
              · rcases Nat.lt_or_ge m 175 with h8 | h8
                · obtain rfl : m = 174 := by omega; exact ok_C_minutesTillTold
                · obtain rfl : m = 175 := by omega; exact ok_C_delay
              · rcases Nat.lt_or_ge m 177 with h8 | h8
                · obtain rfl : m = 176 := by omega; exact ok_M_toldBy
                · obtain rfl : m = 177 := by omega; exact ok_M_delay
        · rcases Nat.lt_or_ge m 186 with h5 | h5
          · rcases Nat.lt_or_ge m 182 with h6 | h6
            · rcases Nat.lt_or_ge m 180 with h7 | h7
              · rcases Nat.lt_or_ge m 179 with h8 | h8
                · obtain rfl : m = 178 := by omega; exact ok_C_bestRing
                · obtain rfl : m = 179 := by omega; exact ok_M_bestRing
              · rcases Nat.lt_or_ge m 181 with h8 | h8
                · obtain rfl : m = 180 := by omega; exact ok_J_bitCount
                · obtain rfl : m = 181 := by omega; exact ok_Day_spread
            · rcases Nat.lt_or_ge m 184 with h7 | h7
              · rcases Nat.lt_or_ge m 183 with h8 | h8
                · obtain rfl : m = 182 := by omega; exact ok_C_spreadIfRinging
                · obtain rfl : m = 183 := by omega; exact ok_C_near
              · rcases Nat.lt_or_ge m 185 with h8 | h8
                · obtain rfl : m = 184 := by omega; exact ok_M_manyOf
                · obtain rfl : m = 185 := by omega; exact ok_M_isOf
          · rcases Nat.lt_or_ge m 190 with h6 | h6
            · rcases Nat.lt_or_ge m 188 with h7 | h7
              · rcases Nat.lt_or_ge m 187 with h8 | h8
                · obtain rfl : m = 186 := by omega; exact ok_M_spread
                · obtain rfl : m = 187 := by omega; exact ok_M_near
              · rcases Nat.lt_or_ge m 189 with h8 | h8
                · obtain rfl : m = 188 := by omega; exact ok_C_liars
                · obtain rfl : m = 189 := by omega; exact ok_M_liars
            · rcases Nat.lt_or_ge m 192 with h7 | h7
              · rcases Nat.lt_or_ge m 191 with h8 | h8
                · obtain rfl : m = 190 := by omega; exact ok_Day_howManySlower
                · obtain rfl : m = 191 := by omega; exact ok_C_median
              · rcases Nat.lt_or_ge m 193 with h8 | h8
                · obtain rfl : m = 192 := by omega; exact ok_M_median
                · rcases Nat.lt_or_ge m 194 with h9 | h9
                  · obtain rfl : m = 193 := by omega; exact ok_C_agree
                  · obtain rfl : m = 194 := by omega; exact ok_M_agree
    · rcases Nat.lt_or_ge m 227 with h3 | h3
      · rcases Nat.lt_or_ge m 211 with h4 | h4
        · rcases Nat.lt_or_ge m 203 with h5 | h5
          · rcases Nat.lt_or_ge m 199 with h6 | h6
            · rcases Nat.lt_or_ge m 197 with h7 | h7
              · rcases Nat.lt_or_ge m 196 with h8 | h8
                · obtain rfl : m = 195 := by omega; exact ok_C_isKeptInTrial
                · obtain rfl : m = 196 := by omega; exact ok_C_needs
              · rcases Nat.lt_or_ge m 198 with h8 | h8
                · obtain rfl : m = 197 := by omega; exact ok_M_needs
                · obtain rfl : m = 198 := by omega; exact ok_C_certain
            · rcases Nat.lt_or_ge m 201 with h7 | h7
              · rcases Nat.lt_or_ge m 200 with h8 | h8
                · obtain rfl : m = 199 := by omega; exact ok_M_certain
                · obtain rfl : m = 200 := by omega; exact ok_C_latest
              · rcases Nat.lt_or_ge m 202 with h8 | h8
                · obtain rfl : m = 201 := by omega; exact ok_M_latest
                · obtain rfl : m = 202 := by omega; exact ok_C_areTwo
          · rcases Nat.lt_or_ge m 207 with h6 | h6
            · rcases Nat.lt_or_ge m 205 with h7 | h7
              · rcases Nat.lt_or_ge m 204 with h8 | h8
                · obtain rfl : m = 203 := by omega; exact ok_C_gain
                · obtain rfl : m = 204 := by omega; exact ok_C_isRest
              · rcases Nat.lt_or_ge m 206 with h8 | h8
                · obtain rfl : m = 205 := by omega; exact ok_C_rests
                · obtain rfl : m = 206 := by omega; exact ok_M_areTwo
            · rcases Nat.lt_or_ge m 209 with h7 | h7
              · rcases Nat.lt_or_ge m 208 with h8 | h8
                · obtain rfl : m = 207 := by omega; exact ok_M_hasBy
                · obtain rfl : m = 208 := by omega; exact ok_M_restAt
              · rcases Nat.lt_or_ge m 210 with h8 | h8
                · obtain rfl : m = 209 := by omega; exact ok_M_rests
                · obtain rfl : m = 210 := by omega; exact ok_C_rest
        · rcases Nat.lt_or_ge m 219 with h5 | h5
          · rcases Nat.lt_or_ge m 215 with h6 | h6
            · rcases Nat.lt_or_ge m 213 with h7 | h7
              · rcases Nat.lt_or_ge m 212 with h8 | h8
                · obtain rfl : m = 211 := by omega; exact ok_M_rest
                · obtain rfl : m = 212 := by omega; exact ok_C_apart
              · rcases Nat.lt_or_ge m 214 with h8 | h8
                · obtain rfl : m = 213 := by omega; exact ok_M_apart
                · obtain rfl : m = 214 := by omega; exact ok_C_quiet
            · rcases Nat.lt_or_ge m 217 with h7 | h7
              · rcases Nat.lt_or_ge m 216 with h8 | h8
                · obtain rfl : m = 215 := by omega; exact ok_M_quiet
                · obtain rfl : m = 216 := by omega; exact ok_C_firstMissed
              · rcases Nat.lt_or_ge m 218 with h8 | h8
                · obtain rfl : m = 217 := by omega; exact ok_M_firstMissed
                · obtain rfl : m = 218 := by omega; exact ok_C_longest
          · rcases Nat.lt_or_ge m 223 with h6 | h6
            · rcases Nat.lt_or_ge m 221 with h7 | h7
              · rcases Nat.lt_or_ge m 220 with h8 | h8
                · obtain rfl : m = 219 := by omega; exact ok_M_longest
                · obtain rfl : m = 220 := by omega; exact ok_C_queue
              · rcases Nat.lt_or_ge m 222 with h8 | h8
                · obtain rfl : m = 221 := by omega; exact ok_M_queue
                · obtain rfl : m = 222 := by omega; exact ok_C_there
            · rcases Nat.lt_or_ge m 225 with h7 | h7
              · rcases Nat.lt_or_ge m 224 with h8 | h8
                · obtain rfl : m = 223 := by omega; exact ok_M_there
                · obtain rfl : m = 224 := by omega; exact ok_Seen_addSight
              · rcases Nat.lt_or_ge m 226 with h8 | h8
                · obtain rfl : m = 225 := by omega; exact ok_C_see
                · obtain rfl : m = 226 := by omega; exact ok_M_noted
      · rcases Nat.lt_or_ge m 243 with h4 | h4
        · rcases Nat.lt_or_ge m 235 with h5 | h5
          · rcases Nat.lt_or_ge m 231 with h6 | h6
            · rcases Nat.lt_or_ge m 229 with h7 | h7
              · rcases Nat.lt_or_ge m 228 with h8 | h8
                · obtain rfl : m = 227 := by omega; exact ok_M_see
                · obtain rfl : m = 228 := by omega; exact ok_Seen_addStrike
              · rcases Nat.lt_or_ge m 230 with h8 | h8
                · obtain rfl : m = 229 := by omega; exact ok_C_strike
                · obtain rfl : m = 230 := by omega; exact ok_M_strike
            · rcases Nat.lt_or_ge m 233 with h7 | h7
              · rcases Nat.lt_or_ge m 232 with h8 | h8
                · obtain rfl : m = 231 := by omega; exact ok_C_known
                · obtain rfl : m = 232 := by omega; exact ok_M_known
              · rcases Nat.lt_or_ge m 234 with h8 | h8
                · obtain rfl : m = 233 := by omega; exact ok_Seen_knownBy
                · obtain rfl : m = 234 := by omega; exact ok_Seen_judge
          · rcases Nat.lt_or_ge m 239 with h6 | h6
            · rcases Nat.lt_or_ge m 237 with h7 | h7
              · rcases Nat.lt_or_ge m 236 with h8 | h8
                · obtain rfl : m = 235 := by omega; exact ok_Seen_lastMinute
                · obtain rfl : m = 236 := by omega; exact ok_Seen_isSo
              · rcases Nat.lt_or_ge m 238 with h8 | h8
                · obtain rfl : m = 237 := by omega; exact ok_C_isAllSeenSo
                · obtain rfl : m = 238 := by omega; exact ok_C_rates
            · rcases Nat.lt_or_ge m 241 with h7 | h7
              · rcases Nat.lt_or_ge m 240 with h8 | h8
                · obtain rfl : m = 239 := by omega; exact ok_M_knownBy
                · obtain rfl : m = 240 := by omega; exact ok_M_isSo
              · rcases Nat.lt_or_ge m 242 with h8 | h8
                · obtain rfl : m = 241 := by omega; exact ok_M_fits
                · obtain rfl : m = 242 := by omega; exact ok_M_rates
        · rcases Nat.lt_or_ge m 251 with h5 | h5
          · rcases Nat.lt_or_ge m 247 with h6 | h6
            · rcases Nat.lt_or_ge m 245 with h7 | h7
              · rcases Nat.lt_or_ge m 244 with h8 | h8
                · obtain rfl : m = 243 := by omega; exact ok_C_chance
                · obtain rfl : m = 244 := by omega; exact ok_M_chance
              · rcases Nat.lt_or_ge m 246 with h8 | h8
                · obtain rfl : m = 245 := by omega; exact ok_Way_change
                · obtain rfl : m = 246 := by omega; exact ok_C_tried
            · rcases Nat.lt_or_ge m 249 with h7 | h7
              · rcases Nat.lt_or_ge m 248 with h8 | h8
                · obtain rfl : m = 247 := by omega; exact ok_M_tried
                · obtain rfl : m = 248 := by omega; exact ok_Day_putIn
              · rcases Nat.lt_or_ge m 250 with h8 | h8
                · obtain rfl : m = 249 := by omega; exact ok_C_undo
                · obtain rfl : m = 250 := by omega; exact ok_M_take
          · rcases Nat.lt_or_ge m 255 with h6 | h6
            · rcases Nat.lt_or_ge m 253 with h7 | h7
              · rcases Nat.lt_or_ge m 252 with h8 | h8
                · obtain rfl : m = 251 := by omega; exact ok_M_undo
                · obtain rfl : m = 252 := by omega; exact ok_C_keep
              · rcases Nat.lt_or_ge m 254 with h8 | h8
                · obtain rfl : m = 253 := by omega; exact ok_M_keep
                · obtain rfl : m = 254 := by omega; exact ok_C_back
            · rcases Nat.lt_or_ge m 257 with h7 | h7
              · rcases Nat.lt_or_ge m 256 with h8 | h8
                · obtain rfl : m = 255 := by omega; exact ok_M_back
                · obtain rfl : m = 256 := by omega; exact ok_Day_toldInAll
              · rcases Nat.lt_or_ge m 258 with h8 | h8
                · obtain rfl : m = 257 := by omega; exact ok_C_count
                · rcases Nat.lt_or_ge m 259 with h9 | h9
                  · obtain rfl : m = 258 := by omega; exact ok_M_count
                  · obtain rfl : m = 259 := by omega; exact ok_L_law
