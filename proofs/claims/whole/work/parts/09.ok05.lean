theorem ok_Day_putIn : m_okL i_Day_putIn (mcd i_Day_putIn) = true := by decide +kernel
theorem ok_C_undo : m_okL i_C_undo (mcd i_C_undo) = true := by decide +kernel
theorem ok_M_take : m_okL i_M_take (mcd i_M_take) = true := by decide +kernel
theorem ok_M_undo : m_okL i_M_undo (mcd i_M_undo) = true := by decide +kernel
theorem ok_C_keep : m_okL i_C_keep (mcd i_C_keep) = true := by decide +kernel
theorem ok_M_keep : m_okL i_M_keep (mcd i_M_keep) = true := by decide +kernel
theorem ok_C_back : m_okL i_C_back (mcd i_C_back) = true := by decide +kernel
theorem ok_M_back : m_okL i_M_back (mcd i_M_back) = true := by decide +kernel
theorem ok_Day_toldInAll : m_okL i_Day_toldInAll (mcd i_Day_toldInAll) = true := by decide +kernel
theorem ok_C_count : m_okL i_C_count (mcd i_C_count) = true := by decide +kernel
theorem ok_M_count : m_okL i_M_count (mcd i_M_count) = true := by decide +kernel
theorem ok_L_law_0 : (((mcd i_L_law).drop (0 + 40 * 0)).take 40).all (m_okE i_L_law) = true := by decide +kernel
theorem ok_L_law_1 : (((mcd i_L_law).drop (0 + 40 * 1)).take 40).all (m_okE i_L_law) = true := by decide +kernel
theorem ok_L_law_2 : (((mcd i_L_law).drop (0 + 40 * 2)).take 40).all (m_okE i_L_law) = true := by decide +kernel
theorem ok_L_law_3 : (((mcd i_L_law).drop (0 + 40 * 3)).take 40).all (m_okE i_L_law) = true := by decide +kernel
theorem ok_L_law_4 : (((mcd i_L_law).drop (0 + 40 * 4)).take 40).all (m_okE i_L_law) = true := by decide +kernel
theorem ok_L_law_5 : (((mcd i_L_law).drop (0 + 40 * 5)).take 40).all (m_okE i_L_law) = true := by decide +kernel
theorem ok_L_law_6 : (((mcd i_L_law).drop (0 + 40 * 6)).take 40).all (m_okE i_L_law) = true := by decide +kernel
theorem ok_L_law_7 : (((mcd i_L_law).drop (0 + 40 * 7)).take 40).all (m_okE i_L_law) = true := by decide +kernel
theorem ok_L_law_8 : (((mcd i_L_law).drop (0 + 40 * 8)).take 40).all (m_okE i_L_law) = true := by decide +kernel
theorem ok_L_law_9 : (((mcd i_L_law).drop (0 + 40 * 9)).take 40).all (m_okE i_L_law) = true := by decide +kernel
theorem ok_L_law_10 : (((mcd i_L_law).drop (0 + 40 * 10)).take 40).all (m_okE i_L_law) = true := by decide +kernel
theorem ok_L_law_11 : (((mcd i_L_law).drop (0 + 40 * 11)).take 40).all (m_okE i_L_law) = true := by decide +kernel
theorem ok_L_law_12 : (((mcd i_L_law).drop (0 + 40 * 12)).take 40).all (m_okE i_L_law) = true := by decide +kernel
theorem ok_L_law_13 : (((mcd i_L_law).drop (0 + 40 * 13)).take 40).all (m_okE i_L_law) = true := by decide +kernel
theorem ok_L_law_14 : (((mcd i_L_law).drop (0 + 40 * 14)).take 40).all (m_okE i_L_law) = true := by decide +kernel
theorem ok_L_law_15 : (((mcd i_L_law).drop (0 + 40 * 15)).take 40).all (m_okE i_L_law) = true := by decide +kernel
