theorem ok_Tokens_init : m_okL i_Tokens_init (mcd i_Tokens_init) = true := by decide +kernel
theorem ok_LawReader_init : m_okL i_LawReader_init (mcd i_LawReader_init) = true := by decide +kernel
theorem ok_Laws_init : m_okL i_Laws_init (mcd i_Laws_init) = true := by decide +kernel
theorem ok_Plan_init : m_okL i_Plan_init (mcd i_Plan_init) = true := by decide +kernel
theorem ok_LineReader_init : m_okL i_LineReader_init (mcd i_LineReader_init) = true := by decide +kernel
theorem ok_Day_init : m_okL i_Day_init (mcd i_Day_init) = true := by decide +kernel
theorem ok_Way_init : m_okL i_Way_init (mcd i_Way_init) = true := by decide +kernel
theorem ok_Seen_init : m_okL i_Seen_init (mcd i_Seen_init) = true := by decide +kernel
theorem ok_Log_init : m_okL i_Log_init (mcd i_Log_init) = true := by decide +kernel
theorem ok_C_init : m_okL i_C_init (mcd i_C_init) = true := by decide +kernel
theorem ok_M_plain : m_okL i_M_plain (mcd i_M_plain) = true := by decide +kernel
theorem ok_M_copies : m_okL i_M_copies (mcd i_M_copies) = true := by decide +kernel
theorem ok_M_atFirst : m_okL i_M_atFirst (mcd i_M_atFirst) = true := by decide +kernel
theorem ok_M_plainTried : m_okL i_M_plainTried (mcd i_M_plainTried) = true := by decide +kernel
theorem ok_M_begin : m_okL i_M_begin (mcd i_M_begin) = true := by decide +kernel
theorem ok_M_keepText : m_okL i_M_keepText (mcd i_M_keepText) = true := by decide +kernel
theorem ok_M_init_0 : (((mcd i_M_init).drop (0 + 40 * 0)).take 40).all (m_okE i_M_init) = true := by decide +kernel
theorem ok_M_init_1 : (((mcd i_M_init).drop (0 + 40 * 1)).take 40).all (m_okE i_M_init) = true := by decide +kernel
theorem ok_M_init_2 : (((mcd i_M_init).drop (0 + 40 * 2)).take 40).all (m_okE i_M_init) = true := by decide +kernel
theorem ok_M_init_3 : (((mcd i_M_init).drop (0 + 40 * 3)).take 40).all (m_okE i_M_init) = true := by decide +kernel
theorem ok_M_init_4 : (((mcd i_M_init).drop (0 + 40 * 4)).take 40).all (m_okE i_M_init) = true := by decide +kernel
theorem ok_M_init_5 : (((mcd i_M_init).drop (0 + 40 * 5)).take 40).all (m_okE i_M_init) = true := by decide +kernel
theorem ok_M_init_6 : (((mcd i_M_init).drop (0 + 40 * 6)).take 40).all (m_okE i_M_init) = true := by decide +kernel
theorem ok_M_init_7 : (((mcd i_M_init).drop (0 + 40 * 7)).take 40).all (m_okE i_M_init) = true := by decide +kernel
theorem ok_M_init_8 : (((mcd i_M_init).drop (0 + 40 * 8)).take 40).all (m_okE i_M_init) = true := by decide +kernel
theorem ok_M_init_9 : (((mcd i_M_init).drop (0 + 40 * 9)).take 40).all (m_okE i_M_init) = true := by decide +kernel
theorem ok_M_init_10 : (((mcd i_M_init).drop (0 + 40 * 10)).take 40).all (m_okE i_M_init) = true := by decide +kernel
theorem ok_M_init_11 : (((mcd i_M_init).drop (0 + 40 * 11)).take 40).all (m_okE i_M_init) = true := by decide +kernel
theorem ok_M_init_12 : (((mcd i_M_init).drop (0 + 40 * 12)).take 40).all (m_okE i_M_init) = true := by decide +kernel
theorem ok_M_init_13 : (((mcd i_M_init).drop (0 + 40 * 13)).take 40).all (m_okE i_M_init) = true := by decide +kernel
theorem ok_M_init_14 : (((mcd i_M_init).drop (0 + 40 * 14)).take 40).all (m_okE i_M_init) = true := by decide +kernel
