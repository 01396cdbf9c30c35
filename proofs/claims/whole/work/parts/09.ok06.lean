theorem ok_L_law_16 : (((mcd i_L_law).drop (0 + 40 * 16)).take 40).all (m_okE i_L_law) = true := by decide +kernel
theorem ok_L_law_17 : (((mcd i_L_law).drop (0 + 40 * 17)).take 40).all (m_okE i_L_law) = true := by decide +kernel
theorem ok_L_law_18 : (((mcd i_L_law).drop (0 + 40 * 18)).take 40).all (m_okE i_L_law) = true := by decide +kernel
theorem ok_L_law_19 : (((mcd i_L_law).drop (0 + 40 * 19)).take 40).all (m_okE i_L_law) = true := by decide +kernel
theorem ok_L_law_20 : (((mcd i_L_law).drop (0 + 40 * 20)).take 40).all (m_okE i_L_law) = true := by decide +kernel
theorem ok_L_law_21 : (((mcd i_L_law).drop (0 + 40 * 21)).take 40).all (m_okE i_L_law) = true := by decide +kernel
theorem ok_L_law_22 : (((mcd i_L_law).drop (0 + 40 * 22)).take 40).all (m_okE i_L_law) = true := by decide +kernel
theorem ok_L_law_23 : (((mcd i_L_law).drop (0 + 40 * 23)).take 40).all (m_okE i_L_law) = true := by decide +kernel
theorem ok_L_law_c : m_chain (mcd i_L_law) = true := by decide +kernel
theorem ok_L_law_l : (mcd i_L_law).length ≤ 0 + 24 * 40 := by decide +kernel
theorem ok_L_law : m_okL i_L_law (mcd i_L_law) = true := m_okL_of 40 24 ok_L_law_l (fun k hk => match k, hk with
  | 0, _ => ok_L_law_0
  | 1, _ => ok_L_law_1
  | 2, _ => ok_L_law_2
  | 3, _ => ok_L_law_3
  | 4, _ => ok_L_law_4
  | 5, _ => ok_L_law_5
  | 6, _ => ok_L_law_6
  | 7, _ => ok_L_law_7
  | 8, _ => ok_L_law_8
  | 9, _ => ok_L_law_9
  | 10, _ => ok_L_law_10
  | 11, _ => ok_L_law_11
  | 12, _ => ok_L_law_12
  | 13, _ => ok_L_law_13
  | 14, _ => ok_L_law_14
  | 15, _ => ok_L_law_15
  | 16, _ => ok_L_law_16
  | 17, _ => ok_L_law_17
  | 18, _ => ok_L_law_18
  | 19, _ => ok_L_law_19
  | 20, _ => ok_L_law_20
  | 21, _ => ok_L_law_21
  | 22, _ => ok_L_law_22
  | 23, _ => ok_L_law_23
  | _ + 24, hk => absurd hk (by omega)) ok_L_law_c
