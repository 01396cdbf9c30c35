theorem ok_M_ring : m_okL i_M_ring (mcd i_M_ring) = true := by decide +kernel
theorem ok_Day_takeOut : m_okL i_Day_takeOut (mcd i_Day_takeOut) = true := by decide +kernel
theorem ok_C_hangUp : m_okL i_C_hangUp (mcd i_C_hangUp) = true := by decide +kernel
theorem ok_M_leaves : m_okL i_M_leaves (mcd i_M_leaves) = true := by decide +kernel
theorem ok_M_hangUp : m_okL i_M_hangUp (mcd i_M_hangUp) = true := by decide +kernel
theorem ok_C_set : m_okL i_C_set (mcd i_C_set) = true := by decide +kernel
theorem ok_M_set : m_okL i_M_set (mcd i_M_set) = true := by decide +kernel
theorem ok_Day_isOneThere : m_okL i_Day_isOneThere (mcd i_Day_isOneThere) = true := by decide +kernel
theorem ok_C_putOff : m_okL i_C_putOff (mcd i_C_putOff) = true := by decide +kernel
theorem ok_M_isOpen : m_okL i_M_isOpen (mcd i_M_isOpen) = true := by decide +kernel
theorem ok_M_putOff : m_okL i_M_putOff (mcd i_M_putOff) = true := by decide +kernel
theorem ok_Way_takeRings : m_okL i_Way_takeRings (mcd i_Way_takeRings) = true := by decide +kernel
theorem ok_Day_drawNumber : m_okL i_Day_drawNumber (mcd i_Day_drawNumber) = true := by decide +kernel
theorem ok_Way_isStrangerRinging : m_okL i_Way_isStrangerRinging (mcd i_Way_isStrangerRinging) = true := by decide +kernel
theorem ok_Day_takesStranger : m_okL i_Day_takesStranger (mcd i_Day_takesStranger) = true := by decide +kernel
theorem ok_C_within : m_okL i_C_within (mcd i_C_within) = true := by decide +kernel
theorem ok_Way_isCold : m_okL i_Way_isCold (mcd i_Way_isCold) = true := by decide +kernel
theorem ok_Way_startTalk : m_okL i_Way_startTalk (mcd i_Way_startTalk) = true := by decide +kernel
theorem ok_Way_goOnTalking : m_okL i_Way_goOnTalking (mcd i_Way_goOnTalking) = true := by decide +kernel
theorem ok_Way_driftAll : m_okL i_Way_driftAll (mcd i_Way_driftAll) = true := by decide +kernel
theorem ok_Way_meet : m_okL i_Way_meet (mcd i_Way_meet) = true := by decide +kernel
theorem ok_Way_passMinute : m_okL i_Way_passMinute (mcd i_Way_passMinute) = true := by decide +kernel
theorem ok_C_go : m_okL i_C_go (mcd i_C_go) = true := by decide +kernel
theorem ok_M_number1 : m_okL i_M_number1 (mcd i_M_number1) = true := by decide +kernel
theorem ok_M_isStranger : m_okL i_M_isStranger (mcd i_M_isStranger) = true := by decide +kernel
theorem ok_M_boundLaw : m_okL i_M_boundLaw (mcd i_M_boundLaw) = true := by decide +kernel
theorem ok_M_isCold : m_okL i_M_isCold (mcd i_M_isCold) = true := by decide +kernel
theorem ok_M_begins : m_okL i_M_begins (mcd i_M_begins) = true := by decide +kernel
theorem ok_M_isTold : m_okL i_M_isTold (mcd i_M_isTold) = true := by decide +kernel
theorem ok_M_within : m_okL i_M_within (mcd i_M_within) = true := by decide +kernel
theorem ok_M_drifts : m_okL i_M_drifts (mcd i_M_drifts) = true := by decide +kernel
theorem ok_M_comes : m_okL i_M_comes (mcd i_M_comes) = true := by decide +kernel
theorem ok_M_meets : m_okL i_M_meets (mcd i_M_meets) = true := by decide +kernel
theorem ok_M_minuteGoes_0 : (((mcd i_M_minuteGoes).drop (0 + 40 * 0)).take 40).all (m_okE i_M_minuteGoes) = true := by decide +kernel
theorem ok_M_minuteGoes_1 : (((mcd i_M_minuteGoes).drop (0 + 40 * 1)).take 40).all (m_okE i_M_minuteGoes) = true := by decide +kernel
theorem ok_M_minuteGoes_2 : (((mcd i_M_minuteGoes).drop (0 + 40 * 2)).take 40).all (m_okE i_M_minuteGoes) = true := by decide +kernel
theorem ok_M_minuteGoes_3 : (((mcd i_M_minuteGoes).drop (0 + 40 * 3)).take 40).all (m_okE i_M_minuteGoes) = true := by decide +kernel
theorem ok_M_minuteGoes_c : m_chain (mcd i_M_minuteGoes) = true := by decide +kernel
theorem ok_M_minuteGoes_l : (mcd i_M_minuteGoes).length ≤ 0 + 4 * 40 := by decide +kernel
theorem ok_M_minuteGoes : m_okL i_M_minuteGoes (mcd i_M_minuteGoes) = true := m_okL_of 40 4 ok_M_minuteGoes_l (fun k hk => match k, hk with
  | 0, _ => ok_M_minuteGoes_0
  | 1, _ => ok_M_minuteGoes_1
  | 2, _ => ok_M_minuteGoes_2
  | 3, _ => ok_M_minuteGoes_3
  | _ + 4, hk => absurd hk (by omega)) ok_M_minuteGoes_c
theorem ok_M_go : m_okL i_M_go (mcd i_M_go) = true := by decide +kernel
theorem ok_Day_copy : m_okL i_Day_copy (mcd i_Day_copy) = true := by decide +kernel
theorem ok_C_startTrial : m_okL i_C_startTrial (mcd i_C_startTrial) = true := by decide +kernel
theorem ok_C_passTrial : m_okL i_C_passTrial (mcd i_C_passTrial) = true := by decide +kernel
theorem ok_Day_howMany : m_okL i_Day_howMany (mcd i_Day_howMany) = true := by decide +kernel
theorem ok_C_ahead : m_okL i_C_ahead (mcd i_C_ahead) = true := by decide +kernel
theorem ok_M_layTried_0 : (((mcd i_M_layTried).drop (0 + 40 * 0)).take 40).all (m_okE i_M_layTried) = true := by decide +kernel
theorem ok_M_layTried_1 : (((mcd i_M_layTried).drop (0 + 40 * 1)).take 40).all (m_okE i_M_layTried) = true := by decide +kernel
theorem ok_M_layTried_2 : (((mcd i_M_layTried).drop (0 + 40 * 2)).take 40).all (m_okE i_M_layTried) = true := by decide +kernel
theorem ok_M_layTried_3 : (((mcd i_M_layTried).drop (0 + 40 * 3)).take 40).all (m_okE i_M_layTried) = true := by decide +kernel
theorem ok_M_layTried_4 : (((mcd i_M_layTried).drop (0 + 40 * 4)).take 40).all (m_okE i_M_layTried) = true := by decide +kernel
theorem ok_M_layTried_c : m_chain (mcd i_M_layTried) = true := by decide +kernel
theorem ok_M_layTried_l : (mcd i_M_layTried).length ≤ 0 + 5 * 40 := by decide +kernel
theorem ok_M_layTried : m_okL i_M_layTried (mcd i_M_layTried) = true := m_okL_of 40 5 ok_M_layTried_l (fun k hk => match k, hk with
  | 0, _ => ok_M_layTried_0
  | 1, _ => ok_M_layTried_1
  | 2, _ => ok_M_layTried_2
  | 3, _ => ok_M_layTried_3
  | 4, _ => ok_M_layTried_4
  | _ + 5, hk => absurd hk (by omega)) ok_M_layTried_c
theorem ok_M_goMany : m_okL i_M_goMany (mcd i_M_goMany) = true := by decide +kernel
theorem ok_M_are : m_okL i_M_are (mcd i_M_are) = true := by decide +kernel
theorem ok_M_ahead : m_okL i_M_ahead (mcd i_M_ahead) = true := by decide +kernel
theorem ok_C_minutesTillTold : m_okL i_C_minutesTillTold (mcd i_C_minutesTillTold) = true := by decide +kernel
theorem ok_C_delay : m_okL i_C_delay (mcd i_C_delay) = true := by decide +kernel
theorem ok_M_toldBy : m_okL i_M_toldBy (mcd i_M_toldBy) = true := by decide +kernel
theorem ok_M_delay : m_okL i_M_delay (mcd i_M_delay) = true := by decide +kernel
theorem ok_C_bestRing : m_okL i_C_bestRing (mcd i_C_bestRing) = true := by decide +kernel
theorem ok_M_bestRing : m_okL i_M_bestRing (mcd i_M_bestRing) = true := by decide +kernel
theorem ok_J_bitCount : m_okL i_J_bitCount (mcd i_J_bitCount) = true := by decide +kernel
theorem ok_Day_spread : m_okL i_Day_spread (mcd i_Day_spread) = true := by decide +kernel
theorem ok_C_spreadIfRinging : m_okL i_C_spreadIfRinging (mcd i_C_spreadIfRinging) = true := by decide +kernel
