theorem ok_M_meetLine : m_okL i_M_meetLine (mcd i_M_meetLine) = true := by decide +kernel
theorem ok_M_coldLine : m_okL i_M_coldLine (mcd i_M_coldLine) = true := by decide +kernel
theorem ok_M_onceLine : m_okL i_M_onceLine (mcd i_M_onceLine) = true := by decide +kernel
theorem ok_M_waitsFor : m_okL i_M_waitsFor (mcd i_M_waitsFor) = true := by decide +kernel
theorem ok_M_isKey : m_okL i_M_isKey (mcd i_M_isKey) = true := by decide +kernel
theorem ok_M_isCounted : m_okL i_M_isCounted (mcd i_M_isCounted) = true := by decide +kernel
theorem ok_M_nameMet : m_okL i_M_nameMet (mcd i_M_nameMet) = true := by decide +kernel
theorem ok_M_grown : m_okL i_M_grown (mcd i_M_grown) = true := by decide +kernel
theorem ok_M_leafRead : m_okL i_M_leafRead (mcd i_M_leafRead) = true := by decide +kernel
theorem ok_M_rank : m_okL i_M_rank (mcd i_M_rank) = true := by decide +kernel
theorem ok_M_dropHeld : m_okL i_M_dropHeld (mcd i_M_dropHeld) = true := by decide +kernel
theorem ok_M_bind : m_okL i_M_bind (mcd i_M_bind) = true := by decide +kernel
theorem ok_M_signs_0 : (((mcd i_M_signs).drop (0 + 40 * 0)).take 40).all (m_okE i_M_signs) = true := by decide +kernel
theorem ok_M_signs_1 : (((mcd i_M_signs).drop (0 + 40 * 1)).take 40).all (m_okE i_M_signs) = true := by decide +kernel
theorem ok_M_signs_2 : (((mcd i_M_signs).drop (0 + 40 * 2)).take 40).all (m_okE i_M_signs) = true := by decide +kernel
theorem ok_M_signs_3 : (((mcd i_M_signs).drop (0 + 40 * 3)).take 40).all (m_okE i_M_signs) = true := by decide +kernel
theorem ok_M_signs_c : m_chain (mcd i_M_signs) = true := by decide +kernel
theorem ok_M_signs_l : (mcd i_M_signs).length ≤ 0 + 4 * 40 := by decide +kernel
theorem ok_M_signs : m_okL i_M_signs (mcd i_M_signs) = true := m_okL_of 40 4 ok_M_signs_l (fun k hk => match k, hk with
  | 0, _ => ok_M_signs_0
  | 1, _ => ok_M_signs_1
  | 2, _ => ok_M_signs_2
  | 3, _ => ok_M_signs_3
  | _ + 4, hk => absurd hk (by omega)) ok_M_signs_c
theorem ok_M_sumRead : m_okL i_M_sumRead (mcd i_M_sumRead) = true := by decide +kernel
theorem ok_M_lineRead : m_okL i_M_lineRead (mcd i_M_lineRead) = true := by decide +kernel
theorem ok_M_text : m_okL i_M_text (mcd i_M_text) = true := by decide +kernel
theorem ok_C_fault : m_okL i_C_fault (mcd i_C_fault) = true := by decide +kernel
theorem ok_M_fault : m_okL i_M_fault (mcd i_M_fault) = true := by decide +kernel
theorem ok_C_named : m_okL i_C_named (mcd i_C_named) = true := by decide +kernel
theorem ok_M_named : m_okL i_M_named (mcd i_M_named) = true := by decide +kernel
theorem ok_C_isPerson : m_okL i_C_isPerson (mcd i_C_isPerson) = true := by decide +kernel
theorem ok_Day_placeOf : m_okL i_Day_placeOf (mcd i_Day_placeOf) = true := by decide +kernel
theorem ok_Day_modeOf : m_okL i_Day_modeOf (mcd i_Day_modeOf) = true := by decide +kernel
theorem ok_C_man : m_okL i_C_man (mcd i_C_man) = true := by decide +kernel
theorem ok_M_isMan : m_okL i_M_isMan (mcd i_M_isMan) = true := by decide +kernel
theorem ok_M_fails : m_okL i_M_fails (mcd i_M_fails) = true := by decide +kernel
theorem ok_M_placeOf : m_okL i_M_placeOf (mcd i_M_placeOf) = true := by decide +kernel
theorem ok_M_man : m_okL i_M_man (mcd i_M_man) = true := by decide +kernel
theorem ok_M_thrown : m_okL i_M_thrown (mcd i_M_thrown) = true := by decide +kernel
theorem ok_C_isMeeting : m_okL i_C_isMeeting (mcd i_C_isMeeting) = true := by decide +kernel
theorem ok_C_meeting : m_okL i_C_meeting (mcd i_C_meeting) = true := by decide +kernel
theorem ok_M_isMeeting : m_okL i_M_isMeeting (mcd i_M_isMeeting) = true := by decide +kernel
theorem ok_M_meeting : m_okL i_M_meeting (mcd i_M_meeting) = true := by decide +kernel
theorem ok_C_shows : m_okL i_C_shows (mcd i_C_shows) = true := by decide +kernel
theorem ok_M_shows : m_okL i_M_shows (mcd i_M_shows) = true := by decide +kernel
theorem ok_Way_follow : m_okL i_Way_follow (mcd i_Way_follow) = true := by decide +kernel
theorem ok_Laws_joined_0 : (((mcd i_Laws_joined).drop (0 + 40 * 0)).take 40).all (m_okE i_Laws_joined) = true := by decide +kernel
theorem ok_Laws_joined_1 : (((mcd i_Laws_joined).drop (0 + 40 * 1)).take 40).all (m_okE i_Laws_joined) = true := by decide +kernel
theorem ok_Laws_joined_2 : (((mcd i_Laws_joined).drop (0 + 40 * 2)).take 40).all (m_okE i_Laws_joined) = true := by decide +kernel
theorem ok_Laws_joined_3 : (((mcd i_Laws_joined).drop (0 + 40 * 3)).take 40).all (m_okE i_Laws_joined) = true := by decide +kernel
theorem ok_Laws_joined_c : m_chain (mcd i_Laws_joined) = true := by decide +kernel
theorem ok_Laws_joined_l : (mcd i_Laws_joined).length ≤ 0 + 4 * 40 := by decide +kernel
theorem ok_Laws_joined : m_okL i_Laws_joined (mcd i_Laws_joined) = true := m_okL_of 40 4 ok_Laws_joined_l (fun k hk => match k, hk with
  | 0, _ => ok_Laws_joined_0
  | 1, _ => ok_Laws_joined_1
  | 2, _ => ok_Laws_joined_2
  | 3, _ => ok_Laws_joined_3
  | _ + 4, hk => absurd hk (by omega)) ok_Laws_joined_c
theorem ok_Laws_valueOf_0 : (((mcd i_Laws_valueOf).drop (0 + 40 * 0)).take 40).all (m_okE i_Laws_valueOf) = true := by decide +kernel
theorem ok_Laws_valueOf_1 : (((mcd i_Laws_valueOf).drop (0 + 40 * 1)).take 40).all (m_okE i_Laws_valueOf) = true := by decide +kernel
theorem ok_Laws_valueOf_2 : (((mcd i_Laws_valueOf).drop (0 + 40 * 2)).take 40).all (m_okE i_Laws_valueOf) = true := by decide +kernel
theorem ok_Laws_valueOf_3 : (((mcd i_Laws_valueOf).drop (0 + 40 * 3)).take 40).all (m_okE i_Laws_valueOf) = true := by decide +kernel
theorem ok_Laws_valueOf_c : m_chain (mcd i_Laws_valueOf) = true := by decide +kernel
theorem ok_Laws_valueOf_l : (mcd i_Laws_valueOf).length ≤ 0 + 4 * 40 := by decide +kernel
theorem ok_Laws_valueOf : m_okL i_Laws_valueOf (mcd i_Laws_valueOf) = true := m_okL_of 40 4 ok_Laws_valueOf_l (fun k hk => match k, hk with
  | 0, _ => ok_Laws_valueOf_0
  | 1, _ => ok_Laws_valueOf_1
  | 2, _ => ok_Laws_valueOf_2
  | 3, _ => ok_Laws_valueOf_3
  | _ + 4, hk => absurd hk (by omega)) ok_Laws_valueOf_c
theorem ok_Way_lawOf : m_okL i_Way_lawOf (mcd i_Way_lawOf) = true := by decide +kernel
theorem ok_C_law : m_okL i_C_law (mcd i_C_law) = true := by decide +kernel
theorem ok_M_waitsOf : m_okL i_M_waitsOf (mcd i_M_waitsOf) = true := by decide +kernel
theorem ok_M_rateIn : m_okL i_M_rateIn (mcd i_M_rateIn) = true := by decide +kernel
theorem ok_M_layNames : m_okL i_M_layNames (mcd i_M_layNames) = true := by decide +kernel
theorem ok_M_bounded : m_okL i_M_bounded (mcd i_M_bounded) = true := by decide +kernel
theorem ok_M_times : m_okL i_M_times (mcd i_M_times) = true := by decide +kernel
theorem ok_M_compares : m_okL i_M_compares (mcd i_M_compares) = true := by decide +kernel
theorem ok_M_valueOf_0 : (((mcd i_M_valueOf).drop (0 + 40 * 0)).take 40).all (m_okE i_M_valueOf) = true := by decide +kernel
theorem ok_M_valueOf_1 : (((mcd i_M_valueOf).drop (0 + 40 * 1)).take 40).all (m_okE i_M_valueOf) = true := by decide +kernel
theorem ok_M_valueOf_2 : (((mcd i_M_valueOf).drop (0 + 40 * 2)).take 40).all (m_okE i_M_valueOf) = true := by decide +kernel
theorem ok_M_valueOf_3 : (((mcd i_M_valueOf).drop (0 + 40 * 3)).take 40).all (m_okE i_M_valueOf) = true := by decide +kernel
theorem ok_M_valueOf_c : m_chain (mcd i_M_valueOf) = true := by decide +kernel
theorem ok_M_valueOf_l : (mcd i_M_valueOf).length ≤ 0 + 4 * 40 := by decide +kernel
theorem ok_M_valueOf : m_okL i_M_valueOf (mcd i_M_valueOf) = true := m_okL_of 40 4 ok_M_valueOf_l (fun k hk => match k, hk with
  | 0, _ => ok_M_valueOf_0
  | 1, _ => ok_M_valueOf_1
  | 2, _ => ok_M_valueOf_2
  | 3, _ => ok_M_valueOf_3
  | _ + 4, hk => absurd hk (by omega)) ok_M_valueOf_c
theorem ok_M_lawOf : m_okL i_M_lawOf (mcd i_M_lawOf) = true := by decide +kernel
theorem ok_M_law : m_okL i_M_law (mcd i_M_law) = true := by decide +kernel
theorem ok_Day_takesIn : m_okL i_Day_takesIn (mcd i_Day_takesIn) = true := by decide +kernel
theorem ok_Log_note : m_okL i_Log_note (mcd i_Log_note) = true := by decide +kernel
theorem ok_C_ring : m_okL i_C_ring (mcd i_C_ring) = true := by decide +kernel
theorem ok_M_put : m_okL i_M_put (mcd i_M_put) = true := by decide +kernel
theorem ok_M_remember : m_okL i_M_remember (mcd i_M_remember) = true := by decide +kernel
theorem ok_M_joins : m_okL i_M_joins (mcd i_M_joins) = true := by decide +kernel
