theorem ok_M_init_c : m_chain (mcd i_M_init) = true := by decide +kernel
theorem ok_M_init_l : (mcd i_M_init).length ≤ 0 + 15 * 40 := by decide +kernel
theorem ok_M_init : m_okL i_M_init (mcd i_M_init) = true := m_okL_of 40 15 ok_M_init_l (fun k hk => match k, hk with
  | 0, _ => ok_M_init_0
  | 1, _ => ok_M_init_1
  | 2, _ => ok_M_init_2
  | 3, _ => ok_M_init_3
  | 4, _ => ok_M_init_4
  | 5, _ => ok_M_init_5
  | 6, _ => ok_M_init_6
  | 7, _ => ok_M_init_7
  | 8, _ => ok_M_init_8
  | 9, _ => ok_M_init_9
  | 10, _ => ok_M_init_10
  | 11, _ => ok_M_init_11
  | 12, _ => ok_M_init_12
  | 13, _ => ok_M_init_13
  | 14, _ => ok_M_init_14
  | _ + 15, hk => absurd hk (by omega)) ok_M_init_c
theorem ok_C_tapeFour : m_okL i_C_tapeFour (mcd i_C_tapeFour) = true := by decide +kernel
theorem ok_C_feed : m_okL i_C_feed (mcd i_C_feed) = true := by decide +kernel
theorem ok_M_feed : m_okL i_M_feed (mcd i_M_feed) = true := by decide +kernel
theorem ok_Laws_clear : m_okL i_Laws_clear (mcd i_Laws_clear) = true := by decide +kernel
theorem ok_Plan_clear : m_okL i_Plan_clear (mcd i_Plan_clear) = true := by decide +kernel
theorem ok_Tokens_isLetter : m_okL i_Tokens_isLetter (mcd i_Tokens_isLetter) = true := by decide +kernel
theorem ok_Tokens_wordKind : m_okL i_Tokens_wordKind (mcd i_Tokens_wordKind) = true := by decide +kernel
theorem ok_Tokens_readWord : m_okL i_Tokens_readWord (mcd i_Tokens_readWord) = true := by decide +kernel
theorem ok_Tokens_isDigit : m_okL i_Tokens_isDigit (mcd i_Tokens_isDigit) = true := by decide +kernel
theorem ok_Tokens_readNumber : m_okL i_Tokens_readNumber (mcd i_Tokens_readNumber) = true := by decide +kernel
theorem ok_Tokens_signKind : m_okL i_Tokens_signKind (mcd i_Tokens_signKind) = true := by decide +kernel
theorem ok_Tokens_lengthenSign : m_okL i_Tokens_lengthenSign (mcd i_Tokens_lengthenSign) = true := by decide +kernel
theorem ok_Tokens_advance : m_okL i_Tokens_advance (mcd i_Tokens_advance) = true := by decide +kernel
theorem ok_Tokens_begin : m_okL i_Tokens_begin (mcd i_Tokens_begin) = true := by decide +kernel
theorem ok_LineReader_fails : m_okL i_LineReader_fails (mcd i_LineReader_fails) = true := by decide +kernel
theorem ok_Plan_numberOf : m_okL i_Plan_numberOf (mcd i_Plan_numberOf) = true := by decide +kernel
theorem ok_LineReader_readsNumber : m_okL i_LineReader_readsNumber (mcd i_LineReader_readsNumber) = true := by decide +kernel
theorem ok_LineReader_skipsMinus : m_okL i_LineReader_skipsMinus (mcd i_LineReader_skipsMinus) = true := by decide +kernel
theorem ok_LineReader_readsMan_0 : (((mcd i_LineReader_readsMan).drop (0 + 40 * 0)).take 40).all (m_okE i_LineReader_readsMan) = true := by decide +kernel
theorem ok_LineReader_readsMan_1 : (((mcd i_LineReader_readsMan).drop (0 + 40 * 1)).take 40).all (m_okE i_LineReader_readsMan) = true := by decide +kernel
theorem ok_LineReader_readsMan_2 : (((mcd i_LineReader_readsMan).drop (0 + 40 * 2)).take 40).all (m_okE i_LineReader_readsMan) = true := by decide +kernel
theorem ok_LineReader_readsMan_3 : (((mcd i_LineReader_readsMan).drop (0 + 40 * 3)).take 40).all (m_okE i_LineReader_readsMan) = true := by decide +kernel
theorem ok_LineReader_readsMan_c : m_chain (mcd i_LineReader_readsMan) = true := by decide +kernel
theorem ok_LineReader_readsMan_l : (mcd i_LineReader_readsMan).length ≤ 0 + 4 * 40 := by decide +kernel
theorem ok_LineReader_readsMan : m_okL i_LineReader_readsMan (mcd i_LineReader_readsMan) = true := m_okL_of 40 4 ok_LineReader_readsMan_l (fun k hk => match k, hk with
  | 0, _ => ok_LineReader_readsMan_0
  | 1, _ => ok_LineReader_readsMan_1
  | 2, _ => ok_LineReader_readsMan_2
  | 3, _ => ok_LineReader_readsMan_3
  | _ + 4, hk => absurd hk (by omega)) ok_LineReader_readsMan_c
theorem ok_LineReader_readsEnd : m_okL i_LineReader_readsEnd (mcd i_LineReader_readsEnd) = true := by decide +kernel
theorem ok_LineReader_readsPerson : m_okL i_LineReader_readsPerson (mcd i_LineReader_readsPerson) = true := by decide +kernel
theorem ok_LineReader_readsRing : m_okL i_LineReader_readsRing (mcd i_LineReader_readsRing) = true := by decide +kernel
theorem ok_LineReader_readsMeet : m_okL i_LineReader_readsMeet (mcd i_LineReader_readsMeet) = true := by decide +kernel
theorem ok_LineReader_readsCold : m_okL i_LineReader_readsCold (mcd i_LineReader_readsCold) = true := by decide +kernel
theorem ok_LineReader_readsCrowd : m_okL i_LineReader_readsCrowd (mcd i_LineReader_readsCrowd) = true := by decide +kernel
theorem ok_LineReader_readsSeed : m_okL i_LineReader_readsSeed (mcd i_LineReader_readsSeed) = true := by decide +kernel
theorem ok_Laws_isTold : m_okL i_Laws_isTold (mcd i_Laws_isTold) = true := by decide +kernel
theorem ok_LawReader_levelOf : m_okL i_LawReader_levelOf (mcd i_LawReader_levelOf) = true := by decide +kernel
theorem ok_Laws_add : m_okL i_Laws_add (mcd i_Laws_add) = true := by decide +kernel
theorem ok_LawReader_unpile : m_okL i_LawReader_unpile (mcd i_LawReader_unpile) = true := by decide +kernel
theorem ok_LawReader_pileUp : m_okL i_LawReader_pileUp (mcd i_LawReader_pileUp) = true := by decide +kernel
theorem ok_LawReader_topLevel : m_okL i_LawReader_topLevel (mcd i_LawReader_topLevel) = true := by decide +kernel
theorem ok_LawReader_pilesKnot : m_okL i_LawReader_pilesKnot (mcd i_LawReader_pilesKnot) = true := by decide +kernel
theorem ok_LawReader_takesValue : m_okL i_LawReader_takesValue (mcd i_LawReader_takesValue) = true := by decide +kernel
theorem ok_LawReader_takesSign : m_okL i_LawReader_takesSign (mcd i_LawReader_takesSign) = true := by decide +kernel
theorem ok_LawReader_readsLaw : m_okL i_LawReader_readsLaw (mcd i_LawReader_readsLaw) = true := by decide +kernel
theorem ok_LineReader_readsLaw : m_okL i_LineReader_readsLaw (mcd i_LineReader_readsLaw) = true := by decide +kernel
theorem ok_LineReader_readsLine : m_okL i_LineReader_readsLine (mcd i_LineReader_readsLine) = true := by decide +kernel
theorem ok_LineReader_readsAll : m_okL i_LineReader_readsAll (mcd i_LineReader_readsAll) = true := by decide +kernel
theorem ok_Day_begin : m_okL i_Day_begin (mcd i_Day_begin) = true := by decide +kernel
theorem ok_Seen_forget : m_okL i_Seen_forget (mcd i_Seen_forget) = true := by decide +kernel
theorem ok_C_text : m_okL i_C_text (mcd i_C_text) = true := by decide +kernel
theorem ok_M_isSmall : m_okL i_M_isSmall (mcd i_M_isSmall) = true := by decide +kernel
theorem ok_M_wordAt : m_okL i_M_wordAt (mcd i_M_wordAt) = true := by decide +kernel
theorem ok_M_packed : m_okL i_M_packed (mcd i_M_packed) = true := by decide +kernel
theorem ok_M_isDigit : m_okL i_M_isDigit (mcd i_M_isDigit) = true := by decide +kernel
theorem ok_M_signToken_0 : (((mcd i_M_signToken).drop (0 + 40 * 0)).take 40).all (m_okE i_M_signToken) = true := by decide +kernel
theorem ok_M_signToken_1 : (((mcd i_M_signToken).drop (0 + 40 * 1)).take 40).all (m_okE i_M_signToken) = true := by decide +kernel
theorem ok_M_signToken_2 : (((mcd i_M_signToken).drop (0 + 40 * 2)).take 40).all (m_okE i_M_signToken) = true := by decide +kernel
theorem ok_M_signToken_3 : (((mcd i_M_signToken).drop (0 + 40 * 3)).take 40).all (m_okE i_M_signToken) = true := by decide +kernel
theorem ok_M_signToken_c : m_chain (mcd i_M_signToken) = true := by decide +kernel
theorem ok_M_signToken_l : (mcd i_M_signToken).length ≤ 0 + 4 * 40 := by decide +kernel
theorem ok_M_signToken : m_okL i_M_signToken (mcd i_M_signToken) = true := m_okL_of 40 4 ok_M_signToken_l (fun k hk => match k, hk with
  | 0, _ => ok_M_signToken_0
  | 1, _ => ok_M_signToken_1
  | 2, _ => ok_M_signToken_2
  | 3, _ => ok_M_signToken_3
  | _ + 4, hk => absurd hk (by omega)) ok_M_signToken_c
theorem ok_M_token_0 : (((mcd i_M_token).drop (0 + 40 * 0)).take 40).all (m_okE i_M_token) = true := by decide +kernel
theorem ok_M_token_1 : (((mcd i_M_token).drop (0 + 40 * 1)).take 40).all (m_okE i_M_token) = true := by decide +kernel
theorem ok_M_token_2 : (((mcd i_M_token).drop (0 + 40 * 2)).take 40).all (m_okE i_M_token) = true := by decide +kernel
theorem ok_M_token_3 : (((mcd i_M_token).drop (0 + 40 * 3)).take 40).all (m_okE i_M_token) = true := by decide +kernel
theorem ok_M_token_c : m_chain (mcd i_M_token) = true := by decide +kernel
theorem ok_M_token_l : (mcd i_M_token).length ≤ 0 + 4 * 40 := by decide +kernel
theorem ok_M_token : m_okL i_M_token (mcd i_M_token) = true := m_okL_of 40 4 ok_M_token_l (fun k hk => match k, hk with
  | 0, _ => ok_M_token_0
  | 1, _ => ok_M_token_1
  | 2, _ => ok_M_token_2
  | 3, _ => ok_M_token_3
  | _ + 4, hk => absurd hk (by omega)) ok_M_token_c
theorem ok_M_wrong : m_okL i_M_wrong (mcd i_M_wrong) = true := by decide +kernel
theorem ok_M_find : m_okL i_M_find (mcd i_M_find) = true := by decide +kernel
theorem ok_M_isIn : m_okL i_M_isIn (mcd i_M_isIn) = true := by decide +kernel
theorem ok_M_number : m_okL i_M_number (mcd i_M_number) = true := by decide +kernel
theorem ok_M_isSign : m_okL i_M_isSign (mcd i_M_isSign) = true := by decide +kernel
theorem ok_M_signed : m_okL i_M_signed (mcd i_M_signed) = true := by decide +kernel
theorem ok_M_manLine : m_okL i_M_manLine (mcd i_M_manLine) = true := by decide +kernel
theorem ok_M_manThere : m_okL i_M_manThere (mcd i_M_manThere) = true := by decide +kernel
theorem ok_M_ringLine : m_okL i_M_ringLine (mcd i_M_ringLine) = true := by decide +kernel
