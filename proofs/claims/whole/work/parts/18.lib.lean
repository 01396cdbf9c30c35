/-! ===== the classes' and the library's words ===== -/
def m_plc (c : Nat) : List Nat := match c with
  | 0 => [20131, 20133, 20135, 20137, 20139, 20141, 20143, 20145, 20147, 20149, 20151, 20153, 20155, 20157, 20159, 20161]
  | 1 => [10131, 10133, 10135, 10137, 10139]
  | 2 => [10166, 10168, 10170, 10172, 10174, 10176, 10178]
  | 3 => [20062, 20064, 20066, 20068, 20070, 20072, 20074, 20076, 20078]
  | 4 => [30010, 30012, 30014, 30016]
  | 5 => [20009, 20011, 20013, 20015, 20017, 20019, 20021, 20023, 20025, 20027, 20029, 20031, 20033, 20035, 20037, 20039, 20041, 20043, 20045]
  | 6 => [20218, 20220, 20222, 20224, 20226, 20228, 20230, 20232]
  | 7 => [10106, 10108, 10110, 10112, 10114, 10116, 10118, 10120]
  | 8 => [20183, 20185, 20187, 20189, 20191, 20193, 20195, 20197, 20199]
  | 9 => [30033, 30035, 30037, 30039, 30041, 30043, 30045, 30047, 30049, 30051, 30053, 30055, 30057, 30059]
  | _ => [60101, 60103, 60105, 60107, 60109, 60111, 60113, 60115, 60117, 60119, 60121, 60123, 60125, 60127, 60129, 60131, 60133, 60135, 60137, 60139, 60141, 60143, 60145, 60147, 60149, 60151, 60153, 60155, 60157, 60159, 60161, 60163, 60165, 60167, 60169, 60171, 60173, 60175, 60177, 60179, 60181, 60183, 60185, 60187, 60189, 60191, 60193, 60195, 60197, 60199, 60201, 60203, 60205, 60207, 60209, 60211, 60213, 60215, 60217, 60219, 60221, 60223, 60225, 60227, 60229, 60231, 60233, 60235, 60237, 60239, 70001, 70003, 70005, 70007, 70009, 70011, 70013, 70015, 70017, 70019, 70021, 70023, 70025, 70027, 70029]
def m_pli (c : Nat) : Nat × Nat := match c with
  | 0 => (20082, 10011)
  | 1 => (10039, 10003)
  | 2 => (10149, 10010)
  | 3 => (10033, 10002)
  | 4 => (20237, 10014)
  | 5 => (10143, 10009)
  | 6 => (20203, 10013)
  | 7 => (10045, 10004)
  | 8 => (20165, 10012)
  | 9 => (10025, 10001)
  | _ => (50228, 10015)
def m_clB (c : Nat) : Bool := (List.range (m_cl c).2.2).all (fun j => m_has ((m_plc c).getD j 0) (u_lay (m_cl c).1 (m_cl c).2.1 j)) && m_has (m_pli c).1 (.instantiable (m_cl c).1 (m_cl c).2.2) && m_has (m_pli c).2 (.initialized (m_cl c).1)
theorem clB_ok : (List.range 11).all m_clB = true := by decide +kernel
theorem cl_ok : ClOK := by
  intro c hc
  have h := List.all_eq_true.mp clB_ok c (List.mem_range.mpr hc)
  unfold m_clB at h
  simp only [Bool.and_eq_true] at h
  refine ⟨fun w hw => ?_, m_has_in h.1.2, m_has_in h.2⟩
  obtain ⟨j, hj, rfl⟩ := List.mem_map.mp (show w ∈ (List.range (m_cl c).2.2).map (u_lay (m_cl c).1 (m_cl c).2.1) from hw)
  exact m_has_in (List.all_eq_true.mp h.1.1 j hj)
theorem lib_o : Cond.instanceMethod Lib.objectInit ∈ gT ∧ Cond.code Lib.objectInit ⟨#[0xb1]⟩ 1 none ∈ gT := ⟨m_has_in (p := 10030) (by decide +kernel), m_has_in (p := 10031) (by decide +kernel)⟩
theorem lib_1000 : Cond.static (m_mY 1000).1 ∈ gT ∧ Cond.code (m_mY 1000).1 (m_mY 1000).2.1 (m_mY 1000).2.2.1 (m_mY 1000).2.2.2 ∈ gT := ⟨m_has_in (p := 40213) (by decide +kernel), m_has_in (p := 40214) (by decide +kernel)⟩
theorem lib_1001 : Cond.static (m_mY 1001).1 ∈ gT ∧ Cond.code (m_mY 1001).1 (m_mY 1001).2.1 (m_mY 1001).2.2.1 (m_mY 1001).2.2.2 ∈ gT := ⟨m_has_in (p := 30091) (by decide +kernel), m_has_in (p := 30092) (by decide +kernel)⟩
theorem lib_1002 : Cond.static (m_mY 1002).1 ∈ gT ∧ Cond.code (m_mY 1002).1 (m_mY 1002).2.1 (m_mY 1002).2.2.1 (m_mY 1002).2.2.2 ∈ gT := ⟨m_has_in (p := 40157) (by decide +kernel), m_has_in (p := 40158) (by decide +kernel)⟩
theorem lib_1003 : Cond.static (m_mY 1003).1 ∈ gT ∧ Cond.code (m_mY 1003).1 (m_mY 1003).2.1 (m_mY 1003).2.2.1 (m_mY 1003).2.2.2 ∈ gT := ⟨m_has_in (p := 40131) (by decide +kernel), m_has_in (p := 40132) (by decide +kernel)⟩
theorem lib_1004 : Cond.static (m_mY 1004).1 ∈ gT ∧ Cond.code (m_mY 1004).1 (m_mY 1004).2.1 (m_mY 1004).2.2.1 (m_mY 1004).2.2.2 ∈ gT := ⟨m_has_in (p := 40128) (by decide +kernel), m_has_in (p := 40129) (by decide +kernel)⟩
theorem lib_1005 : Cond.static (m_mY 1005).1 ∈ gT ∧ Cond.code (m_mY 1005).1 (m_mY 1005).2.1 (m_mY 1005).2.2.1 (m_mY 1005).2.2.2 ∈ gT := ⟨m_has_in (p := 40041) (by decide +kernel), m_has_in (p := 40042) (by decide +kernel)⟩
theorem lib_ok : LibOK := by
  refine ⟨lib_o, fun b h1 h2 => ?_, m_has_in (p := 10016) (by decide +kernel), m_has_in (p := 40028) (by decide +kernel), m_has_in (p := 40027) (by decide +kernel), m_has_in (p := 10022) (by decide +kernel)⟩
  rcases (by omega : b = 1000 ∨ b = 1001 ∨ b = 1002 ∨ b = 1003 ∨ b = 1004 ∨ b = 1005) with rfl | rfl | rfl | rfl | rfl | rfl
  · exact lib_1000
  · exact lib_1001
  · exact lib_1002
  · exact lib_1003
  · exact lib_1004
  · exact lib_1005
