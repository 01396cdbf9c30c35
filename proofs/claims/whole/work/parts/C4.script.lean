/-! ===== the making does not look at the script: a run without it is a run beside it ===== -/
/-- how many fields a thing of this kind has -/
def nfk (kd : Nat) : Nat := bif Nat.ble 4 kd && Nat.blt kd 15 then (m_cl (kd - 4)).2.2 else 0
def okm (k : Nat) : Bool := Nat.blt k 259 && !(Nat.beq k 98)
def okp (e : mE) : Bool := match e.2.1 with
  | .putfield _ => Nat.blt e.2.2.2.2.1 (nfk e.2.2.2.1)
  | .invokespecial _ => okm e.2.2.2.1 || Nat.beq e.2.2.2.1 1008
  | .invokevirtual _ => okm e.2.2.2.1 || Nat.beq e.2.2.2.1 1007
  | .invokestatic _ => okm e.2.2.2.1 || Nat.ble 1000 e.2.2.2.1
  | _ => true
theorem okp_all : (List.range 259).all (fun m => (mcd m).all okp) = true := by decide +kernel
theorem okp_cd {m : Nat} (h : m < 259) : ∀ e ∈ mcd m, okp e = true := List.all_eq_true.mp (List.all_eq_true.mp okp_all m (List.mem_range.mpr h))
section CS
variable {Ls : Nat} {xs : Nat → Int}
def RLs (Ls : Nat) (xs : Nat → Int) (M M' : mM) : Prop := M'.1 = M.1 ∧ (2 ≤ M.1 ∧ M.1 ≤ 144) ∧ (∀ k, k ≠ 1 → M'.2.1 k = M.2.1 k) ∧ M'.2.1 1 = (98, Ls) ∧ M.2.1 1 = (99, 0) ∧ M'.2.2.1 = M.2.2.1 ∧ (∀ k, k ≠ 1 → M'.2.2.2.1 k = M.2.2.2.1 k) ∧ M'.2.2.2.1 1 = xs ∧ M'.2.2.2.2 = M.2.2.2.2 ∧ (∀ k, M.1 ≤ k → M.2.1 k = (99, 0)) ∧ (∀ k j, nfk (M.2.1 k).1 ≤ j → M.2.2.1 k j = 0)
def FRs (Ls : Nat) (xs : Nat → Int) (f f' : mF) : Prop := f'.1 = f.1 ∧ f'.2.1 = f.2.1 ∧ f'.2.2.1 = f.2.2.1 ∧ f'.2.2.2.1 = f.2.2.2.1 ∧ f'.2.2.2.2.1 = f.2.2.2.2.1 ∧ RLs Ls xs f.2.2.2.2.2 f'.2.2.2.2.2 ∧ ∀ e ∈ f.1, okp e = true
def SRs (Ls : Nat) (xs : Nat → Int) (sr sr' : mSR) : Prop := sr.1 = 9 ∨ (sr'.1 = sr.1 ∧ sr'.2.1 = sr.2.1 ∧ FRs Ls xs sr.2.2.1 sr'.2.2.1 ∧ FRs Ls xs sr.2.2.2.1 sr'.2.2.2.1 ∧ sr'.2.2.2.2.1 = sr.2.2.2.2.1 ∧ sr'.2.2.2.2.2 = sr.2.2.2.2.2 ∧ (sr.1 = 3 ∨ sr.1 = 6 → okm sr.2.2.2.2.1 = true))
variable {m e1 e2 e3 kc ks i kd kc' ks' : Nat} {r r' : List mE} {lv lv' : List (Nat × mV)} {st st' : List mV} {M M' : mM} {c : mCn} {x : mSR} {nn : Nat} {sh sh' : Nat → Nat × Nat} {RR : Nat → Nat → Nat} {I I' L : Nat → Nat → Int}
theorem fr_mk (h : RLs Ls xs M M') (hr : ∀ e ∈ r, okp e = true) : FRs Ls xs (r, kc, ks, lv, st, M) (r, kc, ks, lv, st, M') := ⟨rfl, rfl, rfl, rfl, rfl, h, hr⟩
theorem sr_no : SRs Ls xs (mno M) x := Or.inl rfl
theorem sr_go (h : RLs Ls xs M M') (hr : ∀ e ∈ r, okp e = true) : SRs Ls xs (mgo r kc ks lv st M) (mgo r kc ks lv st M') := Or.inr ⟨rfl, rfl, fr_mk h hr, fr_mk h hr, rfl, rfl, fun z => by rcases z with z | z <;> cases z⟩
theorem sr_if (h : RLs Ls xs M M') (hr : ∀ e ∈ r, okp e = true) : SRs Ls xs (mif c r kc ks lv st M) (mif c r kc ks lv st M') := Or.inr ⟨rfl, rfl, fr_mk h hr, fr_mk h hr, rfl, rfl, fun z => by rcases z with z | z <;> cases z⟩
theorem sr_mk {t m' : Nat} {as : List mV} (h : RLs Ls xs M M') (hr : ∀ e ∈ r, okp e = true) (hr' : ∀ e ∈ r', okp e = true) (hm : t = 3 ∨ t = 6 → okm m' = true) : SRs Ls xs (t, c, (r, kc, ks, lv, st, M), (r', kc', ks', lv', st', M), m', as) (t, c, (r, kc, ks, lv, st, M'), (r', kc', ks', lv', st', M'), m', as) := Or.inr ⟨rfl, rfl, fr_mk h hr, fr_mk h hr', rfl, rfl, hm⟩
theorem sr_bif {b : Bool} {x y x' y' : mSR} (h1 : SRs Ls xs x x') (h2 : SRs Ls xs y y') : SRs Ls xs (bif b then x else y) (bif b then x' else y') := by cases b; exact h2; exact h1
theorem sr_bin {f : Int → Int → Int} (h : RLs Ls xs M M') (hr : ∀ e ∈ r, okp e = true) : SRs Ls xs (m_bin f r kc ks lv st M) (m_bin f r kc ks lv st M') := by
  rcases st with _ | ⟨(y | y | y), _ | ⟨(z | z | z), s⟩⟩ <;> first | exact sr_no | exact sr_go h hr
theorem sr_binL {f : Int → Int → Int} (h : RLs Ls xs M M') (hr : ∀ e ∈ r, okp e = true) : SRs Ls xs (m_binL f r kc ks lv st M) (m_binL f r kc ks lv st M') := by
  rcases st with _ | ⟨(y | y | y), _ | ⟨(z | z | z), s⟩⟩ <;> first | exact sr_no | exact sr_go h hr
theorem sr_ildx (h : RLs Ls xs M M') (hr : ∀ e ∈ r, okp e = true) : SRs Ls xs (m_ildx i r kc ks lv st M) (m_ildx i r kc ks lv st M') := by
  unfold m_ildx; rcases m_lk lv i with _ | (y | y | (_ | y)) <;> first | exact sr_no | exact sr_go h hr
theorem sr_lldx (h : RLs Ls xs M M') (hr : ∀ e ∈ r, okp e = true) : SRs Ls xs (m_lldx i r kc ks lv st M) (m_lldx i r kc ks lv st M') := by
  unfold m_lldx; rcases m_lk lv i with _ | (y | y | (_ | y)) <;> first | exact sr_no | exact sr_go h hr
theorem sr_aldx (h : RLs Ls xs M M') (hr : ∀ e ∈ r, okp e = true) : SRs Ls xs (m_aldx i r kc ks lv st M) (m_aldx i r kc ks lv st M') := by
  unfold m_aldx; rcases m_lk lv i with _ | (y | y | (_ | y)) <;> first | exact sr_no | exact sr_go h hr
theorem sr_istx (h : RLs Ls xs M M') (hr : ∀ e ∈ r, okp e = true) : SRs Ls xs (m_istx i r kc ks lv st M) (m_istx i r kc ks lv st M') := by
  rcases st with _ | ⟨(y | y | (_ | y)), s⟩ <;> first | exact sr_no | exact sr_go h hr
theorem sr_lstx (h : RLs Ls xs M M') (hr : ∀ e ∈ r, okp e = true) : SRs Ls xs (m_lstx i r kc ks lv st M) (m_lstx i r kc ks lv st M') := by
  rcases st with _ | ⟨(y | y | (_ | y)), s⟩ <;> first | exact sr_no | exact sr_go h hr
theorem sr_astx (h : RLs Ls xs M M') (hr : ∀ e ∈ r, okp e = true) : SRs Ls xs (m_astx i r kc ks lv st M) (m_astx i r kc ks lv st M') := by
  rcases st with _ | ⟨(y | y | (_ | y)), s⟩ <;> first | exact sr_no | exact sr_go h hr
/-- the memories once more, by their pieces -/
theorem RLs.cut (h : RLs Ls xs M M') : ∃ (nn : Nat) (sh sh' : Nat → Nat × Nat) (RR : Nat → Nat → Nat) (I I' L : Nat → Nat → Int), M = (nn, sh, RR, I, L) ∧ M' = (nn, sh', RR, I', L) ∧ (∀ k, k ≠ 1 → sh' k = sh k) ∧ sh 1 = (99, 0) ∧ (∀ k, k ≠ 1 → I' k = I k) := by
  obtain ⟨nn, sh, RR, I, L⟩ := M
  obtain ⟨nn', sh', RR', I', L'⟩ := M'
  obtain ⟨h1, -, h3, -, h5, h6, h7, -, h9, -⟩ := h
  have h1 : nn' = nn := h1
  have h6 : RR' = RR := h6
  have h9 : L' = L := h9
  subst h1
  subst h6
  subst h9
  exact ⟨nn', sh, sh', RR', I, I', L', rfl, rfl, h3, h5, h7⟩
theorem sr_getf (h : RLs Ls xs M M') (hr : ∀ e ∈ r, okp e = true) : SRs Ls xs (m_getf e1 e2 e3 r kc ks lv st M) (m_getf e1 e2 e3 r kc ks lv st M') := by
  obtain ⟨nn, sh, sh', RR, I, I', L, rfl, rfl, hs, h1, hi⟩ := h.cut
  rcases st with _ | ⟨(y | y | (_ | _ | k)), s⟩ <;> first | exact sr_no | skip
  have a1 := hs (k + 2) (by omega)
  have a2 := hi (k + 2) (by omega)
  show SRs Ls xs (bif Nat.beq (sh (k + 2)).1 e1 then _ else _) (bif Nat.beq (sh' (k + 2)).1 e1 then _ else _)
  rw [a1]
  refine sr_bif ?_ sr_no
  rcases e3 with _ | _ | _ | _ | e3
  · show SRs Ls xs (mgo r kc ks lv (.inl (I (k + 2) e2) :: s) _) (mgo r kc ks lv (.inl (I' (k + 2) e2) :: s) _)
    rw [a2]; exact sr_go h hr
  · exact sr_go h hr
  · exact sr_go h hr
  · show SRs Ls xs (mgo r kc ks lv (.inl (I (k + 2) e2) :: s) _) (mgo r kc ks lv (.inl (I' (k + 2) e2) :: s) _)
    rw [a2]; exact sr_go h hr
  · exact sr_go h hr
theorem rl_I {k j : Nat} {v : Int} (h : RLs Ls xs (nn, sh, RR, I, L) (nn, sh', RR, I', L)) : RLs Ls xs (nn, sh, RR, mup I (k + 2) j v, L) (nn, sh', RR, mup I' (k + 2) j v, L) := by
  obtain ⟨h1, h2, h3, h4, h5, h6, h7, h8, h9, h10, h11⟩ := h
  refine ⟨h1, h2, h3, h4, h5, h6, fun a ha => ?_, ?_, h9, h10, h11⟩
  · show mup I' (k + 2) j v a = mup I (k + 2) j v a
    unfold mup
    by_cases hk : a = k + 2
    · rw [if_pos hk, if_pos hk]; funext b; rw [show I' a = I a from h7 a ha]
    · rw [if_neg hk, if_neg hk]; exact h7 a ha
  · show mup I' (k + 2) j v 1 = xs
    unfold mup
    rw [if_neg (by omega)]; exact h8
theorem rl_L {L2 : Nat → Nat → Int} (h : RLs Ls xs (nn, sh, RR, I, L) (nn, sh', RR, I', L)) : RLs Ls xs (nn, sh, RR, I, L2) (nn, sh', RR, I', L2) := by
  obtain ⟨h1, h2, h3, h4, h5, h6, h7, h8, h9, h10, h11⟩ := h
  exact ⟨h1, h2, h3, h4, h5, h6, h7, h8, rfl, h10, h11⟩
theorem rl_R {k j v : Nat} (h : RLs Ls xs (nn, sh, RR, I, L) (nn, sh', RR, I', L)) (hj : j < nfk (sh k).1) : RLs Ls xs (nn, sh, mupR RR k j v, I, L) (nn, sh', mupR RR k j v, I', L) := by
  obtain ⟨h1, h2, h3, h4, h5, h6, h7, h8, h9, h10, h11⟩ := h
  refine ⟨h1, h2, h3, h4, h5, rfl, h7, h8, h9, h10, fun a b hab => ?_⟩
  have hab : nfk (sh a).1 ≤ b := hab
  show mupR RR k j v a b = 0
  unfold mupR
  by_cases ha : a = k
  · rw [if_pos ha]
    show (if b = j then v else RR a b) = 0
    rw [ha] at hab
    rw [if_neg (by omega), ha]; exact h11 k b hab
  · rw [if_neg ha]; exact h11 a b hab
theorem rl_cpy {s d n : Nat} (h : RLs Ls xs (nn, sh, RR, I, L) (nn, sh', RR, I', L)) : RLs Ls xs (nn, sh, RR, mcpy I (s + 2) (d + 2) n, L) (nn, sh', RR, mcpy I' (s + 2) (d + 2) n, L) := by
  obtain ⟨h1, h2, h3, h4, h5, h6, h7, h8, h9, h10, h11⟩ := h
  refine ⟨h1, h2, h3, h4, h5, h6, fun a ha => ?_, ?_, h9, h10, h11⟩
  · show mcpy I' (s + 2) (d + 2) n a = mcpy I (s + 2) (d + 2) n a
    unfold mcpy
    have e1 := h7 (s + 2) (by omega)
    have e2 := h7 (d + 2) (by omega)
    by_cases hk : a = d + 2
    · rw [if_pos hk, if_pos hk]; funext b
      show (if b < n then I' (s + 2) b else I' (d + 2) b) = (if b < n then I (s + 2) b else I (d + 2) b)
      rw [show I' (s + 2) = I (s + 2) from e1, show I' (d + 2) = I (d + 2) from e2]
    · rw [if_neg hk, if_neg hk]; exact h7 a ha
  · show mcpy I' (s + 2) (d + 2) n 1 = xs
    unfold mcpy
    rw [if_neg (by omega)]; exact h8
theorem rl_new {y : Nat × Nat} (h : RLs Ls xs (nn, sh, RR, I, L) (nn, sh', RR, I', L)) (hn : nn < 144) : RLs Ls xs (nn + 1, mshp sh nn y, mrowR RR nn, mrow I nn, mrow L nn) (nn + 1, mshp sh' nn y, mrowR RR nn, mrow I' nn, mrow L nn) := by
  obtain ⟨h1, h2, h3, h4, h5, h6, h7, h8, h9, h10, h11⟩ := h
  have h2 : 2 ≤ nn ∧ nn ≤ 144 := h2
  refine ⟨rfl, ⟨?_, ?_⟩, fun a ha => ?_, ?_, ?_, rfl, fun a ha => ?_, ?_, rfl, fun a ha => ?_, fun a b hab => ?_⟩
  · show 2 ≤ nn + 1; omega
  · show nn + 1 ≤ 144; omega
  · show mshp sh' nn y a = mshp sh nn y a
    unfold mshp
    by_cases hk : a = nn
    · rw [if_pos hk, if_pos hk]
    · rw [if_neg hk, if_neg hk]; exact h3 a ha
  · show mshp sh' nn y 1 = _
    unfold mshp; rw [if_neg (by omega)]; exact h4
  · show mshp sh nn y 1 = _
    unfold mshp; rw [if_neg (by omega)]; exact h5
  · show mrow I' nn a = mrow I nn a
    unfold mrow
    by_cases hk : a = nn
    · rw [if_pos hk, if_pos hk]
    · rw [if_neg hk, if_neg hk]; exact h7 a ha
  · show mrow I' nn 1 = xs
    unfold mrow; rw [if_neg (by omega)]; exact h8
  · have ha : nn + 1 ≤ a := ha
    show mshp sh nn y a = _
    unfold mshp; rw [if_neg (by omega)]; exact h10 a (show nn ≤ a by omega)
  · have hab : nfk (mshp sh nn y a).1 ≤ b := hab
    show mrowR RR nn a b = 0
    unfold mrowR
    by_cases hk : a = nn
    · rw [if_pos hk]
    · unfold mshp at hab
      rw [if_neg hk] at hab
      rw [if_neg hk]; exact h11 a b hab
theorem sr_putf (h : RLs Ls xs M M') (hr : ∀ e ∈ r, okp e = true) (ho : Nat.blt e2 (nfk e1) = true) : SRs Ls xs (m_putf e1 e2 e3 r kc ks lv st M) (m_putf e1 e2 e3 r kc ks lv st M') := by
  obtain ⟨nn, sh, sh', RR, I, I', L, rfl, rfl, hs, h1, hi⟩ := h.cut
  have o2 : e2 < nfk e1 := Nat.le_of_ble_eq_true ho
  rcases st with _ | ⟨v, _ | ⟨(y | y | (_ | _ | k)), s⟩⟩ <;> first | exact sr_no | skip
  have a1 := hs (k + 2) (by omega)
  show SRs Ls xs (bif Nat.beq (sh (k + 2)).1 e1 then _ else _) (bif Nat.beq (sh' (k + 2)).1 e1 then _ else _)
  rw [a1]
  cases hb : Nat.beq (sh (k + 2)).1 e1
  · exact sr_no
  · have hk : e2 < nfk (sh (k + 2)).1 := by
      rw [Nat.eq_of_beq_eq_true hb]; exact o2
    rcases e3 with _ | _ | _ | _ | e3 <;> rcases v with v | v | (_ | _ | v) <;> first | exact sr_no | exact sr_go (rl_I h) hr | exact sr_if (rl_I h) hr | exact sr_go (rl_L h) hr | exact sr_go (rl_R h hk) hr
theorem sr_ald (h : RLs Ls xs M M') (hr : ∀ e ∈ r, okp e = true) : SRs Ls xs (m_ald kd r kc ks lv st M) (m_ald kd r kc ks lv st M') := by
  obtain ⟨nn, sh, sh', RR, I, I', L, rfl, rfl, hs, h1, hi⟩ := h.cut
  rcases st with _ | ⟨(x | x | x), _ | ⟨(y | y | (_ | k)), s⟩⟩ <;> first | exact sr_no | skip
  rcases k with _ | k
  · rcases kd with _ | _ | kd
    · show SRs Ls xs (bif Nat.beq (sh 1).1 0 || Nat.beq (sh 1).1 98 then _ else _) _
      rw [h1]; exact sr_no
    · show SRs Ls xs (bif Nat.beq (sh 1).1 1 then _ else _) _
      rw [h1]; exact sr_no
    · show SRs Ls xs (bif Nat.beq (sh 1).1 2 || Nat.beq (sh 1).1 3 then _ else _) _
      rw [h1]; exact sr_no
  · have a1 := hs (k + 2) (by omega)
    have a2 := hi (k + 2) (by omega)
    rcases kd with _ | _ | kd
    · show SRs Ls xs (bif Nat.beq (sh (k + 2)).1 0 || Nat.beq (sh (k + 2)).1 98 then mif (6, x, ((sh (k + 2)).2 : Nat), 0, 0) r kc ks lv (.inl (I (k + 2) x.toNat) :: s) _ else _) (bif Nat.beq (sh' (k + 2)).1 0 || Nat.beq (sh' (k + 2)).1 98 then mif (6, x, ((sh' (k + 2)).2 : Nat), 0, 0) r kc ks lv (.inl (I' (k + 2) x.toNat) :: s) _ else _)
      rw [a1, a2]
      exact sr_bif (sr_if h hr) sr_no
    · show SRs Ls xs (bif Nat.beq (sh (k + 2)).1 1 then mif (6, x, ((sh (k + 2)).2 : Nat), 0, 0) r kc ks lv (.inr (.inl (L (k + 2) x.toNat)) :: s) _ else _) (bif Nat.beq (sh' (k + 2)).1 1 then mif (6, x, ((sh' (k + 2)).2 : Nat), 0, 0) r kc ks lv (.inr (.inl (L (k + 2) x.toNat)) :: s) _ else _)
      rw [a1]
      exact sr_bif (sr_if h hr) sr_no
    · show SRs Ls xs (bif Nat.beq (sh (k + 2)).1 2 || Nat.beq (sh (k + 2)).1 3 then mif (6, x, ((sh (k + 2)).2 : Nat), 0, 0) r kc ks lv (.inl (I (k + 2) x.toNat) :: s) _ else _) (bif Nat.beq (sh' (k + 2)).1 2 || Nat.beq (sh' (k + 2)).1 3 then mif (6, x, ((sh' (k + 2)).2 : Nat), 0, 0) r kc ks lv (.inl (I' (k + 2) x.toNat) :: s) _ else _)
      rw [a1, a2]
      exact sr_bif (sr_if h hr) sr_no
theorem sr_ast (h : RLs Ls xs M M') (hr : ∀ e ∈ r, okp e = true) : SRs Ls xs (m_ast kd r kc ks lv st M) (m_ast kd r kc ks lv st M') := by
  obtain ⟨nn, sh, sh', RR, I, I', L, rfl, rfl, hs, h1, hi⟩ := h.cut
  rcases st with _ | ⟨(x | x | x), _ | ⟨(y | y | y), _ | ⟨(z | z | (_ | _ | k)), s⟩⟩⟩ <;> first | exact sr_no | skip
  · have a1 := hs (k + 2) (by omega)
    rcases kd with _ | _ | _ | kd <;> first | exact sr_no | skip
    · show SRs Ls xs (bif Nat.beq (sh (k + 2)).1 0 then mif (6, y, ((sh (k + 2)).2 : Nat), 0, 0) r kc ks lv s _ else _) (bif Nat.beq (sh' (k + 2)).1 0 then mif (6, y, ((sh' (k + 2)).2 : Nat), 0, 0) r kc ks lv s _ else _)
      rw [a1]
      exact sr_bif (sr_if (rl_I h) hr) sr_no
    · show SRs Ls xs (bif Nat.beq (sh (k + 2)).1 2 then mif (11, y, ((sh (k + 2)).2 : Nat), x, 0) r kc ks lv s _ else bif Nat.beq (sh (k + 2)).1 3 then mif (10, y, ((sh (k + 2)).2 : Nat), x, 0) r kc ks lv s _ else _) (bif Nat.beq (sh' (k + 2)).1 2 then mif (11, y, ((sh' (k + 2)).2 : Nat), x, 0) r kc ks lv s _ else bif Nat.beq (sh' (k + 2)).1 3 then mif (10, y, ((sh' (k + 2)).2 : Nat), x, 0) r kc ks lv s _ else _)
      rw [a1]
      exact sr_bif (sr_if (rl_I h) hr) (sr_bif (sr_if (rl_I h) hr) sr_no)
  · have a1 := hs (k + 2) (by omega)
    rcases kd with _ | _ | kd <;> first | exact sr_no | skip
    show SRs Ls xs (bif Nat.beq (sh (k + 2)).1 1 then mif (6, y, ((sh (k + 2)).2 : Nat), 0, 0) r kc ks lv s _ else _) (bif Nat.beq (sh' (k + 2)).1 1 then mif (6, y, ((sh' (k + 2)).2 : Nat), 0, 0) r kc ks lv s _ else _)
    rw [a1]
    exact sr_bif (sr_if (rl_L h) hr) sr_no
theorem sr_len (h : RLs Ls xs M M') (hr : ∀ e ∈ r, okp e = true) : SRs Ls xs (m_len r kc ks lv st M) (m_len r kc ks lv st M') := by
  obtain ⟨nn, sh, sh', RR, I, I', L, rfl, rfl, hs, h1, hi⟩ := h.cut
  rcases st with _ | ⟨(x | x | (_ | k)), s⟩ <;> first | exact sr_no | skip
  rcases k with _ | k
  · show SRs Ls xs (bif (Nat.ble (sh 1).1 3 || Nat.beq (sh 1).1 98) && Nat.blt (sh 1).2 2147483648 then _ else _) _
    rw [h1]; exact sr_no
  · have a1 := hs (k + 2) (by omega)
    show SRs Ls xs (bif (Nat.ble (sh (k + 2)).1 3 || Nat.beq (sh (k + 2)).1 98) && Nat.blt (sh (k + 2)).2 2147483648 then mgo r kc ks lv (.inl ((sh (k + 2)).2 : Nat) :: s) _ else _) (bif (Nat.ble (sh' (k + 2)).1 3 || Nat.beq (sh' (k + 2)).1 98) && Nat.blt (sh' (k + 2)).2 2147483648 then mgo r kc ks lv (.inl ((sh' (k + 2)).2 : Nat) :: s) _ else _)
    rw [a1]
    exact sr_bif (sr_go h hr) sr_no
theorem sr_cpy (h : RLs Ls xs M M') (hr : ∀ e ∈ r, okp e = true) : SRs Ls xs (m_cpy r kc ks lv st M) (m_cpy r kc ks lv st M') := by
  obtain ⟨nn, sh, sh', RR, I, I', L, rfl, rfl, hs, h1, hi⟩ := h.cut
  rcases st with _ | ⟨(x | x | x), _ | ⟨(dp | dp | dp), _ | ⟨(d | d | (_ | _ | d)), _ | ⟨(sp | sp | sp), _ | ⟨(s | s | (_ | _ | s)), q⟩⟩⟩⟩⟩ <;> first | exact sr_no | skip
  have a1 := hs (d + 2) (by omega)
  have a2 := hs (s + 2) (by omega)
  show SRs Ls xs (bif Nat.beq nn 144 && Nat.beq (sh (d + 2)).1 0 && Nat.beq (sh (s + 2)).1 0 && Nat.ble (m_cats q) 8 then mif (14, x, ((sh (s + 2)).2 : Nat), ((sh (d + 2)).2 : Nat), (sp.natAbs : Int) + (dp.natAbs : Int)) r kc ks lv q _ else _) (bif Nat.beq nn 144 && Nat.beq (sh' (d + 2)).1 0 && Nat.beq (sh' (s + 2)).1 0 && Nat.ble (m_cats q) 8 then mif (14, x, ((sh' (s + 2)).2 : Nat), ((sh' (d + 2)).2 : Nat), (sp.natAbs : Int) + (dp.natAbs : Int)) r kc ks lv q _ else _)
  rw [a1, a2]
  exact sr_bif (sr_if (rl_cpy h) hr) sr_no
theorem sr_call {ck ck' : List mV → Bool} (h : RLs Ls xs M M') (hr : ∀ e ∈ r, okp e = true) (hc : ∀ as, ck' as = ck as) (hm : okm e1 = true) : SRs Ls xs (m_call m e1 e2 ck r kc ks lv st M) (m_call m e1 e2 ck' r kc ks lv st M') := by
  unfold m_call
  rcases m_pop e2 st [] with _ | ⟨as, s⟩
  · exact sr_no
  · show SRs Ls xs (bif ck as && _ && _ then _ else _) (bif ck' as && _ && _ then _ else _)
    rw [hc as]
    exact sr_bif (sr_bif (sr_mk h hr hr (fun _ => hm)) (sr_mk h hr hr (fun _ => hm))) sr_no
theorem ckV_eq (h : RLs Ls xs M M') (as : List mV) : m_ckV kd M' as = m_ckV kd M as := by
  obtain ⟨nn, sh, sh', RR, I, I', L, rfl, rfl, hs, h1, hi⟩ := h.cut
  rcases as with _ | ⟨(x | x | (_ | _ | k)), s⟩ <;> first | rfl | skip
  show Nat.beq (sh' (k + 2)).1 kd = Nat.beq (sh (k + 2)).1 kd
  rw [hs (k + 2) (by omega)]
theorem sr_special (h : RLs Ls xs M M') (hr : ∀ e ∈ r, okp e = true) (ho : (okm e1 || Nat.beq e1 1008) = true) : SRs Ls xs (m_special m e1 e2 r kc ks lv st M) (m_special m e1 e2 r kc ks lv st M') := by
  unfold m_special
  cases hb : Nat.beq e1 1008
  · rw [hb, Bool.or_false] at ho
    exact sr_call h hr (fun _ => rfl) ho
  · rcases st with _ | ⟨(x | x | (_ | _ | k)), s⟩ <;> first | exact sr_no | (show SRs Ls xs (bif Nat.ble (m_cats s) 8 then mgo r kc ks lv s M else mno M) (bif Nat.ble (m_cats s) 8 then mgo r kc ks lv s M' else mno M'); exact sr_bif (sr_go h hr) sr_no)
theorem sr_virtual (h : RLs Ls xs M M') (hr : ∀ e ∈ r, okp e = true) (ho : (okm e1 || Nat.beq e1 1007) = true) : SRs Ls xs (m_virtual m e1 e2 e3 r kc ks lv st M) (m_virtual m e1 e2 e3 r kc ks lv st M') := by
  unfold m_virtual
  cases hb : Nat.beq e1 1007
  · rw [hb, Bool.or_false] at ho
    exact sr_call h hr (fun as => ckV_eq h as) ho
  · rcases st with _ | ⟨(x | x | x), _ | ⟨(y | y | y), s⟩⟩ <;> first | exact sr_no | (show SRs Ls xs (bif Nat.beq y 1000000 && Nat.ble (m_cats s) 8 then mif (6, x, 120, 0, 0) r kc ks lv (.inl (m_words.getD x.toNat 0) :: s) M else mno M) (bif Nat.beq y 1000000 && Nat.ble (m_cats s) 8 then mif (6, x, 120, 0, 0) r kc ks lv (.inl (m_words.getD x.toNat 0) :: s) M' else mno M'); exact sr_bif (sr_if h hr) sr_no)
theorem sr_static (h : RLs Ls xs M M') (hr : ∀ e ∈ r, okp e = true) (ho : (okm e1 || Nat.ble 1000 e1) = true) : SRs Ls xs (m_static m e1 e2 r kc ks lv st M) (m_static m e1 e2 r kc ks lv st M') := by
  unfold m_static
  cases hb : Nat.blt e1 1000
  · dsimp only [cond_false]
    refine sr_bif (sr_cpy h hr) (sr_bif sr_no ?_)
    refine sr_bif ?_ (sr_bif ?_ (sr_bif ?_ (sr_bif ?_ (sr_bif ?_ (sr_bif ?_ sr_no))))) <;> rcases st with _ | ⟨(x | x | x), _ | ⟨(y | y | y), s⟩⟩ <;> first | exact sr_no | exact sr_go h hr
  · have hlt : e1 < 1000 := Nat.le_of_ble_eq_true hb
    refine sr_call h hr (fun _ => rfl) ?_
    rw [Bool.or_eq_true] at ho
    rcases ho with ho | ho
    · exact ho
    · have := Nat.le_of_ble_eq_true ho
      omega
theorem sr_new (h : RLs Ls xs M M') (hr : ∀ e ∈ r, okp e = true) : SRs Ls xs (m_new m e1 e2 r kc ks lv st M) (m_new m e1 e2 r kc ks lv st M') := by
  obtain ⟨nn, sh, sh', RR, I, I', L, rfl, rfl, hs, h1, hi⟩ := h.cut
  show SRs Ls xs (bif Nat.blt nn 144 then _ else _) (bif Nat.blt nn 144 then _ else _)
  cases hb : Nat.blt nn 144
  · exact sr_no
  · exact sr_if (rl_new h (Nat.le_of_ble_eq_true hb)) hr
theorem sr_newa (h : RLs Ls xs M M') (hr : ∀ e ∈ r, okp e = true) : SRs Ls xs (m_newa m e1 r kc ks lv st M) (m_newa m e1 r kc ks lv st M') := by
  obtain ⟨nn, sh, sh', RR, I, I', L, rfl, rfl, hs, h1, hi⟩ := h.cut
  rcases st with _ | ⟨(x | x | x), s⟩ <;> first | exact sr_no | skip
  show SRs Ls xs (bif Nat.blt nn 144 then _ else _) (bif Nat.blt nn 144 then _ else _)
  cases hb : Nat.blt nn 144
  · exact sr_no
  · exact sr_if (rl_new h (Nat.le_of_ble_eq_true hb)) hr
end CS
