section R2
variable {Ls pp p b kc ks : Nat} {P M : Int} {I J K d e : Nat → Nat → Int} {Q : List mV → mM → Prop} {x : Int}
theorem r_joins {q : Int} (hb : b ≤ 1) (hP : 0 ≤ P ∧ P ≤ 6) (hd : DOK P M d) (h : DR P M d e) (hq : 0 ≤ q ∧ q < P) (hQ : ∀ e', DR P M (dIn d q) e' → Q [.inl (if d 0 11 < 20 ∧ dMode d q = 0 then 1 else 0)] (mem Ls pp (jm J b e' x) K)) : m_Call i_M_joins [.inr (.inr 98), .inl (b : Int), .inl q] (mem Ls pp (jm J b e x) K) Q := by
  obtain ⟨j0, j1, j2, j3, j4, j5, j6, j7, j8, j9, j10, j11, j12⟩ := jS (b := b) (mup J 98 52 x) e
  obtain ⟨w0, w1, w2, w3, w4, w5, w6, w7, w8, w9, w10, w11, w12⟩ := jW (b := b) (mup J 98 52 x)
  have hn := hd.2.2.1
  have hst := (h.2.2.2.2.2.1 q.toNat (by omega)).2.2.2
  rw [show ((q.toNat : Nat) : Int) = q by omega] at hst
  have hno : ¬ (d 0 11 < 20 ∧ dMode d q = 0) → Q [.inl 0] (mem Ls pp (jm J b e x) K) := fun hn => by
    have := hQ e (by unfold dIn; rw [if_neg hn]; exact h)
    rw [if_neg hn] at this; exact this
  have hyes := fun ht => hQ _ (DR_in hP hd h hq ht)
  have htk : e 6 0 = -1 ↔ d 0 12 = -1 := by rw [h.2.2.1]; unfold en; split <;> omega
  apply E_M_joins
  rw [ix6 hb (by omega)]
  rw [Int.toNat_natCast, Int.toNat_natCast]
  unfold jm at *
  rw [j0 _ (by omega), j5, j6, h.2.1, hst]
  refine ⟨by omega, fun h1 => ⟨by omega, hno (by omega)⟩, fun h1 => ⟨by omega, fun h2 => ?_, fun h2 => ⟨by omega, hno (by omega)⟩⟩⟩
  have ht : d 0 11 < 20 ∧ dMode d q = 0 := by omega
  have hy := hyes ht
  rw [if_pos ht] at hy
  rw [ix20 hb (by omega), Int.toNat_natCast, w1 _ _ _ (by omega), w1 _ _ _ (by omega), w4 _ _ _ (by omega), w4 _ _ _ (by omega), w5, w5, w0 _ _ _ (by omega), w0 _ _ _ (by omega), wr_of (z := d 0 11 + 1) (by omega) (by omega), wr_of (z := d 0 11 + 0) (by omega) (by omega)]
  refine ⟨by omega, by omega, fun h3 => ⟨by omega, by omega, by omega, by omega, by omega, by omega, by omega, ?_⟩, fun h3 => ⟨by omega, by omega, by omega, by omega, by omega, by omega, by omega, ?_⟩⟩
  · rw [if_neg (fun h4 => h3 (htk.mpr h4))] at hy; exact hy
  · rw [if_pos (htk.mp (Classical.not_not.mp h3))] at hy
    rw [Int.add_zero]; exact hy
end R2
