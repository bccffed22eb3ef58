section
/-- the two objects hold the same three values: the count, the accepted length, the accepted rule -/
def i_Rel (_ : Nat) (u : SX) (v : SY) : Prop := u = v
theorem i_up {k : Nat} {u : SX} {v : SY} (h : i_Rel k u v) : i_Rel (k + 2) u v := h
/-- reset: all three values are 0 afterwards -/
theorem mm_reset {post : SX → Prop} (u : SX) (h : post (0, 0, 0)) : wpX_reset post u := by
  obtain ⟨c, a, q⟩ := u
  exact h
/-- hasAccept: 0 without an accept, else 1 -/
theorem mm_has {post : Int32 → Prop} (c a q : Int32) (h0 : q = 0 → post 0) (h1 : ¬ q = 0 → post 1) : wpX_hasAccept post (c, a, q) := ⟨h0, h1⟩
theorem mm_narrow (z : Int32) : narrow .short (.int z.toInt16.toInt32) = .int z.toInt16.toInt32 := congrArg Value.int (by simp)
theorem mm_fits (z : Int32) : fits .short (.int z.toInt16.toInt32) = true := by
  have ⟨a, b⟩ := lg_i2s_range z
  have h1 : (-32768 : Int32).toInt = -32768 := by decide
  have h2 : (32767 : Int32).toInt = 32767 := by decide
  simp only [fits, Bool.and_eq_true, decide_eq_true_eq, Int32.le_iff_toInt_le, h1, h2]
  omega
/-- the rule's low sixteen bits: masked before it is widened, or after -/
theorem mm_mask (q : Int32) : (q &&& 65535).toInt64 = q.toInt64 &&& 65535 := by
  have e : (65535 : Int32).toInt64 = 65535 := by decide
  rw [Int32.toInt64_and, e]
theorem i_vc0 : wpX_init (fun u => wpY_init (fun v => i_Rel 0 u v)) := by
  unfold wpX_init
  refine mm_reset _ ?_
  exact (rfl : ((0, 0, 0) : SX) = (0, 0, 0))
theorem i_vc_step {k : Nat} {u : SX} {v : SY} (I : i_Rel k u v) (hk : k + 2 ≤ 1024) (v1 : Int32) : wpX_step (fun r u' => wpY_step (fun r' v' => r' = r ∧ i_Rel (k + 2) u' v') v v1) u v1 := by
  cases I
  obtain ⟨c, a, q⟩ := u
  by_cases h : c < 10
  · refine br_t h fun d ed => ?_
    by_cases z : v1.toInt16.toInt32 = 0
    · refine br_t z (br_t h fun e ee n en => br_t z ⟨en.trans ed.symm, ?_⟩)
      rw [ee, ed]
      exact rfl
    · refine br_f z ⟨mm_narrow _, mm_fits _, br_t h fun e ee n en => br_f z ⟨mm_narrow _, mm_fits _, en.trans ed.symm, ?_⟩⟩
      rw [ee, en, ed]
      exact rfl
  · exact br_f h (br_f h ⟨rfl, rfl⟩)
theorem i_vc_stuck {k : Nat} {u : SX} {v : SY} (I : i_Rel k u v) (hk : k + 2 ≤ 1024) : wpX_stuck (fun r => wpY_stuck (fun r' => r' = r ∧ i_Rel (k + 2) u v) v) u := by
  cases I
  obtain ⟨c, a, q⟩ := u
  unfold wpX_stuck
  dsimp only
  refine mm_has c a q (fun z => ?_) (fun z => ?_)
  · exact br_t rfl (br_t z ⟨rfl, rfl⟩)
  · exact br_f (by decide) (br_f z ⟨rfl, rfl⟩)
theorem i_vc_emit {k : Nat} {u : SX} {v : SY} (I : i_Rel k u v) (hk : k + 2 ≤ 1024) : wpX_emit (fun r u' => wpY_emit (fun r' v' => r' = r ∧ i_Rel (k + 2) u' v') v) u := by
  cases I
  obtain ⟨c, a, q⟩ := u
  intro x ex
  refine mm_reset _ ?_
  intro y ey
  refine ⟨?_, rfl⟩
  rw [ey, ex, mm_mask]
theorem i_vc_skip {k : Nat} {u : SX} {v : SY} (I : i_Rel k u v) (hk : k + 2 ≤ 1024) : wpX_skip (fun r u' => wpY_skip (fun r' v' => r' = r ∧ i_Rel (k + 2) u' v') v) u := by
  cases I
  obtain ⟨c, a, q⟩ := u
  unfold wpX_skip
  dsimp only
  refine mm_has c a q (fun z => ?_) (fun z => ?_)
  · exact br_t rfl (mm_reset _ (br_t z fun _ _ => ⟨rfl, rfl⟩))
  · exact br_f (by decide) (mm_reset _ (br_f z fun _ _ => ⟨rfl, rfl⟩))
end
