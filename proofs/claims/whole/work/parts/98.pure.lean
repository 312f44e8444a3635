theorem pure_part : ∃ J : Nat → mm_M → Prop, ml_Step J ∧ J 0 m_s0 := sorry
