def ft_w (a1 a2 a3 : Int32) (w : Nat → Int32) (n : Nat) : Int32 := if a1 < 0 then -1000 else if w 0 ≤ a1 then -1000 else if a2 < 0 then -1000 else if w 6 ≤ a2 then -1000 else if a3 < 0 then -1000 else if 1 < a3 then -1000 else if D_w w a1.toNatClampNeg a2.toNatClampNeg then (if a3 = 0 then 2 * w (7 + a1.toNatClampNeg) else fy_w w n a1.toNatClampNeg a2.toNatClampNeg) else -1000
theorem K_foot : zK_foot zInv := by
  intro a1 a2 a3
  refine zO_query (fun w K n => ft_w a1 a2 a3 w n) (fun S w K n hw hr => ?_) (fun S => rfl) (fun S K n hw hb => ⟨S, ?_, modFr_rf S⟩)
  · have hK := hw.1.2.2
    have hn := hw.2.1.2.2
    unfold fX7_foot ft_w fX7_isWithin
    rw [c_hasLeg hr, zbi_s]
    by_cases q1 : a1 < 0
    · rw [if_pos q1, if_pos q1, if_pos rfl]; exact ⟨S, rfl, clsFr_rf S⟩
    rw [if_neg q1, if_neg q1]
    by_cases q2 : w 0 ≤ a1
    · rw [if_pos q2, if_pos q2, if_pos rfl]; exact ⟨S, rfl, clsFr_rf S⟩
    rw [if_neg q2, if_neg q2, if_neg one_ne, c_hasTick hr, zbi_s]
    by_cases q3 : a2 < 0
    · rw [if_pos q3, if_pos q3, if_pos rfl]; exact ⟨S, rfl, clsFr_rf S⟩
    rw [if_neg q3, if_neg q3]
    by_cases q4 : w 6 ≤ a2
    · rw [if_pos q4, if_pos q4, if_pos rfl]; exact ⟨S, rfl, clsFr_rf S⟩
    rw [if_neg q4, if_neg q4, if_neg one_ne]
    by_cases q5 : a3 < 0
    · rw [if_pos q5, if_pos q5, zbi_s, if_pos rfl]; exact ⟨S, rfl, clsFr_rf S⟩
    rw [if_neg q5, if_neg q5]
    by_cases q6 : 1 < a3
    · rw [if_pos q6, if_pos q6, zbi_s, if_pos rfl]; exact ⟨S, rfl, clsFr_rf S⟩
    rw [if_neg q6, if_neg q6, zbi_s, if_neg one_ne]
    obtain ⟨i, i1, rfl⟩ := in_of (K := K) (by omega) q1 (by rw [← hw.1.1]; exact q2)
    obtain ⟨t, t1, rfl⟩ := in_of (K := n) (by omega) q3 (by rw [← hw.2.1.1]; exact q4)
    rw [c_isDown hn hr t1, zbi_s, nI_clamp (by omega), nI_clamp (by omega)]
    by_cases q7 : D_w w i t = true
    · rw [if_pos q7, if_neg one_ne, if_pos q7]
      by_cases q8 : a3 = 0
      · rw [if_pos q8, if_pos q8, at_in (by omega) (by omega), zbi_s, show S.1 (1 + 1 + 1) i = w (7 + i) from hr.2.1 i i1]
        exact ⟨S, rfl, clsFr_rf S⟩
      · rw [if_neg q8, if_neg q8]
        obtain ⟨S1, e1, s1⟩ := c_tryOut hw hr
        have fr1 := frX7_tryOut e1
        rw [e1, zbv_s, c_twiceY hw s1 i1 t1 q7, zbi_s]
        exact ⟨S1, rfl, cls_of fr1 (fun k hk => by simp; omega)⟩
    · rw [if_neg q7, if_pos rfl, if_neg q7]; exact ⟨S, rfl, clsFr_rf S⟩
  · have hK := hw.1.2.2
    have hn1 := hw.2.1.2.1
    have hn := hw.2.1.2.2
    unfold ft_w
    rw [m_isLeg, zbi_s]
    by_cases q1 : a1 < 0
    · rw [if_pos q1, if_pos q1, if_pos rfl]
    rw [if_neg q1, if_neg q1]
    by_cases q2 : S.1 102 0 ≤ a1
    · rw [if_pos q2, if_pos q2, if_pos rfl]
    rw [if_neg q2, if_neg q2, if_neg one_ne, m_isTick, zbi_s]
    by_cases q3 : a2 < 0
    · rw [if_pos q3, if_pos q3, if_pos rfl]
    rw [if_neg q3, if_neg q3]
    by_cases q4 : S.1 102 6 ≤ a2
    · rw [if_pos q4, if_pos q4, if_pos rfl]
    rw [if_neg q4, if_neg q4, if_neg one_ne]
    by_cases q5 : a3 < 0
    · rw [if_pos q5, if_pos q5]
    rw [if_neg q5, if_neg q5]
    by_cases q6 : 1 < a3
    · rw [if_pos q6, if_pos q6]
    rw [if_neg q6, if_neg q6]
    obtain ⟨i, i1, rfl⟩ := in_of (K := K) (by omega) q1 (by rw [← hw.1.1]; exact q2)
    obtain ⟨t, t1, rfl⟩ := in_of (K := n) (by omega) q3 (by rw [← hw.2.1.1]; exact q4)
    rw [m_isDown (by omega), zbi_s, nI_clamp (by omega), nI_clamp (by omega)]
    by_cases q7 : D_w (S.1 102) i t = true
    · rw [if_pos q7, if_neg one_ne, if_pos q7]
      by_cases q8 : a3 = 0
      · rw [if_pos q8, if_pos q8, show (7 : Int32) + nI i = nI (7 + i) from nI_add 7 i, if_pos (gin (by omega) (by omega)), nI_clamp (by omega)]
      · rw [if_neg q8, if_neg q8, m_footY hw.2.1.1 hn1 hn (by omega) t1 q7, zbi_s]
    · rw [if_neg q7, if_pos rfl, if_neg q7]
