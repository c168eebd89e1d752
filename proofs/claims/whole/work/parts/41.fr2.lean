set_option maxRecDepth 100000 in
set_option maxHeartbeats 4000000 in
theorem frX0_takeBack {b1 : Nat} {S : zT} {o : Int32 × zT} (h : fX0_takeBack b1 S = some o) : zFr [8, b1, b1 + 2, b1 + 4, b1 + 6] [] S o.2 := by
  unfold fX0_takeBack at h
  have L18 : ∀ (t0 : Int32) (S : zT), (fX0_takeBack_18 b1) t0 S = some o → zFr [8, b1, b1 + 2, b1 + 4, b1 + 6] [] S o.2 := by
    intro t0 S h
    unfold fX0_takeBack_18 at h
    rcases zbw_inv h with ⟨S_1, h9, h⟩ | ⟨k_2, S_1, h9, hz9, h⟩
    · refine zFr_trans (zFr_mono (frX0_stateAt h9) (by simp) (by simp)) ?_
      rcases zif_or h with h | h
      · cases h
        exact zFr_rf _ _ _
      · cases h
        exact zFr_rf _ _ _
    · refine zFr_trans (zFr_mono (frX0_stateAt h9) (by simp) (by simp)) ?_
      rcases zif_or h with h | h
      · cases h
        exact zFr_rf _ _ _
      · obtain ⟨S_3, h9, h⟩ := zbv_inv h
        refine zFr_trans (zFr_mono (frX6_copyFrom h9) (by intro x hx; rcases hz9 with rfl | rfl | rfl | rfl | rfl | rfl | rfl | rfl <;> simp at hx ⊢ <;> omega) (by simp)) ?_
        refine zFr_wi h (by simp) (fun S_4 h => ?_)
        refine zFr_wi h (by simp) (fun S_5 h => ?_)
        cases h
        exact zFr_rf _ _ _
  rcases zif_or h with h | h
  · exact L18 _ _ h
  · exact L18 _ _ h

set_option maxRecDepth 100000 in
set_option maxHeartbeats 4000000 in
theorem frX7_undo {S : zT} {o : Int32 × zT} (h : fX7_undo S = some o) : zFr [1, 3, 5, 7, 8] [] S o.2 := by
  unfold fX7_undo at h
  obtain ⟨r_2, S_1, h9, h⟩ := zbi_inv h
  refine zFr_trans (zFr_mono (frX0_takeBack h9) (by simp) (by simp)) ?_
  replace h := (zif_g h).2
  cases h
  exact zFr_rf _ _ _

set_option maxRecDepth 100000 in
set_option maxHeartbeats 4000000 in
theorem frX8_lays {a1 : Int32} {a2 : Int32} {S : zT} {o : zT} (h : fX8_lays a1 a2 S = some o) : zFr [102] [] S o := by
  unfold fX8_lays at h
  have L2 : ∀ (n2 : Nat) (x1 : Int32) (x2 : Int32) (x3 : Int32) (S : zT), (zfix (fun _ _ _ _ => none) fX8_lays_2 n2) x1 x2 x3 S = some o → zFr [102] [] S o := by
    intro n2
    induction n2 with
    | zero => intro x1 x2 x3 S h; exact zno (show (none : Option zT) = some o from h)
    | succ n2 ih2 =>
      intro x1 x2 x3 S h
      replace h : fX8_lays_2 (zfix (fun _ _ _ _ => none) fX8_lays_2 n2) x1 x2 x3 S = some o := h
      unfold fX8_lays_2 at h
      have L68 : ∀ (n68 : Nat) (x1 : Int32) (x3 : Int32) (S : zT), (zfix (fun _ _ _ => none) fX8_lays_68 n68) x1 x3 S = some o → zFr [102] [] S o := by
        intro n68
        induction n68 with
        | zero => intro x1 x3 S h; exact zno (show (none : Option zT) = some o from h)
        | succ n68 ih68 =>
          intro x1 x3 S h
          replace h : fX8_lays_68 (zfix (fun _ _ _ => none) fX8_lays_68 n68) x1 x3 S = some o := h
          unfold fX8_lays_68 at h
          have L93 : ∀ (x1 : Int32) (x3 : Int32) (t0 : Int32) (t1 : Int32) (S : zT), (fX8_lays_93 (zfix (fun _ _ _ => none) fX8_lays_68 n68)) x1 x3 t0 t1 S = some o → zFr [102] [] S o := by
            intro x1 x3 t0 t1 S h
            unfold fX8_lays_93 at h
            replace h := (zif_g h).2
            refine zFr_wi h (by simp) (fun S_1 h => ?_)
            replace h := (zif_g h).2
            refine zFr_wi h (by simp) (fun S_2 h => ?_)
            exact ih68 _ _ _ h
          rcases zif_or h with h | h
          · refine zFr_wi h (by simp) (fun S_3 h => ?_)
            cases h
            exact zFr_rf _ _ _
          · rcases zif_or h with h | h
            · exact L93 _ _ _ _ _ h
            · exact L93 _ _ _ _ _ h
      rcases zif_or h with h | h
      · refine zFr_wi h (by simp) (fun S_4 h => ?_)
        refine zFr_wi h (by simp) (fun S_5 h => ?_)
        refine zFr_wi h (by simp) (fun S_6 h => ?_)
        refine zFr_wi h (by simp) (fun S_7 h => ?_)
        refine zFr_wi h (by simp) (fun S_8 h => ?_)
        exact L68 zF _ _ _ h
      · replace h := (zif_g h).2
        refine zFr_wi h (by simp) (fun S_9 h => ?_)
        exact ih2 _ _ _ _ h
  exact L2 zF _ _ _ _ h

set_option maxRecDepth 100000 in
set_option maxHeartbeats 4000000 in
theorem frX8_begins {S : zT} {o : zT} (h : fX8_begins S = some o) : zFr [102] [4] S o := by
  unfold fX8_begins at h
  rcases zif_or h with h | h
  · refine zFr_wmi h (by simp) (fun S_1 h => ?_)
    obtain ⟨S_2, h9, h⟩ := zbv_inv h
    refine zFr_trans (zFr_mono (frX8_lays h9) (by simp) (by simp)) ?_
    cases h
    exact zFr_rf _ _ _
  · cases h
    exact zFr_rf _ _ _

set_option maxRecDepth 100000 in
set_option maxHeartbeats 4000000 in
theorem frX8_keep {S : zT} {o : zT} (h : fX8_keep S = some o) : zFr [103] [3] S o := by
  unfold fX8_keep at h
  have L45 : ∀ (S : zT), fX8_keep_45 S = some o → zFr [103] [3] S o := by
    intro S h
    unfold fX8_keep_45 at h
    have L47 : ∀ (n47 : Nat) (x1 : Int32) (S : zT), (zfix (fun _ _ => none) fX8_keep_47 n47) x1 S = some o → zFr [103] [3] S o := by
      intro n47
      induction n47 with
      | zero => intro x1 S h; exact zno (show (none : Option zT) = some o from h)
      | succ n47 ih47 =>
        intro x1 S h
        replace h : fX8_keep_47 (zfix (fun _ _ => none) fX8_keep_47 n47) x1 S = some o := h
        unfold fX8_keep_47 at h
        rcases zif_or h with h | h
        · refine zFr_wmi h (by simp) (fun S_1 h => ?_)
          cases h
          exact zFr_rf _ _ _
        · replace h := (zif_g h).2
          replace h := (zif_g h).2
          refine zFr_wi h (by simp) (fun S_2 h => ?_)
          exact ih47 _ _ h
    exact L47 zF _ _ h
  have L11 : ∀ (n11 : Nat) (x1 : Int32) (S : zT), (zfix (fun _ _ => none) (fX8_keep_11 fX8_keep_45) n11) x1 S = some o → zFr [103] [3] S o := by
    intro n11
    induction n11 with
    | zero => intro x1 S h; exact zno (show (none : Option zT) = some o from h)
    | succ n11 ih11 =>
      intro x1 S h
      replace h : fX8_keep_11 fX8_keep_45 (zfix (fun _ _ => none) (fX8_keep_11 fX8_keep_45) n11) x1 S = some o := h
      unfold fX8_keep_11 at h
      rcases zif_or h with h | h
      · refine zFr_wmi h (by simp) (fun S_3 h => ?_)
        exact L45 _ h
      · replace h := (zif_g h).2
        replace h := (zif_g h).2
        refine zFr_wi h (by simp) (fun S_4 h => ?_)
        exact ih11 _ _ h
  rcases zif_or h with h | h
  · exact L11 zF _ _ h
  · exact L45 _ h

set_option maxRecDepth 100000 in
set_option maxHeartbeats 4000000 in
theorem frX8_undo {S : zT} {o : Int32 × zT} (h : fX8_undo S = some o) : zFr [102] [0, 3, 4] S o.2 := by
  unfold fX8_undo at h
  have L30 : ∀ (n30 : Nat) (x1 : Int32) (S : zT), (zfix (fun _ _ => none) fX8_undo_30 n30) x1 S = some o → zFr [102] [0, 3, 4] S o.2 := by
    intro n30
    induction n30 with
    | zero => intro x1 S h; exact zno (show (none : Option (Int32 × zT)) = some o from h)
    | succ n30 ih30 =>
      intro x1 S h
      replace h : fX8_undo_30 (zfix (fun _ _ => none) fX8_undo_30 n30) x1 S = some o := h
      unfold fX8_undo_30 at h
      rcases zif_or h with h | h
      · cases h
        exact zFr_rf _ _ _
      · replace h := (zif_g h).2
        replace h := (zif_g h).2
        refine zFr_wi h (by simp) (fun S_1 h => ?_)
        exact ih30 _ _ h
  refine zFr_wmi h (by simp) (fun S_2 h => ?_)
  obtain ⟨S_3, h9, h⟩ := zbv_inv h
  refine zFr_trans (zFr_mono (frX8_begins h9) (by simp) (by simp)) ?_
  rcases zif_or h with h | h
  · cases h
    exact zFr_rf _ _ _
  · refine zFr_wmi h (by simp) (fun S_4 h => ?_)
    exact L30 zF _ _ h

set_option maxRecDepth 100000 in
set_option maxHeartbeats 4000000 in
theorem frX8_walker {a1 : Int32} {a2 : Int32} {S : zT} {o : Int32 × zT} (h : fX8_walker a1 a2 S = some o) : zFr [102, 103] [0, 3, 4] S o.2 := by
  unfold fX8_walker at h
  refine zFr_wmi h (by simp) (fun S_1 h => ?_)
  obtain ⟨S_2, h9, h⟩ := zbv_inv h
  refine zFr_trans (zFr_mono (frX8_begins h9) (by simp) (by simp)) ?_
  rcases zif_or h with h | h
  · cases h
    exact zFr_rf _ _ _
  · rcases zif_or h with h | h
    · cases h
      exact zFr_rf _ _ _
    · rcases zif_or h with h | h
      · cases h
        exact zFr_rf _ _ _
      · rcases zif_or h with h | h
        · obtain ⟨S_3, h9, h⟩ := zbv_inv h
          refine zFr_trans (zFr_mono (frX8_keep h9) (by simp) (by simp)) ?_
          obtain ⟨S_4, h9, h⟩ := zbv_inv h
          refine zFr_trans (zFr_mono (frX8_lays h9) (by simp) (by simp)) ?_
          cases h
          exact zFr_rf _ _ _
        · cases h
          exact zFr_rf _ _ _

set_option maxRecDepth 100000 in
set_option maxHeartbeats 4000000 in
theorem frX8_isLeg {a1 : Int32} {S : zT} {o : Int32 × zT} (h : fX8_isLeg a1 S = some o) : zFr [] [] S o.2 := by
  unfold fX8_isLeg at h
  rcases zif_or h with h | h
  · cases h
    exact zFr_rf _ _ _
  · rcases zif_or h with h | h
    · cases h
      exact zFr_rf _ _ _
    · cases h
      exact zFr_rf _ _ _

set_option maxRecDepth 100000 in
set_option maxHeartbeats 4000000 in
theorem frX8_isPlace {a1 : Int32} {a2 : Int32} {S : zT} {o : Int32 × zT} (h : fX8_isPlace a1 a2 S = some o) : zFr [] [] S o.2 := by
  unfold fX8_isPlace at h
  rcases zif_or h with h | h
  · cases h
    exact zFr_rf _ _ _
  · rcases zif_or h with h | h
    · cases h
      exact zFr_rf _ _ _
    · rcases zif_or h with h | h
      · cases h
        exact zFr_rf _ _ _
      · rcases zif_or h with h | h
        · cases h
          exact zFr_rf _ _ _
        · cases h
          exact zFr_rf _ _ _

set_option maxRecDepth 100000 in
set_option maxHeartbeats 4000000 in
theorem frX8_legAt {a1 : Int32} {a2 : Int32} {S : zT} {o : Int32 × zT} (h : fX8_legAt a1 a2 S = some o) : zFr [] [] S o.2 := by
  unfold fX8_legAt at h
  have L2 : ∀ (n2 : Nat) (x1 : Int32) (x2 : Int32) (x3 : Int32) (S : zT), (zfix (fun _ _ _ _ => none) fX8_legAt_2 n2) x1 x2 x3 S = some o → zFr [] [] S o.2 := by
    intro n2
    induction n2 with
    | zero => intro x1 x2 x3 S h; exact zno (show (none : Option (Int32 × zT)) = some o from h)
    | succ n2 ih2 =>
      intro x1 x2 x3 S h
      replace h : fX8_legAt_2 (zfix (fun _ _ _ _ => none) fX8_legAt_2 n2) x1 x2 x3 S = some o := h
      unfold fX8_legAt_2 at h
      have L40 : ∀ (x1 : Int32) (x2 : Int32) (x3 : Int32) (S : zT), (fX8_legAt_40 (zfix (fun _ _ _ _ => none) fX8_legAt_2 n2)) x1 x2 x3 S = some o → zFr [] [] S o.2 := by
        intro x1 x2 x3 S h
        unfold fX8_legAt_40 at h
        exact ih2 _ _ _ _ h
      rcases zif_or h with h | h
      · cases h
        exact zFr_rf _ _ _
      · replace h := (zif_g h).2
        rcases zif_or h with h | h
        · replace h := (zif_g h).2
          rcases zif_or h with h | h
          · cases h
            exact zFr_rf _ _ _
          · exact L40 _ _ _ _ h
        · exact L40 _ _ _ _ h
  exact L2 zF _ _ _ _ h

set_option maxRecDepth 100000 in
set_option maxHeartbeats 4000000 in
theorem frX8_leg {a1 : Int32} {a2 : Int32} {a3 : Int32} {S : zT} {o : Int32 × zT} (h : fX8_leg a1 a2 a3 S = some o) : zFr [102, 103] [0, 3, 4] S o.2 := by
  unfold fX8_leg at h
  have L50 : ∀ (x1 : Int32) (x2 : Int32) (x3 : Int32) (S : zT), fX8_leg_50 x1 x2 x3 S = some o → zFr [102, 103] [0, 3, 4] S o.2 := by
    intro x1 x2 x3 S h
    unfold fX8_leg_50 at h
    obtain ⟨S_1, h9, h⟩ := zbv_inv h
    refine zFr_trans (zFr_mono (frX8_keep h9) (by simp) (by simp)) ?_
    replace h := (zif_g h).2
    refine zFr_wi h (by simp) (fun S_2 h => ?_)
    replace h := (zif_g h).2
    refine zFr_wi h (by simp) (fun S_3 h => ?_)
    cases h
    exact zFr_rf _ _ _
  refine zFr_wmi h (by simp) (fun S_4 h => ?_)
  obtain ⟨S_5, h9, h⟩ := zbv_inv h
  refine zFr_trans (zFr_mono (frX8_begins h9) (by simp) (by simp)) ?_
  obtain ⟨r_7, S_6, h9, h⟩ := zbi_inv h
  refine zFr_trans (zFr_mono (frX8_isLeg h9) (by simp) (by simp)) ?_
  rcases zif_or h with h | h
  · cases h
    exact zFr_rf _ _ _
  · obtain ⟨r_9, S_8, h9, h⟩ := zbi_inv h
    refine zFr_trans (zFr_mono (frX8_isPlace h9) (by simp) (by simp)) ?_
    rcases zif_or h with h | h
    · cases h
      exact zFr_rf _ _ _
    · obtain ⟨r_11, S_10, h9, h⟩ := zbi_inv h
      refine zFr_trans (zFr_mono (frX8_legAt h9) (by simp) (by simp)) ?_
      rcases zif_or h with h | h
      · exact L50 _ _ _ _ h
      · rcases zif_or h with h | h
        · exact L50 _ _ _ _ h
        · cases h
          exact zFr_rf _ _ _

set_option maxRecDepth 100000 in
set_option maxHeartbeats 4000000 in
theorem frX8_middle {a1 : Int32} {a2 : Int32} {S : zT} {o : Int32 × zT} (h : fX8_middle a1 a2 S = some o) : zFr [102, 103] [0, 3, 4] S o.2 := by
  unfold fX8_middle at h
  refine zFr_wmi h (by simp) (fun S_1 h => ?_)
  obtain ⟨S_2, h9, h⟩ := zbv_inv h
  refine zFr_trans (zFr_mono (frX8_begins h9) (by simp) (by simp)) ?_
  obtain ⟨r_4, S_3, h9, h⟩ := zbi_inv h
  refine zFr_trans (zFr_mono (frX8_isPlace h9) (by simp) (by simp)) ?_
  rcases zif_or h with h | h
  · cases h
    exact zFr_rf _ _ _
  · obtain ⟨S_5, h9, h⟩ := zbv_inv h
    refine zFr_trans (zFr_mono (frX8_keep h9) (by simp) (by simp)) ?_
    refine zFr_wi h (by simp) (fun S_6 h => ?_)
    refine zFr_wi h (by simp) (fun S_7 h => ?_)
    cases h
    exact zFr_rf _ _ _

set_option maxRecDepth 100000 in
set_option maxHeartbeats 4000000 in
theorem frX8_pace {a1 : Int32} {a2 : Int32} {S : zT} {o : Int32 × zT} (h : fX8_pace a1 a2 S = some o) : zFr [102, 103] [0, 3, 4] S o.2 := by
  unfold fX8_pace at h
  refine zFr_wmi h (by simp) (fun S_1 h => ?_)
  obtain ⟨S_2, h9, h⟩ := zbv_inv h
  refine zFr_trans (zFr_mono (frX8_begins h9) (by simp) (by simp)) ?_
  rcases zif_or h with h | h
  · cases h
    exact zFr_rf _ _ _
  · rcases zif_or h with h | h
    · cases h
      exact zFr_rf _ _ _
    · rcases zif_or h with h | h
      · cases h
        exact zFr_rf _ _ _
      · rcases zif_or h with h | h
        · obtain ⟨S_3, h9, h⟩ := zbv_inv h
          refine zFr_trans (zFr_mono (frX8_keep h9) (by simp) (by simp)) ?_
          refine zFr_wi h (by simp) (fun S_4 h => ?_)
          refine zFr_wi h (by simp) (fun S_5 h => ?_)
          cases h
          exact zFr_rf _ _ _
        · cases h
          exact zFr_rf _ _ _

set_option maxRecDepth 100000 in
set_option maxHeartbeats 4000000 in
theorem frX8_byteOf {a1 : Int32} {a2 : Int32} {a3 : Int32} {a4 : Int32} {a5 : Int32} {S : zT} {o : Int32 × zT} (h : fX8_byteOf a1 a2 a3 a4 a5 S = some o) : zFr [] [] S o.2 := by
  unfold fX8_byteOf at h
  have L32 : ∀ (x1 : Int32) (t0 : Int32) (S : zT), fX8_byteOf_32 x1 t0 S = some o → zFr [] [] S o.2 := by
    intro x1 t0 S h
    unfold fX8_byteOf_32 at h
    cases h
    exact zFr_rf _ _ _
  rcases zif_or h with h | h
  · rcases zif_or h with h | h
    · rcases zif_or h with h | h
      · exact L32 _ _ _ h
      · exact L32 _ _ _ h
    · exact L32 _ _ _ h
  · exact L32 _ _ _ h

set_option maxRecDepth 100000 in
set_option maxHeartbeats 4000000 in
theorem frX8_gait {a1 : Int32} {a2 : Int32} {a3 : Int32} {a4 : Int32} {a5 : Int32} {a6 : Int32} {S : zT} {o : Int32 × zT} (h : fX8_gait a1 a2 a3 a4 a5 a6 S = some o) : zFr [102, 103] [0, 3, 4] S o.2 := by
  unfold fX8_gait at h
  have L46 : ∀ (n46 : Nat) (x2 : Int32) (x3 : Int32) (x4 : Int32) (x5 : Int32) (x6 : Int32) (x7 : Int32) (S : zT), (zfix (fun _ _ _ _ _ _ _ => none) fX8_gait_46 n46) x2 x3 x4 x5 x6 x7 S = some o → zFr [102, 103] [0, 3, 4] S o.2 := by
    intro n46
    induction n46 with
    | zero => intro x2 x3 x4 x5 x6 x7 S h; exact zno (show (none : Option (Int32 × zT)) = some o from h)
    | succ n46 ih46 =>
      intro x2 x3 x4 x5 x6 x7 S h
      replace h : fX8_gait_46 (zfix (fun _ _ _ _ _ _ _ => none) fX8_gait_46 n46) x2 x3 x4 x5 x6 x7 S = some o := h
      unfold fX8_gait_46 at h
      have L96 : ∀ (x2 : Int32) (x3 : Int32) (x4 : Int32) (x5 : Int32) (x6 : Int32) (x7 : Int32) (t0 : Int32) (t1 : Int32) (S : zT), (fX8_gait_96 (zfix (fun _ _ _ _ _ _ _ => none) fX8_gait_46 n46)) x2 x3 x4 x5 x6 x7 t0 t1 S = some o → zFr [102, 103] [0, 3, 4] S o.2 := by
        intro x2 x3 x4 x5 x6 x7 t0 t1 S h
        unfold fX8_gait_96 at h
        replace h := (zif_g h).2
        refine zFr_wi h (by simp) (fun S_1 h => ?_)
        exact ih46 _ _ _ _ _ _ _ h
      rcases zif_or h with h | h
      · cases h
        exact zFr_rf _ _ _
      · rcases zif_or h with h | h
        · exact L96 _ _ _ _ _ _ _ _ _ h
        · obtain ⟨r_3, S_2, h9, h⟩ := zbi_inv h
          refine zFr_trans (zFr_mono (frX8_byteOf h9) (by simp) (by simp)) ?_
          exact L96 _ _ _ _ _ _ _ _ _ h
  refine zFr_wmi h (by simp) (fun S_4 h => ?_)
  obtain ⟨S_5, h9, h⟩ := zbv_inv h
  refine zFr_trans (zFr_mono (frX8_begins h9) (by simp) (by simp)) ?_
  rcases zif_or h with h | h
  · cases h
    exact zFr_rf _ _ _
  · rcases zif_or h with h | h
    · cases h
      exact zFr_rf _ _ _
    · rcases zif_or h with h | h
      · cases h
        exact zFr_rf _ _ _
      · rcases zif_or h with h | h
        · obtain ⟨S_6, h9, h⟩ := zbv_inv h
          refine zFr_trans (zFr_mono (frX8_keep h9) (by simp) (by simp)) ?_
          refine zFr_wi h (by simp) (fun S_7 h => ?_)
          exact L46 zF _ _ _ _ _ _ _ h
        · cases h
          exact zFr_rf _ _ _

set_option maxRecDepth 100000 in
set_option maxHeartbeats 4000000 in
theorem frX8_isTick {a1 : Int32} {S : zT} {o : Int32 × zT} (h : fX8_isTick a1 S = some o) : zFr [] [] S o.2 := by
  unfold fX8_isTick at h
  rcases zif_or h with h | h
  · cases h
    exact zFr_rf _ _ _
  · rcases zif_or h with h | h
    · cases h
      exact zFr_rf _ _ _
    · cases h
      exact zFr_rf _ _ _

set_option maxRecDepth 100000 in
set_option maxHeartbeats 4000000 in
theorem frX8_isSet {a1 : Int32} {S : zT} {o : Int32 × zT} (h : fX8_isSet a1 S = some o) : zFr [] [] S o.2 := by
  unfold fX8_isSet at h
  rcases zif_or h with h | h
  · cases h
    exact zFr_rf _ _ _
  · rcases zif_or h with h | h
    · cases h
      exact zFr_rf _ _ _
    · cases h
      exact zFr_rf _ _ _

set_option maxRecDepth 100000 in
set_option maxHeartbeats 4000000 in
theorem frX8_tick {a1 : Int32} {a2 : Int32} {S : zT} {o : Int32 × zT} (h : fX8_tick a1 a2 S = some o) : zFr [102, 103] [0, 3, 4] S o.2 := by
  unfold fX8_tick at h
  refine zFr_wmi h (by simp) (fun S_1 h => ?_)
  obtain ⟨S_2, h9, h⟩ := zbv_inv h
  refine zFr_trans (zFr_mono (frX8_begins h9) (by simp) (by simp)) ?_
  obtain ⟨r_4, S_3, h9, h⟩ := zbi_inv h
  refine zFr_trans (zFr_mono (frX8_isTick h9) (by simp) (by simp)) ?_
  rcases zif_or h with h | h
  · cases h
    exact zFr_rf _ _ _
  · obtain ⟨r_6, S_5, h9, h⟩ := zbi_inv h
    refine zFr_trans (zFr_mono (frX8_isSet h9) (by simp) (by simp)) ?_
    rcases zif_or h with h | h
    · cases h
      exact zFr_rf _ _ _
    · obtain ⟨S_7, h9, h⟩ := zbv_inv h
      refine zFr_trans (zFr_mono (frX8_keep h9) (by simp) (by simp)) ?_
      replace h := (zif_g h).2
      refine zFr_wi h (by simp) (fun S_8 h => ?_)
      cases h
      exact zFr_rf _ _ _

set_option maxRecDepth 100000 in
set_option maxHeartbeats 4000000 in
theorem frX8_twin {a1 : Int32} {S : zT} {o : Int32 × zT} (h : fX8_twin a1 S = some o) : zFr [] [] S o.2 := by
  unfold fX8_twin at h
  replace h := (zif_g h).2
  replace h := (zif_g h).2
  obtain ⟨r_2, S_1, h9, h⟩ := zbi_inv h
  refine zFr_trans (zFr_mono (frX8_legAt h9) (by simp) (by simp)) ?_
  cases h
  exact zFr_rf _ _ _

set_option maxRecDepth 100000 in
set_option maxHeartbeats 4000000 in
theorem frX8_isMirrored {S : zT} {o : Int32 × zT} (h : fX8_isMirrored S = some o) : zFr [] [] S o.2 := by
  unfold fX8_isMirrored at h
  have L13 : ∀ (n13 : Nat) (x1 : Int32) (S : zT), (zfix (fun _ _ => none) fX8_isMirrored_13 n13) x1 S = some o → zFr [] [] S o.2 := by
    intro n13
    induction n13 with
    | zero => intro x1 S h; exact zno (show (none : Option (Int32 × zT)) = some o from h)
    | succ n13 ih13 =>
      intro x1 S h
      replace h : fX8_isMirrored_13 (zfix (fun _ _ => none) fX8_isMirrored_13 n13) x1 S = some o := h
      unfold fX8_isMirrored_13 at h
      rcases zif_or h with h | h
      · cases h
        exact zFr_rf _ _ _
      · obtain ⟨r_2, S_1, h9, h⟩ := zbi_inv h
        refine zFr_trans (zFr_mono (frX8_twin h9) (by simp) (by simp)) ?_
        rcases zif_or h with h | h
        · cases h
          exact zFr_rf _ _ _
        · exact ih13 _ _ h
  rcases zif_or h with h | h
  · exact L13 zF _ _ h
  · cases h
    exact zFr_rf _ _ _

set_option maxRecDepth 100000 in
set_option maxHeartbeats 4000000 in
theorem frX8_about {a1 : Int32} {S : zT} {o : Int32 × zT} (h : fX8_about a1 S = some o) : zFr [102] [0, 4] S o.2 := by
  unfold fX8_about at h
  have L143 : ∀ (x1 : Int32) (S : zT), fX8_about_143 x1 S = some o → zFr [102] [0, 4] S o.2 := by
    intro x1 S h
    unfold fX8_about_143 at h
    have L173 : ∀ (x1 : Int32) (S : zT), fX8_about_173 x1 S = some o → zFr [102] [0, 4] S o.2 := by
      intro x1 S h
      unfold fX8_about_173 at h
      rcases zif_or h with h | h
      · cases h
        exact zFr_rf _ _ _
      · obtain ⟨r_2, S_1, h9, h⟩ := zbi_inv h
        refine zFr_trans (zFr_mono (frX8_isLeg h9) (by simp) (by simp)) ?_
        rcases zif_or h with h | h
        · cases h
          exact zFr_rf _ _ _
        · obtain ⟨r_4, S_3, h9, h⟩ := zbi_inv h
          refine zFr_trans (zFr_mono (frX8_twin h9) (by simp) (by simp)) ?_
          rcases zif_or h with h | h
          · cases h
            exact zFr_rf _ _ _
          · obtain ⟨r_6, S_5, h9, h⟩ := zbi_inv h
            refine zFr_trans (zFr_mono (frX8_twin h9) (by simp) (by simp)) ?_
            cases h
            exact zFr_rf _ _ _
    rcases zif_or h with h | h
    · exact L173 _ _ h
    · obtain ⟨r_8, S_7, h9, h⟩ := zbi_inv h
      refine zFr_trans (zFr_mono (frX8_isLeg h9) (by simp) (by simp)) ?_
      rcases zif_or h with h | h
      · exact L173 _ _ h
      · replace h := (zif_g h).2
        cases h
        exact zFr_rf _ _ _
  refine zFr_wmi h (by simp) (fun S_9 h => ?_)
  obtain ⟨S_10, h9, h⟩ := zbv_inv h
  refine zFr_trans (zFr_mono (frX8_begins h9) (by simp) (by simp)) ?_
  rcases zif_or h with h | h
  · cases h
    exact zFr_rf _ _ _
  · rcases zif_or h with h | h
    · cases h
      exact zFr_rf _ _ _
    · rcases zif_or h with h | h
      · cases h
        exact zFr_rf _ _ _
      · rcases zif_or h with h | h
        · cases h
          exact zFr_rf _ _ _
        · rcases zif_or h with h | h
          · cases h
            exact zFr_rf _ _ _
          · rcases zif_or h with h | h
            · cases h
              exact zFr_rf _ _ _
            · rcases zif_or h with h | h
              · cases h
                exact zFr_rf _ _ _
              · rcases zif_or h with h | h
                · obtain ⟨r_14, S_13, h9, h⟩ := zbi_inv h
                  refine zFr_trans (zFr_mono (frX8_isMirrored h9) (by simp) (by simp)) ?_
                  rcases zif_or h with h | h
                  · cases h
                    exact zFr_rf _ _ _
                  · cases h
                    exact zFr_rf _ _ _
                · rcases zif_or h with h | h
                  · exact L143 _ _ h
                  · obtain ⟨r_12, S_11, h9, h⟩ := zbi_inv h
                    refine zFr_trans (zFr_mono (frX8_isLeg h9) (by simp) (by simp)) ?_
                    rcases zif_or h with h | h
                    · exact L143 _ _ h
                    · replace h := (zif_g h).2
                      cases h
                      exact zFr_rf _ _ _

set_option maxRecDepth 100000 in
set_option maxHeartbeats 4000000 in
theorem frX8_down {a1 : Int32} {S : zT} {o : Int32 × zT} (h : fX8_down a1 S = some o) : zFr [102] [0, 4] S o.2 := by
  unfold fX8_down at h
  refine zFr_wmi h (by simp) (fun S_1 h => ?_)
  obtain ⟨S_2, h9, h⟩ := zbv_inv h
  refine zFr_trans (zFr_mono (frX8_begins h9) (by simp) (by simp)) ?_
  obtain ⟨r_4, S_3, h9, h⟩ := zbi_inv h
  refine zFr_trans (zFr_mono (frX8_isTick h9) (by simp) (by simp)) ?_
  rcases zif_or h with h | h
  · cases h
    exact zFr_rf _ _ _
  · replace h := (zif_g h).2
    cases h
    exact zFr_rf _ _ _

set_option maxRecDepth 100000 in
set_option maxHeartbeats 4000000 in
theorem frX8_isDown {a1 : Int32} {a2 : Int32} {S : zT} {o : Int32 × zT} (h : fX8_isDown a1 a2 S = some o) : zFr [] [] S o.2 := by
  unfold fX8_isDown at h
  replace h := (zif_g h).2
  rcases zif_or h with h | h
  · cases h
    exact zFr_rf _ _ _
  · cases h
    exact zFr_rf _ _ _

set_option maxRecDepth 100000 in
set_option maxHeartbeats 4000000 in
theorem frX8_ahead {a1 : Int32} {a2 : Int32} {S : zT} {o : Int32 × zT} (h : fX8_ahead a1 a2 S = some o) : zFr [] [] S o.2 := by
  unfold fX8_ahead at h
  have L2 : ∀ (n2 : Nat) (x1 : Int32) (x2 : Int32) (x3 : Int32) (S : zT), (zfix (fun _ _ _ _ => none) fX8_ahead_2 n2) x1 x2 x3 S = some o → zFr [] [] S o.2 := by
    intro n2
    induction n2 with
    | zero => intro x1 x2 x3 S h; exact zno (show (none : Option (Int32 × zT)) = some o from h)
    | succ n2 ih2 =>
      intro x1 x2 x3 S h
      replace h : fX8_ahead_2 (zfix (fun _ _ _ _ => none) fX8_ahead_2 n2) x1 x2 x3 S = some o := h
      unfold fX8_ahead_2 at h
      rcases zif_or h with h | h
      · cases h
        exact zFr_rf _ _ _
      · replace h := (zif_g h).2
        obtain ⟨r_2, S_1, h9, h⟩ := zbi_inv h
        refine zFr_trans (zFr_mono (frX8_isDown h9) (by simp) (by simp)) ?_
        rcases zif_or h with h | h
        · cases h
          exact zFr_rf _ _ _
        · exact ih2 _ _ _ _ h
  exact L2 zF _ _ _ _ h

set_option maxRecDepth 100000 in
set_option maxHeartbeats 4000000 in
theorem frX8_behind {a1 : Int32} {a2 : Int32} {S : zT} {o : Int32 × zT} (h : fX8_behind a1 a2 S = some o) : zFr [] [] S o.2 := by
  unfold fX8_behind at h
  have L2 : ∀ (n2 : Nat) (x1 : Int32) (x2 : Int32) (x3 : Int32) (S : zT), (zfix (fun _ _ _ _ => none) fX8_behind_2 n2) x1 x2 x3 S = some o → zFr [] [] S o.2 := by
    intro n2
    induction n2 with
    | zero => intro x1 x2 x3 S h; exact zno (show (none : Option (Int32 × zT)) = some o from h)
    | succ n2 ih2 =>
      intro x1 x2 x3 S h
      replace h : fX8_behind_2 (zfix (fun _ _ _ _ => none) fX8_behind_2 n2) x1 x2 x3 S = some o := h
      unfold fX8_behind_2 at h
      rcases zif_or h with h | h
      · cases h
        exact zFr_rf _ _ _
      · replace h := (zif_g h).2
        obtain ⟨r_2, S_1, h9, h⟩ := zbi_inv h
        refine zFr_trans (zFr_mono (frX8_isDown h9) (by simp) (by simp)) ?_
        rcases zif_or h with h | h
        · cases h
          exact zFr_rf _ _ _
        · exact ih2 _ _ _ _ h
  exact L2 zF _ _ _ _ h

set_option maxRecDepth 100000 in
set_option maxHeartbeats 4000000 in
theorem frX8_stance {a1 : Int32} {a2 : Int32} {S : zT} {o : Int32 × zT} (h : fX8_stance a1 a2 S = some o) : zFr [] [] S o.2 := by
  unfold fX8_stance at h
  obtain ⟨r_2, S_1, h9, h⟩ := zbi_inv h
  refine zFr_trans (zFr_mono (frX8_ahead h9) (by simp) (by simp)) ?_
  obtain ⟨r_4, S_3, h9, h⟩ := zbi_inv h
  refine zFr_trans (zFr_mono (frX8_behind h9) (by simp) (by simp)) ?_
  rcases zif_or h with h | h
  · obtain ⟨r_6, S_5, h9, h⟩ := zbi_inv h
    refine zFr_trans (zFr_mono (frX8_ahead h9) (by simp) (by simp)) ?_
    obtain ⟨r_8, S_7, h9, h⟩ := zbi_inv h
    refine zFr_trans (zFr_mono (frX8_behind h9) (by simp) (by simp)) ?_
    cases h
    exact zFr_rf _ _ _
  · cases h
    exact zFr_rf _ _ _

set_option maxRecDepth 100000 in
set_option maxHeartbeats 4000000 in
theorem frX8_footY {a1 : Int32} {a2 : Int32} {S : zT} {o : Int32 × zT} (h : fX8_footY a1 a2 S = some o) : zFr [] [] S o.2 := by
  unfold fX8_footY at h
  have L22 : ∀ (x1 : Int32) (x3 : Int32) (t0 : Int32) (S : zT), fX8_footY_22 x1 x3 t0 S = some o → zFr [] [] S o.2 := by
    intro x1 x3 t0 S h
    unfold fX8_footY_22 at h
    replace h := (zif_g h).2
    cases h
    exact zFr_rf _ _ _
  obtain ⟨r_2, S_1, h9, h⟩ := zbi_inv h
  refine zFr_trans (zFr_mono (frX8_stance h9) (by simp) (by simp)) ?_
  rcases zif_or h with h | h
  · exact L22 _ _ _ _ h
  · obtain ⟨r_4, S_3, h9, h⟩ := zbi_inv h
    refine zFr_trans (zFr_mono (frX8_ahead h9) (by simp) (by simp)) ?_
    exact L22 _ _ _ _ h

set_option maxRecDepth 100000 in
set_option maxHeartbeats 4000000 in
theorem frX8_foot {a1 : Int32} {a2 : Int32} {a3 : Int32} {S : zT} {o : Int32 × zT} (h : fX8_foot a1 a2 a3 S = some o) : zFr [102] [0, 4] S o.2 := by
  unfold fX8_foot at h
  refine zFr_wmi h (by simp) (fun S_1 h => ?_)
  obtain ⟨S_2, h9, h⟩ := zbv_inv h
  refine zFr_trans (zFr_mono (frX8_begins h9) (by simp) (by simp)) ?_
  obtain ⟨r_4, S_3, h9, h⟩ := zbi_inv h
  refine zFr_trans (zFr_mono (frX8_isLeg h9) (by simp) (by simp)) ?_
  rcases zif_or h with h | h
  · cases h
    exact zFr_rf _ _ _
  · obtain ⟨r_6, S_5, h9, h⟩ := zbi_inv h
    refine zFr_trans (zFr_mono (frX8_isTick h9) (by simp) (by simp)) ?_
    rcases zif_or h with h | h
    · cases h
      exact zFr_rf _ _ _
    · rcases zif_or h with h | h
      · cases h
        exact zFr_rf _ _ _
      · rcases zif_or h with h | h
        · cases h
          exact zFr_rf _ _ _
        · obtain ⟨r_8, S_7, h9, h⟩ := zbi_inv h
          refine zFr_trans (zFr_mono (frX8_isDown h9) (by simp) (by simp)) ?_
          rcases zif_or h with h | h
          · cases h
            exact zFr_rf _ _ _
          · rcases zif_or h with h | h
            · replace h := (zif_g h).2
              cases h
              exact zFr_rf _ _ _
            · obtain ⟨r_10, S_9, h9, h⟩ := zbi_inv h
              refine zFr_trans (zFr_mono (frX8_footY h9) (by simp) (by simp)) ?_
              cases h
              exact zFr_rf _ _ _

set_option maxRecDepth 100000 in
set_option maxHeartbeats 4000000 in
theorem frX8_stand {a1 : Int32} {a2 : Int32} {S : zT} {o : zT} (h : fX8_stand a1 a2 S = some o) : zFr [104, 105] [5] S o := by
  unfold fX8_stand at h
  replace h := (zif_g h).2
  refine zFr_wi h (by simp) (fun S_1 h => ?_)
  replace h := (zif_g h).2
  refine zFr_wi h (by simp) (fun S_2 h => ?_)
  refine zFr_wmi h (by simp) (fun S_3 h => ?_)
  cases h
  exact zFr_rf _ _ _

set_option maxRecDepth 100000 in
set_option maxHeartbeats 4000000 in
theorem frX8_place {a1 : Int32} {a2 : Int32} {S : zT} {o : zT} (h : fX8_place a1 a2 S = some o) : zFr [] [8, 9, 10, 11, 12] S o := by
  unfold fX8_place at h
  have L32 : ∀ (x1 : Int32) (x2 : Int32) (S : zT), fX8_place_32 x1 x2 S = some o → zFr [] [8, 9, 10, 11, 12] S o := by
    intro x1 x2 S h
    unfold fX8_place_32 at h
    have L64 : ∀ (S : zT), fX8_place_64 S = some o → zFr [] [8, 9, 10, 11, 12] S o := by
      intro S h
      unfold fX8_place_64 at h
      refine zFr_wmi h (by simp) (fun S_1 h => ?_)
      cases h
      exact zFr_rf _ _ _
    have L54 : ∀ (x1 : Int32) (x2 : Int32) (S : zT), (fX8_place_54 fX8_place_64) x1 x2 S = some o → zFr [] [8, 9, 10, 11, 12] S o := by
      intro x1 x2 S h
      unfold fX8_place_54 at h
      refine zFr_wmi h (by simp) (fun S_2 h => ?_)
      refine zFr_wmi h (by simp) (fun S_3 h => ?_)
      exact L64 _ h
    rcases zif_or h with h | h
    · exact L54 _ _ _ h
    · rcases zif_or h with h | h
      · exact L64 _ h
      · exact L54 _ _ _ h
  have L22 : ∀ (x1 : Int32) (x2 : Int32) (S : zT), (fX8_place_22 fX8_place_32) x1 x2 S = some o → zFr [] [8, 9, 10, 11, 12] S o := by
    intro x1 x2 S h
    unfold fX8_place_22 at h
    refine zFr_wmi h (by simp) (fun S_4 h => ?_)
    refine zFr_wmi h (by simp) (fun S_5 h => ?_)
    exact L32 _ _ _ h
  rcases zif_or h with h | h
  · exact L22 _ _ _ h
  · rcases zif_or h with h | h
    · exact L32 _ _ _ h
    · exact L22 _ _ _ h

set_option maxRecDepth 100000 in
set_option maxHeartbeats 4000000 in
theorem frX8_spans {a1 : Int32} {S : zT} {o : zT} (h : fX8_spans a1 S = some o) : zFr [] [8, 9, 10, 11, 12] S o := by
  unfold fX8_spans at h
  have L7 : ∀ (n7 : Nat) (x1 : Int32) (x2 : Int32) (S : zT), (zfix (fun _ _ _ => none) fX8_spans_7 n7) x1 x2 S = some o → zFr [] [8, 9, 10, 11, 12] S o := by
    intro n7
    induction n7 with
    | zero => intro x1 x2 S h; exact zno (show (none : Option zT) = some o from h)
    | succ n7 ih7 =>
      intro x1 x2 S h
      replace h : fX8_spans_7 (zfix (fun _ _ _ => none) fX8_spans_7 n7) x1 x2 S = some o := h
      unfold fX8_spans_7 at h
      have L36 : ∀ (x1 : Int32) (x2 : Int32) (S : zT), (fX8_spans_36 (zfix (fun _ _ _ => none) fX8_spans_7 n7)) x1 x2 S = some o → zFr [] [8, 9, 10, 11, 12] S o := by
        intro x1 x2 S h
        unfold fX8_spans_36 at h
        have L38 : ∀ (n38 : Nat) (x1 : Int32) (x2 : Int32) (x3 : Int32) (S : zT), (zfix (fun _ _ _ _ => none) (fX8_spans_38 (zfix (fun _ _ _ => none) fX8_spans_7 n7)) n38) x1 x2 x3 S = some o → zFr [] [8, 9, 10, 11, 12] S o := by
          intro n38
          induction n38 with
          | zero => intro x1 x2 x3 S h; exact zno (show (none : Option zT) = some o from h)
          | succ n38 ih38 =>
            intro x1 x2 x3 S h
            replace h : fX8_spans_38 (zfix (fun _ _ _ => none) fX8_spans_7 n7) (zfix (fun _ _ _ _ => none) (fX8_spans_38 (zfix (fun _ _ _ => none) fX8_spans_7 n7)) n38) x1 x2 x3 S = some o := h
            unfold fX8_spans_38 at h
            have L122 : ∀ (x1 : Int32) (x2 : Int32) (x3 : Int32) (S : zT), (fX8_spans_122 (zfix (fun _ _ _ _ => none) (fX8_spans_38 (zfix (fun _ _ _ => none) fX8_spans_7 n7)) n38)) x1 x2 x3 S = some o → zFr [] [8, 9, 10, 11, 12] S o := by
              intro x1 x2 x3 S h
              unfold fX8_spans_122 at h
              exact ih38 _ _ _ _ h
            rcases zif_or h with h | h
            · exact ih7 _ _ _ h
            · replace h := (zif_g h).2
              rcases zif_or h with h | h
              · exact L122 _ _ _ _ h
              · replace h := (zif_g h).2
                rcases zif_or h with h | h
                · replace h := (zif_g h).2
                  replace h := (zif_g h).2
                  replace h := (zif_g h).2
                  replace h := (zif_g h).2
                  replace h := (zif_g h).2
                  replace h := (zif_g h).2
                  obtain ⟨S_1, h9, h⟩ := zbv_inv h
                  refine zFr_trans (zFr_mono (frX8_place h9) (by simp) (by simp)) ?_
                  exact L122 _ _ _ _ h
                · exact L122 _ _ _ _ h
        exact L38 zF _ _ _ _ h
      rcases zif_or h with h | h
      · cases h
        exact zFr_rf _ _ _
      · replace h := (zif_g h).2
        rcases zif_or h with h | h
        · replace h := (zif_g h).2
          obtain ⟨S_2, h9, h⟩ := zbv_inv h
          refine zFr_trans (zFr_mono (frX8_place h9) (by simp) (by simp)) ?_
          exact L36 _ _ _ h
        · exact L36 _ _ _ h
  refine zFr_wmi h (by simp) (fun S_3 h => ?_)
  exact L7 zF _ _ _ h

set_option maxRecDepth 100000 in
set_option maxHeartbeats 4000000 in
theorem frX8_feetAt {a1 : Int32} {S : zT} {o : zT} (h : fX8_feetAt a1 S = some o) : zFr [104, 105] [5] S o := by
  unfold fX8_feetAt at h
  have L7 : ∀ (n7 : Nat) (x1 : Int32) (x2 : Int32) (S : zT), (zfix (fun _ _ _ => none) fX8_feetAt_7 n7) x1 x2 S = some o → zFr [104, 105] [5] S o := by
    intro n7
    induction n7 with
    | zero => intro x1 x2 S h; exact zno (show (none : Option zT) = some o from h)
    | succ n7 ih7 =>
      intro x1 x2 S h
      replace h : fX8_feetAt_7 (zfix (fun _ _ _ => none) fX8_feetAt_7 n7) x1 x2 S = some o := h
      unfold fX8_feetAt_7 at h
      have L47 : ∀ (x1 : Int32) (x2 : Int32) (S : zT), (fX8_feetAt_47 (zfix (fun _ _ _ => none) fX8_feetAt_7 n7)) x1 x2 S = some o → zFr [104, 105] [5] S o := by
        intro x1 x2 S h
        unfold fX8_feetAt_47 at h
        exact ih7 _ _ _ h
      rcases zif_or h with h | h
      · cases h
        exact zFr_rf _ _ _
      · obtain ⟨r_2, S_1, h9, h⟩ := zbi_inv h
        refine zFr_trans (zFr_mono (frX8_isDown h9) (by simp) (by simp)) ?_
        rcases zif_or h with h | h
        · exact L47 _ _ _ h
        · replace h := (zif_g h).2
          obtain ⟨r_4, S_3, h9, h⟩ := zbi_inv h
          refine zFr_trans (zFr_mono (frX8_footY h9) (by simp) (by simp)) ?_
          obtain ⟨S_5, h9, h⟩ := zbv_inv h
          refine zFr_trans (zFr_mono (frX8_stand h9) (by simp) (by simp)) ?_
          exact L47 _ _ _ h
  refine zFr_wmi h (by simp) (fun S_6 h => ?_)
  exact L7 zF _ _ _ h

set_option maxRecDepth 100000 in
set_option maxHeartbeats 4000000 in
theorem frX8_isWithin {a1 : Int32} {S : zT} {o : Int32 × zT} (h : fX8_isWithin a1 S = some o) : zFr [] [] S o.2 := by
  unfold fX8_isWithin at h
  rcases zif_or h with h | h
  · cases h
    exact zFr_rf _ _ _
  · rcases zif_or h with h | h
    · cases h
      exact zFr_rf _ _ _
    · rcases zif_or h with h | h
      · cases h
        exact zFr_rf _ _ _
      · cases h
        exact zFr_rf _ _ _

set_option maxRecDepth 100000 in
set_option maxHeartbeats 4000000 in
theorem frX8_isPairs {a1 : Int32} {S : zT} {o : Int32 × zT} (h : fX8_isPairs a1 S = some o) : zFr [] [] S o.2 := by
  unfold fX8_isPairs at h
  have L2 : ∀ (n2 : Nat) (x1 : Int32) (x2 : Int32) (S : zT), (zfix (fun _ _ _ => none) fX8_isPairs_2 n2) x1 x2 S = some o → zFr [] [] S o.2 := by
    intro n2
    induction n2 with
    | zero => intro x1 x2 S h; exact zno (show (none : Option (Int32 × zT)) = some o from h)
    | succ n2 ih2 =>
      intro x1 x2 S h
      replace h : fX8_isPairs_2 (zfix (fun _ _ _ => none) fX8_isPairs_2 n2) x1 x2 S = some o := h
      unfold fX8_isPairs_2 at h
      rcases zif_or h with h | h
      · cases h
        exact zFr_rf _ _ _
      · rcases zif_or h with h | h
        · exact ih2 _ _ _ h
        · cases h
          exact zFr_rf _ _ _
  exact L2 zF _ _ _ h

set_option maxRecDepth 100000 in
set_option maxHeartbeats 4000000 in
theorem frX8_isFlying {a1 : Int32} {S : zT} {o : Int32 × zT} (h : fX8_isFlying a1 S = some o) : zFr [] [] S o.2 := by
  unfold fX8_isFlying at h
  have L2 : ∀ (n2 : Nat) (x1 : Int32) (x2 : Int32) (S : zT), (zfix (fun _ _ _ => none) fX8_isFlying_2 n2) x1 x2 S = some o → zFr [] [] S o.2 := by
    intro n2
    induction n2 with
    | zero => intro x1 x2 S h; exact zno (show (none : Option (Int32 × zT)) = some o from h)
    | succ n2 ih2 =>
      intro x1 x2 S h
      replace h : fX8_isFlying_2 (zfix (fun _ _ _ => none) fX8_isFlying_2 n2) x1 x2 S = some o := h
      unfold fX8_isFlying_2 at h
      have L42 : ∀ (x1 : Int32) (x2 : Int32) (S : zT), fX8_isFlying_42 x1 x2 S = some o → zFr [] [] S o.2 := by
        intro x1 x2 S h
        unfold fX8_isFlying_42 at h
        have L44 : ∀ (n44 : Nat) (x1 : Int32) (x2 : Int32) (x3 : Int32) (S : zT), (zfix (fun _ _ _ _ => none) fX8_isFlying_44 n44) x1 x2 x3 S = some o → zFr [] [] S o.2 := by
          intro n44
          induction n44 with
          | zero => intro x1 x2 x3 S h; exact zno (show (none : Option (Int32 × zT)) = some o from h)
          | succ n44 ih44 =>
            intro x1 x2 x3 S h
            replace h : fX8_isFlying_44 (zfix (fun _ _ _ _ => none) fX8_isFlying_44 n44) x1 x2 x3 S = some o := h
            unfold fX8_isFlying_44 at h
            have L96 : ∀ (x2 : Int32) (x3 : Int32) (S : zT), fX8_isFlying_96 x2 x3 S = some o → zFr [] [] S o.2 := by
              intro x2 x3 S h
              unfold fX8_isFlying_96 at h
              rcases zif_or h with h | h
              · cases h
                exact zFr_rf _ _ _
              · rcases zif_or h with h | h
                · cases h
                  exact zFr_rf _ _ _
                · cases h
                  exact zFr_rf _ _ _
            rcases zif_or h with h | h
            · exact L96 _ _ _ h
            · replace h := (zif_g h).2
              replace h := (zif_g h).2
              rcases zif_or h with h | h
              · exact ih44 _ _ _ _ h
              · exact L96 _ _ _ h
        exact L44 zF _ _ _ _ h
      rcases zif_or h with h | h
      · exact L42 _ _ _ h
      · replace h := (zif_g h).2
        replace h := (zif_g h).2
        rcases zif_or h with h | h
        · exact ih2 _ _ _ h
        · exact L42 _ _ _ h
  exact L2 zF _ _ _ h

set_option maxRecDepth 100000 in
set_option maxHeartbeats 4000000 in
theorem frX8_standsAt {a1 : Int32} {S : zT} {o : Int32 × zT} (h : fX8_standsAt a1 S = some o) : zFr [104, 105] [5, 8, 9, 10, 11, 12] S o.2 := by
  unfold fX8_standsAt at h
  have L30 : ∀ (x1 : Int32) (x2 : Int32) (S : zT), fX8_standsAt_30 x1 x2 S = some o → zFr [104, 105] [5, 8, 9, 10, 11, 12] S o.2 := by
    intro x1 x2 S h
    unfold fX8_standsAt_30 at h
    rcases zif_or h with h | h
    · rcases zif_or h with h | h
      · obtain ⟨r_6, S_5, h9, h⟩ := zbi_inv h
        refine zFr_trans (zFr_mono (frX8_isFlying h9) (by simp) (by simp)) ?_
        rcases zif_or h with h | h
        · cases h
          exact zFr_rf _ _ _
        · cases h
          exact zFr_rf _ _ _
      · cases h
        exact zFr_rf _ _ _
    · obtain ⟨S_1, h9, h⟩ := zbv_inv h
      refine zFr_trans (zFr_mono (frX8_feetAt h9) (by simp) (by simp)) ?_
      obtain ⟨S_2, h9, h⟩ := zbv_inv h
      refine zFr_trans (zFr_mono (frX8_spans h9) (by simp) (by simp)) ?_
      obtain ⟨r_4, S_3, h9, h⟩ := zbi_inv h
      refine zFr_trans (zFr_mono (frX8_isWithin h9) (by simp) (by simp)) ?_
      replace h := (zif_g h).2
      cases h
      exact zFr_rf _ _ _
  replace h := (zif_g h).2
  rcases zif_or h with h | h
  · obtain ⟨r_8, S_7, h9, h⟩ := zbi_inv h
    refine zFr_trans (zFr_mono (frX8_isPairs h9) (by simp) (by simp)) ?_
    rcases zif_or h with h | h
    · cases h
      exact zFr_rf _ _ _
    · exact L30 _ _ _ h
  · exact L30 _ _ _ h

set_option maxRecDepth 100000 in
set_option maxHeartbeats 4000000 in
theorem frX8_stands {a1 : Int32} {S : zT} {o : Int32 × zT} (h : fX8_stands a1 S = some o) : zFr [102, 104, 105] [0, 4, 5, 8, 9, 10, 11, 12] S o.2 := by
  unfold fX8_stands at h
  refine zFr_wmi h (by simp) (fun S_1 h => ?_)
  obtain ⟨S_2, h9, h⟩ := zbv_inv h
  refine zFr_trans (zFr_mono (frX8_begins h9) (by simp) (by simp)) ?_
  obtain ⟨r_4, S_3, h9, h⟩ := zbi_inv h
  refine zFr_trans (zFr_mono (frX8_isTick h9) (by simp) (by simp)) ?_
  rcases zif_or h with h | h
  · cases h
    exact zFr_rf _ _ _
  · obtain ⟨r_6, S_5, h9, h⟩ := zbi_inv h
    refine zFr_trans (zFr_mono (frX8_standsAt h9) (by simp) (by simp)) ?_
    rcases zif_or h with h | h
    · cases h
      exact zFr_rf _ _ _
    · cases h
      exact zFr_rf _ _ _

set_option maxRecDepth 100000 in
set_option maxHeartbeats 4000000 in
theorem frX8_whyNot {S : zT} {o : Int32 × zT} (h : fX8_whyNot S = some o) : zFr [104, 105] [5, 8, 9, 10, 11, 12] S o.2 := by
  unfold fX8_whyNot at h
  have L2 : ∀ (n2 : Nat) (x1 : Int32) (S : zT), (zfix (fun _ _ => none) fX8_whyNot_2 n2) x1 S = some o → zFr [104, 105] [5, 8, 9, 10, 11, 12] S o.2 := by
    intro n2
    induction n2 with
    | zero => intro x1 S h; exact zno (show (none : Option (Int32 × zT)) = some o from h)
    | succ n2 ih2 =>
      intro x1 S h
      replace h : fX8_whyNot_2 (zfix (fun _ _ => none) fX8_whyNot_2 n2) x1 S = some o := h
      unfold fX8_whyNot_2 at h
      have L31 : ∀ (n31 : Nat) (x1 : Int32) (S : zT), (zfix (fun _ _ => none) fX8_whyNot_31 n31) x1 S = some o → zFr [104, 105] [5, 8, 9, 10, 11, 12] S o.2 := by
        intro n31
        induction n31 with
        | zero => intro x1 S h; exact zno (show (none : Option (Int32 × zT)) = some o from h)
        | succ n31 ih31 =>
          intro x1 S h
          replace h : fX8_whyNot_31 (zfix (fun _ _ => none) fX8_whyNot_31 n31) x1 S = some o := h
          unfold fX8_whyNot_31 at h
          have L43 : ∀ (n43 : Nat) (x1 : Int32) (x2 : Int32) (S : zT), (zfix (fun _ _ _ => none) (fX8_whyNot_43 (zfix (fun _ _ => none) fX8_whyNot_31 n31)) n43) x1 x2 S = some o → zFr [104, 105] [5, 8, 9, 10, 11, 12] S o.2 := by
            intro n43
            induction n43 with
            | zero => intro x1 x2 S h; exact zno (show (none : Option (Int32 × zT)) = some o from h)
            | succ n43 ih43 =>
              intro x1 x2 S h
              replace h : fX8_whyNot_43 (zfix (fun _ _ => none) fX8_whyNot_31 n31) (zfix (fun _ _ _ => none) (fX8_whyNot_43 (zfix (fun _ _ => none) fX8_whyNot_31 n31)) n43) x1 x2 S = some o := h
              unfold fX8_whyNot_43 at h
              have L94 : ∀ (x1 : Int32) (x2 : Int32) (S : zT), (fX8_whyNot_94 (zfix (fun _ _ _ => none) (fX8_whyNot_43 (zfix (fun _ _ => none) fX8_whyNot_31 n31)) n43)) x1 x2 S = some o → zFr [104, 105] [5, 8, 9, 10, 11, 12] S o.2 := by
                intro x1 x2 S h
                unfold fX8_whyNot_94 at h
                exact ih43 _ _ _ h
              rcases zif_or h with h | h
              · exact ih31 _ _ h
              · obtain ⟨r_2, S_1, h9, h⟩ := zbi_inv h
                refine zFr_trans (zFr_mono (frX8_isDown h9) (by simp) (by simp)) ?_
                rcases zif_or h with h | h
                · exact L94 _ _ _ h
                · obtain ⟨r_4, S_3, h9, h⟩ := zbi_inv h
                  refine zFr_trans (zFr_mono (frX8_stance h9) (by simp) (by simp)) ?_
                  rcases zif_or h with h | h
                  · exact L94 _ _ _ h
                  · cases h
                    exact zFr_rf _ _ _
          rcases zif_or h with h | h
          · cases h
            exact zFr_rf _ _ _
          · exact L43 zF _ _ _ h
      rcases zif_or h with h | h
      · exact L31 zF _ _ h
      · obtain ⟨r_6, S_5, h9, h⟩ := zbi_inv h
        refine zFr_trans (zFr_mono (frX8_standsAt h9) (by simp) (by simp)) ?_
        rcases zif_or h with h | h
        · cases h
          exact zFr_rf _ _ _
        · exact ih2 _ _ h
  exact L2 zF _ _ h

set_option maxRecDepth 100000 in
set_option maxHeartbeats 4000000 in
theorem frX8_walks {S : zT} {o : Int32 × zT} (h : fX8_walks S = some o) : zFr [102, 104, 105] [0, 4, 5, 8, 9, 10, 11, 12] S o.2 := by
  unfold fX8_walks at h
  refine zFr_wmi h (by simp) (fun S_1 h => ?_)
  obtain ⟨S_2, h9, h⟩ := zbv_inv h
  refine zFr_trans (zFr_mono (frX8_begins h9) (by simp) (by simp)) ?_
  obtain ⟨r_4, S_3, h9, h⟩ := zbi_inv h
  refine zFr_trans (zFr_mono (frX8_whyNot h9) (by simp) (by simp)) ?_
  rcases zif_or h with h | h
  · cases h
    exact zFr_rf _ _ _
  · cases h
    exact zFr_rf _ _ _

set_option maxRecDepth 100000 in
set_option maxHeartbeats 4000000 in
theorem frX8_why {S : zT} {o : Int32 × zT} (h : fX8_why S = some o) : zFr [102, 104, 105] [0, 4, 5, 8, 9, 10, 11, 12] S o.2 := by
  unfold fX8_why at h
  refine zFr_wmi h (by simp) (fun S_1 h => ?_)
  obtain ⟨S_2, h9, h⟩ := zbv_inv h
  refine zFr_trans (zFr_mono (frX8_begins h9) (by simp) (by simp)) ?_
  obtain ⟨r_4, S_3, h9, h⟩ := zbi_inv h
  refine zFr_trans (zFr_mono (frX8_whyNot h9) (by simp) (by simp)) ?_
  cases h
  exact zFr_rf _ _ _

set_option maxRecDepth 100000 in
set_option maxHeartbeats 4000000 in
theorem frX8_common {a1 : Int64} {a3 : Int64} {S : zT} {o : Int64 × zT} (h : fX8_common a1 a3 S = some o) : zFr [] [] S o.2 := by
  unfold fX8_common at h
  have L12 : ∀ (x3 : Int64) (t0 : Int64) (S : zT), fX8_common_12 x3 t0 S = some o → zFr [] [] S o.2 := by
    intro x3 t0 S h
    unfold fX8_common_12 at h
    have L17 : ∀ (n17 : Nat) (x5 : Int64) (x7 : Int64) (S : zT), (zfix (fun _ _ _ => none) fX8_common_17 n17) x5 x7 S = some o → zFr [] [] S o.2 := by
      intro n17
      induction n17 with
      | zero => intro x5 x7 S h; exact zno (show (none : Option (Int64 × zT)) = some o from h)
      | succ n17 ih17 =>
        intro x5 x7 S h
        replace h : fX8_common_17 (zfix (fun _ _ _ => none) fX8_common_17 n17) x5 x7 S = some o := h
        unfold fX8_common_17 at h
        rcases zif_or h with h | h
        · cases h
          exact zFr_rf _ _ _
        · replace h := (zif_g h).2
          exact ih17 _ _ _ h
    exact L17 zF _ _ _ h
  rcases zif_or h with h | h
  · exact L12 _ _ _ h
  · exact L12 _ _ _ h

set_option maxRecDepth 100000 in
set_option maxHeartbeats 4000000 in
theorem frX8_share {a1 : Int64} {a3 : Int64} {S : zT} {o : zT} (h : fX8_share a1 a3 S = some o) : zFr [] [13, 14] S o := by
  unfold fX8_share at h
  obtain ⟨r_2, S_1, h9, h⟩ := zbl_inv h
  refine zFr_trans (zFr_mono (frX8_common h9) (by simp) (by simp)) ?_
  replace h := (zif_g h).2
  refine zFr_wml h (by simp) (fun S_3 h => ?_)
  replace h := (zif_g h).2
  refine zFr_wml h (by simp) (fun S_4 h => ?_)
  cases h
  exact zFr_rf _ _ _

set_option maxRecDepth 100000 in
set_option maxHeartbeats 4000000 in
theorem frX8_marginAt {a1 : Int32} {S : zT} {o : Int32 × zT} (h : fX8_marginAt a1 S = some o) : zFr [104, 105] [5, 8, 9, 10, 11, 12, 13, 14] S o.2 := by
  unfold fX8_marginAt at h
  obtain ⟨S_1, h9, h⟩ := zbv_inv h
  refine zFr_trans (zFr_mono (frX8_feetAt h9) (by simp) (by simp)) ?_
  obtain ⟨S_2, h9, h⟩ := zbv_inv h
  refine zFr_trans (zFr_mono (frX8_spans h9) (by simp) (by simp)) ?_
  rcases zif_or h with h | h
  · cases h
    exact zFr_rf _ _ _
  · rcases zif_or h with h | h
    · obtain ⟨S_3, h9, h⟩ := zbv_inv h
      refine zFr_trans (zFr_mono (frX8_share h9) (by simp) (by simp)) ?_
      cases h
      exact zFr_rf _ _ _
    · obtain ⟨S_4, h9, h⟩ := zbv_inv h
      refine zFr_trans (zFr_mono (frX8_share h9) (by simp) (by simp)) ?_
      cases h
      exact zFr_rf _ _ _

set_option maxRecDepth 100000 in
set_option maxHeartbeats 4000000 in
theorem frX8_margin {a1 : Int32} {a2 : Int32} {S : zT} {o : Int64 × zT} (h : fX8_margin a1 a2 S = some o) : zFr [102, 104, 105] [0, 4, 5, 8, 9, 10, 11, 12, 13, 14] S o.2 := by
  unfold fX8_margin at h
  refine zFr_wmi h (by simp) (fun S_1 h => ?_)
  obtain ⟨S_2, h9, h⟩ := zbv_inv h
  refine zFr_trans (zFr_mono (frX8_begins h9) (by simp) (by simp)) ?_
  obtain ⟨r_4, S_3, h9, h⟩ := zbi_inv h
  refine zFr_trans (zFr_mono (frX8_isTick h9) (by simp) (by simp)) ?_
  rcases zif_or h with h | h
  · cases h
    exact zFr_rf _ _ _
  · rcases zif_or h with h | h
    · cases h
      exact zFr_rf _ _ _
    · rcases zif_or h with h | h
      · cases h
        exact zFr_rf _ _ _
      · obtain ⟨r_6, S_5, h9, h⟩ := zbi_inv h
        refine zFr_trans (zFr_mono (frX8_marginAt h9) (by simp) (by simp)) ?_
        rcases zif_or h with h | h
        · cases h
          exact zFr_rf _ _ _
        · rcases zif_or h with h | h
          · cases h
            exact zFr_rf _ _ _
          · cases h
            exact zFr_rf _ _ _

set_option maxRecDepth 100000 in
set_option maxHeartbeats 4000000 in
theorem frX8_worsts {S : zT} {o : Int32 × zT} (h : fX8_worsts S = some o) : zFr [104, 105] [5, 8, 9, 10, 11, 12, 13, 14, 15, 16, 17] S o.2 := by
  unfold fX8_worsts at h
  have L7 : ∀ (n7 : Nat) (x1 : Int32) (S : zT), (zfix (fun _ _ => none) fX8_worsts_7 n7) x1 S = some o → zFr [104, 105] [5, 8, 9, 10, 11, 12, 13, 14, 15, 16, 17] S o.2 := by
    intro n7
    induction n7 with
    | zero => intro x1 S h; exact zno (show (none : Option (Int32 × zT)) = some o from h)
    | succ n7 ih7 =>
      intro x1 S h
      replace h : fX8_worsts_7 (zfix (fun _ _ => none) fX8_worsts_7 n7) x1 S = some o := h
      unfold fX8_worsts_7 at h
      have L97 : ∀ (x1 : Int32) (S : zT), (fX8_worsts_97 (zfix (fun _ _ => none) fX8_worsts_7 n7)) x1 S = some o → zFr [104, 105] [5, 8, 9, 10, 11, 12, 13, 14, 15, 16, 17] S o.2 := by
        intro x1 S h
        unfold fX8_worsts_97 at h
        exact ih7 _ _ h
      have L76 : ∀ (x1 : Int32) (S : zT), (fX8_worsts_76 (fX8_worsts_97 (zfix (fun _ _ => none) fX8_worsts_7 n7))) x1 S = some o → zFr [104, 105] [5, 8, 9, 10, 11, 12, 13, 14, 15, 16, 17] S o.2 := by
        intro x1 S h
        unfold fX8_worsts_76 at h
        refine zFr_wmi h (by simp) (fun S_1 h => ?_)
        refine zFr_wml h (by simp) (fun S_2 h => ?_)
        refine zFr_wml h (by simp) (fun S_3 h => ?_)
        exact L97 _ _ h
      rcases zif_or h with h | h
      · rcases zif_or h with h | h
        · cases h
          exact zFr_rf _ _ _
        · cases h
          exact zFr_rf _ _ _
      · replace h := (zif_g h).2
        rcases zif_or h with h | h
        · exact L97 _ _ h
        · obtain ⟨r_5, S_4, h9, h⟩ := zbi_inv h
          refine zFr_trans (zFr_mono (frX8_marginAt h9) (by simp) (by simp)) ?_
          rcases zif_or h with h | h
          · cases h
            exact zFr_rf _ _ _
          · rcases zif_or h with h | h
            · exact L76 _ _ h
            · rcases zif_or h with h | h
              · exact L76 _ _ h
              · exact L97 _ _ h
  refine zFr_wmi h (by simp) (fun S_6 h => ?_)
  exact L7 zF _ _ h

set_option maxRecDepth 100000 in
set_option maxHeartbeats 4000000 in
theorem frX8_worst {a1 : Int32} {S : zT} {o : Int64 × zT} (h : fX8_worst a1 S = some o) : zFr [102, 104, 105] [0, 4, 5, 8, 9, 10, 11, 12, 13, 14, 15, 16, 17] S o.2 := by
  unfold fX8_worst at h
  refine zFr_wmi h (by simp) (fun S_1 h => ?_)
  obtain ⟨S_2, h9, h⟩ := zbv_inv h
  refine zFr_trans (zFr_mono (frX8_begins h9) (by simp) (by simp)) ?_
  rcases zif_or h with h | h
  · cases h
    exact zFr_rf _ _ _
  · rcases zif_or h with h | h
    · cases h
      exact zFr_rf _ _ _
    · obtain ⟨r_4, S_3, h9, h⟩ := zbi_inv h
      refine zFr_trans (zFr_mono (frX8_worsts h9) (by simp) (by simp)) ?_
      rcases zif_or h with h | h
      · cases h
        exact zFr_rf _ _ _
      · rcases zif_or h with h | h
        · cases h
          exact zFr_rf _ _ _
        · rcases zif_or h with h | h
          · cases h
            exact zFr_rf _ _ _
          · cases h
            exact zFr_rf _ _ _

set_option maxRecDepth 100000 in
set_option maxHeartbeats 4000000 in
theorem frX8_fastest {S : zT} {o : Int32 × zT} (h : fX8_fastest S = some o) : zFr [102, 104, 105] [0, 4, 5, 8, 9, 10, 11, 12] S o.2 := by
  unfold fX8_fastest at h
  have L20 : ∀ (n20 : Nat) (x1 : Int32) (x2 : Int32) (x3 : Int32) (S : zT), (zfix (fun _ _ _ _ => none) fX8_fastest_20 n20) x1 x2 x3 S = some o → zFr [102, 104, 105] [0, 4, 5, 8, 9, 10, 11, 12] S o.2 := by
    intro n20
    induction n20 with
    | zero => intro x1 x2 x3 S h; exact zno (show (none : Option (Int32 × zT)) = some o from h)
    | succ n20 ih20 =>
      intro x1 x2 x3 S h
      replace h : fX8_fastest_20 (zfix (fun _ _ _ _ => none) fX8_fastest_20 n20) x1 x2 x3 S = some o := h
      unfold fX8_fastest_20 at h
      have L43 : ∀ (x1 : Int32) (x2 : Int32) (x3 : Int32) (S : zT), (fX8_fastest_43 (zfix (fun _ _ _ _ => none) fX8_fastest_20 n20)) x1 x2 x3 S = some o → zFr [102, 104, 105] [0, 4, 5, 8, 9, 10, 11, 12] S o.2 := by
        intro x1 x2 x3 S h
        unfold fX8_fastest_43 at h
        exact ih20 _ _ _ _ h
      rcases zif_or h with h | h
      · refine zFr_wi h (by simp) (fun S_1 h => ?_)
        cases h
        exact zFr_rf _ _ _
      · refine zFr_wi h (by simp) (fun S_2 h => ?_)
        obtain ⟨r_4, S_3, h9, h⟩ := zbi_inv h
        refine zFr_trans (zFr_mono (frX8_whyNot h9) (by simp) (by simp)) ?_
        rcases zif_or h with h | h
        · exact L43 _ _ _ _ h
        · exact L43 _ _ _ _ h
  refine zFr_wmi h (by simp) (fun S_5 h => ?_)
  obtain ⟨S_6, h9, h⟩ := zbv_inv h
  refine zFr_trans (zFr_mono (frX8_begins h9) (by simp) (by simp)) ?_
  exact L20 zF _ _ _ _ h

set_option maxRecDepth 100000 in
set_option maxHeartbeats 4000000 in
theorem frX8_goAside {S : zT} {o : zT} (h : fX8_goAside S = some o) : zFr [106] [] S o := by
  unfold fX8_goAside at h
  have L2 : ∀ (n2 : Nat) (x1 : Int32) (S : zT), (zfix (fun _ _ => none) fX8_goAside_2 n2) x1 S = some o → zFr [106] [] S o := by
    intro n2
    induction n2 with
    | zero => intro x1 S h; exact zno (show (none : Option zT) = some o from h)
    | succ n2 ih2 =>
      intro x1 S h
      replace h : fX8_goAside_2 (zfix (fun _ _ => none) fX8_goAside_2 n2) x1 S = some o := h
      unfold fX8_goAside_2 at h
      rcases zif_or h with h | h
      · cases h
        exact zFr_rf _ _ _
      · replace h := (zif_g h).2
        replace h := (zif_g h).2
        refine zFr_wi h (by simp) (fun S_1 h => ?_)
        exact ih2 _ _ h
  exact L2 zF _ _ h

set_option maxRecDepth 100000 in
set_option maxHeartbeats 4000000 in
theorem frX8_comeBack {S : zT} {o : zT} (h : fX8_comeBack S = some o) : zFr [102] [] S o := by
  unfold fX8_comeBack at h
  have L2 : ∀ (n2 : Nat) (x1 : Int32) (S : zT), (zfix (fun _ _ => none) fX8_comeBack_2 n2) x1 S = some o → zFr [102] [] S o := by
    intro n2
    induction n2 with
    | zero => intro x1 S h; exact zno (show (none : Option zT) = some o from h)
    | succ n2 ih2 =>
      intro x1 S h
      replace h : fX8_comeBack_2 (zfix (fun _ _ => none) fX8_comeBack_2 n2) x1 S = some o := h
      unfold fX8_comeBack_2 at h
      rcases zif_or h with h | h
      · cases h
        exact zFr_rf _ _ _
      · replace h := (zif_g h).2
        replace h := (zif_g h).2
        refine zFr_wi h (by simp) (fun S_1 h => ?_)
        exact ih2 _ _ h
  exact L2 zF _ _ h

set_option maxRecDepth 100000 in
set_option maxHeartbeats 4000000 in
theorem frX8_isRegular {a1 : Int32} {a2 : Int32} {S : zT} {o : Int32 × zT} (h : fX8_isRegular a1 a2 S = some o) : zFr [] [] S o.2 := by
  unfold fX8_isRegular at h
  rcases zif_or h with h | h
  · cases h
    exact zFr_rf _ _ _
  · rcases zif_or h with h | h
    · cases h
      exact zFr_rf _ _ _
    · rcases zif_or h with h | h
      · cases h
        exact zFr_rf _ _ _
      · rcases zif_or h with h | h
        · cases h
          exact zFr_rf _ _ _
        · cases h
          exact zFr_rf _ _ _

set_option maxRecDepth 100000 in
set_option maxHeartbeats 4000000 in
theorem frX8_rows {a1 : Int32} {a2 : Int32} {a3 : Int32} {S : zT} {o : Int32 × zT} (h : fX8_rows a1 a2 a3 S = some o) : zFr [] [] S o.2 := by
  unfold fX8_rows at h
  have L17 : ∀ (n17 : Nat) (x1 : Int32) (x3 : Int32) (x4 : Int32) (x5 : Int32) (S : zT), (zfix (fun _ _ _ _ _ => none) fX8_rows_17 n17) x1 x3 x4 x5 S = some o → zFr [] [] S o.2 := by
    intro n17
    induction n17 with
    | zero => intro x1 x3 x4 x5 S h; exact zno (show (none : Option (Int32 × zT)) = some o from h)
    | succ n17 ih17 =>
      intro x1 x3 x4 x5 S h
      replace h : fX8_rows_17 (zfix (fun _ _ _ _ _ => none) fX8_rows_17 n17) x1 x3 x4 x5 S = some o := h
      unfold fX8_rows_17 at h
      have L40 : ∀ (x1 : Int32) (x3 : Int32) (x5 : Int32) (t0 : Int32) (S : zT), (fX8_rows_40 (zfix (fun _ _ _ _ _ => none) fX8_rows_17 n17)) x1 x3 x5 t0 S = some o → zFr [] [] S o.2 := by
        intro x1 x3 x5 t0 S h
        unfold fX8_rows_40 at h
        exact ih17 _ _ _ _ _ h
      rcases zif_or h with h | h
      · rcases zif_or h with h | h
        · cases h
          exact zFr_rf _ _ _
        · cases h
          exact zFr_rf _ _ _
      · rcases zif_or h with h | h
        · exact L40 _ _ _ _ _ h
        · exact L40 _ _ _ _ _ h
  obtain ⟨r_2, S_1, h9, h⟩ := zbi_inv h
  refine zFr_trans (zFr_mono (frX8_isRegular h9) (by simp) (by simp)) ?_
  rcases zif_or h with h | h
  · cases h
    exact zFr_rf _ _ _
  · exact L17 zF _ _ _ _ _ h

set_option maxRecDepth 100000 in
set_option maxHeartbeats 4000000 in
theorem frX8_offsets {a1 : Int32} {a2 : Int32} {S : zT} {o : zT} (h : fX8_offsets a1 a2 S = some o) : zFr [107] [] S o := by
  unfold fX8_offsets at h
  have L12 : ∀ (n12 : Nat) (x1 : Int32) (x3 : Int32) (x4 : Int32) (S : zT), (zfix (fun _ _ _ _ => none) fX8_offsets_12 n12) x1 x3 x4 S = some o → zFr [107] [] S o := by
    intro n12
    induction n12 with
    | zero => intro x1 x3 x4 S h; exact zno (show (none : Option zT) = some o from h)
    | succ n12 ih12 =>
      intro x1 x3 x4 S h
      replace h : fX8_offsets_12 (zfix (fun _ _ _ _ => none) fX8_offsets_12 n12) x1 x3 x4 S = some o := h
      unfold fX8_offsets_12 at h
      rcases zif_or h with h | h
      · refine zFr_wi h (by simp) (fun S_1 h => ?_)
        cases h
        exact zFr_rf _ _ _
      · replace h := (zif_g h).2
        replace h := (zif_g h).2
        refine zFr_wi h (by simp) (fun S_2 h => ?_)
        replace h := (zif_g h).2
        exact ih12 _ _ _ _ h
  exact L12 zF _ _ _ _ h

set_option maxRecDepth 100000 in
set_option maxHeartbeats 4000000 in
theorem frX8_laysRow {a1 : Int32} {a2 : Int32} {S : zT} {o : zT} (h : fX8_laysRow a1 a2 S = some o) : zFr [102] [] S o := by
  unfold fX8_laysRow at h
  have L10 : ∀ (n10 : Nat) (x1 : Int32) (x2 : Int32) (x3 : Int32) (S : zT), (zfix (fun _ _ _ _ => none) fX8_laysRow_10 n10) x1 x2 x3 S = some o → zFr [102] [] S o := by
    intro n10
    induction n10 with
    | zero => intro x1 x2 x3 S h; exact zno (show (none : Option zT) = some o from h)
    | succ n10 ih10 =>
      intro x1 x2 x3 S h
      replace h : fX8_laysRow_10 (zfix (fun _ _ _ _ => none) fX8_laysRow_10 n10) x1 x2 x3 S = some o := h
      unfold fX8_laysRow_10 at h
      have L22 : ∀ (n22 : Nat) (x1 : Int32) (x2 : Int32) (x3 : Int32) (x4 : Int32) (x5 : Int32) (S : zT), (zfix (fun _ _ _ _ _ _ => none) (fX8_laysRow_22 (zfix (fun _ _ _ _ => none) fX8_laysRow_10 n10)) n22) x1 x2 x3 x4 x5 S = some o → zFr [102] [] S o := by
        intro n22
        induction n22 with
        | zero => intro x1 x2 x3 x4 x5 S h; exact zno (show (none : Option zT) = some o from h)
        | succ n22 ih22 =>
          intro x1 x2 x3 x4 x5 S h
          replace h : fX8_laysRow_22 (zfix (fun _ _ _ _ => none) fX8_laysRow_10 n10) (zfix (fun _ _ _ _ _ _ => none) (fX8_laysRow_22 (zfix (fun _ _ _ _ => none) fX8_laysRow_10 n10)) n22) x1 x2 x3 x4 x5 S = some o := h
          unfold fX8_laysRow_22 at h
          have L70 : ∀ (x1 : Int32) (x2 : Int32) (x3 : Int32) (x4 : Int32) (S : zT), (fX8_laysRow_70 (zfix (fun _ _ _ _ => none) fX8_laysRow_10 n10)) x1 x2 x3 x4 S = some o → zFr [102] [] S o := by
            intro x1 x2 x3 x4 S h
            unfold fX8_laysRow_70 at h
            replace h := (zif_g h).2
            refine zFr_wi h (by simp) (fun S_1 h => ?_)
            exact ih10 _ _ _ _ h
          have L64 : ∀ (x1 : Int32) (x2 : Int32) (x3 : Int32) (x4 : Int32) (x5 : Int32) (S : zT), (fX8_laysRow_64 (zfix (fun _ _ _ _ _ _ => none) (fX8_laysRow_22 (zfix (fun _ _ _ _ => none) fX8_laysRow_10 n10)) n22)) x1 x2 x3 x4 x5 S = some o → zFr [102] [] S o := by
            intro x1 x2 x3 x4 x5 S h
            unfold fX8_laysRow_64 at h
            exact ih22 _ _ _ _ _ _ h
          rcases zif_or h with h | h
          · exact L70 _ _ _ _ _ h
          · rcases zif_or h with h | h
            · exact L70 _ _ _ _ _ h
            · replace h := (zif_g h).2
              replace h := (zif_g h).2
              rcases zif_or h with h | h
              · exact L64 _ _ _ _ _ _ h
              · exact L64 _ _ _ _ _ _ h
      rcases zif_or h with h | h
      · cases h
        exact zFr_rf _ _ _
      · exact L22 zF _ _ _ _ _ _ h
  refine zFr_wi h (by simp) (fun S_2 h => ?_)
  exact L10 zF _ _ _ _ h

set_option maxRecDepth 100000 in
set_option maxHeartbeats 4000000 in
theorem frX8_regular {a1 : Int32} {a2 : Int32} {a3 : Int32} {S : zT} {o : Int32 × zT} (h : fX8_regular a1 a2 a3 S = some o) : zFr [102, 103, 107] [0, 3, 4] S o.2 := by
  unfold fX8_regular at h
  have L23 : ∀ (n23 : Nat) (x1 : Int32) (x2 : Int32) (x3 : Int32) (x4 : Int32) (S : zT), (zfix (fun _ _ _ _ _ => none) fX8_regular_23 n23) x1 x2 x3 x4 S = some o → zFr [102, 103, 107] [0, 3, 4] S o.2 := by
    intro n23
    induction n23 with
    | zero => intro x1 x2 x3 x4 S h; exact zno (show (none : Option (Int32 × zT)) = some o from h)
    | succ n23 ih23 =>
      intro x1 x2 x3 x4 S h
      replace h : fX8_regular_23 (zfix (fun _ _ _ _ _ => none) fX8_regular_23 n23) x1 x2 x3 x4 S = some o := h
      unfold fX8_regular_23 at h
      have L69 : ∀ (n69 : Nat) (x1 : Int32) (x2 : Int32) (x3 : Int32) (x4 : Int32) (S : zT), (zfix (fun _ _ _ _ _ => none) fX8_regular_69 n69) x1 x2 x3 x4 S = some o → zFr [102, 103, 107] [0, 3, 4] S o.2 := by
        intro n69
        induction n69 with
        | zero => intro x1 x2 x3 x4 S h; exact zno (show (none : Option (Int32 × zT)) = some o from h)
        | succ n69 ih69 =>
          intro x1 x2 x3 x4 S h
          replace h : fX8_regular_69 (zfix (fun _ _ _ _ _ => none) fX8_regular_69 n69) x1 x2 x3 x4 S = some o := h
          unfold fX8_regular_69 at h
          rcases zif_or h with h | h
          · obtain ⟨S_1, h9, h⟩ := zbv_inv h
            refine zFr_trans (zFr_mono (frX8_laysRow h9) (by simp) (by simp)) ?_
            cases h
            exact zFr_rf _ _ _
          · replace h := (zif_g h).2
            refine zFr_wi h (by simp) (fun S_2 h => ?_)
            exact ih69 _ _ _ _ _ h
      rcases zif_or h with h | h
      · obtain ⟨S_3, h9, h⟩ := zbv_inv h
        refine zFr_trans (zFr_mono (frX8_keep h9) (by simp) (by simp)) ?_
        refine zFr_wi h (by simp) (fun S_4 h => ?_)
        exact L69 zF _ _ _ _ _ h
      · rcases zif_or h with h | h
        · exact ih23 _ _ _ _ _ h
        · cases h
          exact zFr_rf _ _ _
  refine zFr_wmi h (by simp) (fun S_5 h => ?_)
  obtain ⟨S_6, h9, h⟩ := zbv_inv h
  refine zFr_trans (zFr_mono (frX8_begins h9) (by simp) (by simp)) ?_
  obtain ⟨r_8, S_7, h9, h⟩ := zbi_inv h
  refine zFr_trans (zFr_mono (frX8_isRegular h9) (by simp) (by simp)) ?_
  rcases zif_or h with h | h
  · cases h
    exact zFr_rf _ _ _
  · exact L23 zF _ _ _ _ _ h

set_option maxRecDepth 100000 in
set_option maxHeartbeats 4000000 in
theorem frX8_tries {a1 : Int32} {a2 : Int32} {a3 : Int32} {S : zT} {o : Int32 × zT} (h : fX8_tries a1 a2 a3 S = some o) : zFr [102, 104, 105, 107] [5, 8, 9, 10, 11, 12] S o.2 := by
  unfold fX8_tries at h
  obtain ⟨S_1, h9, h⟩ := zbv_inv h
  refine zFr_trans (zFr_mono (frX8_offsets h9) (by simp) (by simp)) ?_
  obtain ⟨S_2, h9, h⟩ := zbv_inv h
  refine zFr_trans (zFr_mono (frX8_laysRow h9) (by simp) (by simp)) ?_
  obtain ⟨r_4, S_3, h9, h⟩ := zbi_inv h
  refine zFr_trans (zFr_mono (frX8_whyNot h9) (by simp) (by simp)) ?_
  rcases zif_or h with h | h
  · cases h
    exact zFr_rf _ _ _
  · cases h
    exact zFr_rf _ _ _

set_option maxRecDepth 100000 in
set_option maxHeartbeats 4000000 in
theorem frX8_manyOf {a1 : Int32} {a2 : Int32} {S : zT} {o : Int32 × zT} (h : fX8_manyOf a1 a2 S = some o) : zFr [102, 104, 105, 107] [5, 8, 9, 10, 11, 12] S o.2 := by
  unfold fX8_manyOf at h
  have L19 : ∀ (n19 : Nat) (x1 : Int32) (x2 : Int32) (x3 : Int32) (x4 : Int32) (x5 : Int32) (S : zT), (zfix (fun _ _ _ _ _ _ => none) fX8_manyOf_19 n19) x1 x2 x3 x4 x5 S = some o → zFr [102, 104, 105, 107] [5, 8, 9, 10, 11, 12] S o.2 := by
    intro n19
    induction n19 with
    | zero => intro x1 x2 x3 x4 x5 S h; exact zno (show (none : Option (Int32 × zT)) = some o from h)
    | succ n19 ih19 =>
      intro x1 x2 x3 x4 x5 S h
      replace h : fX8_manyOf_19 (zfix (fun _ _ _ _ _ _ => none) fX8_manyOf_19 n19) x1 x2 x3 x4 x5 S = some o := h
      unfold fX8_manyOf_19 at h
      have L42 : ∀ (x1 : Int32) (x2 : Int32) (x3 : Int32) (x4 : Int32) (x5 : Int32) (S : zT), (fX8_manyOf_42 (zfix (fun _ _ _ _ _ _ => none) fX8_manyOf_19 n19)) x1 x2 x3 x4 x5 S = some o → zFr [102, 104, 105, 107] [5, 8, 9, 10, 11, 12] S o.2 := by
        intro x1 x2 x3 x4 x5 S h
        unfold fX8_manyOf_42 at h
        exact ih19 _ _ _ _ _ _ h
      rcases zif_or h with h | h
      · cases h
        exact zFr_rf _ _ _
      · obtain ⟨r_2, S_1, h9, h⟩ := zbi_inv h
        refine zFr_trans (zFr_mono (frX8_tries h9) (by simp) (by simp)) ?_
        rcases zif_or h with h | h
        · exact L42 _ _ _ _ _ _ h
        · exact L42 _ _ _ _ _ _ h
  obtain ⟨r_4, S_3, h9, h⟩ := zbi_inv h
  refine zFr_trans (zFr_mono (frX8_rows h9) (by simp) (by simp)) ?_
  exact L19 zF _ _ _ _ _ _ h

set_option maxRecDepth 100000 in
set_option maxHeartbeats 4000000 in
theorem frX8_many {a1 : Int32} {a2 : Int32} {S : zT} {o : Int32 × zT} (h : fX8_many a1 a2 S = some o) : zFr [102, 104, 105, 106, 107] [0, 4, 5, 8, 9, 10, 11, 12] S o.2 := by
  unfold fX8_many at h
  refine zFr_wmi h (by simp) (fun S_1 h => ?_)
  obtain ⟨S_2, h9, h⟩ := zbv_inv h
  refine zFr_trans (zFr_mono (frX8_begins h9) (by simp) (by simp)) ?_
  obtain ⟨r_4, S_3, h9, h⟩ := zbi_inv h
  refine zFr_trans (zFr_mono (frX8_rows h9) (by simp) (by simp)) ?_
  rcases zif_or h with h | h
  · cases h
    exact zFr_rf _ _ _
  · obtain ⟨S_5, h9, h⟩ := zbv_inv h
    refine zFr_trans (zFr_mono (frX8_goAside h9) (by simp) (by simp)) ?_
    obtain ⟨r_7, S_6, h9, h⟩ := zbi_inv h
    refine zFr_trans (zFr_mono (frX8_manyOf h9) (by simp) (by simp)) ?_
    obtain ⟨S_8, h9, h⟩ := zbv_inv h
    refine zFr_trans (zFr_mono (frX8_comeBack h9) (by simp) (by simp)) ?_
    cases h
    exact zFr_rf _ _ _

set_option maxRecDepth 100000 in
set_option maxHeartbeats 4000000 in
theorem frX8_pick {a1 : Int32} {a2 : Int32} {a3 : Int32} {S : zT} {o : Int32 × zT} (h : fX8_pick a1 a2 a3 S = some o) : zFr [102, 103, 104, 105, 106, 107] [0, 3, 4, 5, 8, 9, 10, 11, 12] S o.2 := by
  unfold fX8_pick at h
  have L48 : ∀ (n48 : Nat) (x1 : Int32) (x2 : Int32) (x3 : Int32) (x4 : Int32) (x5 : Int32) (x6 : Int32) (x7 : Int32) (S : zT), (zfix (fun _ _ _ _ _ _ _ _ => none) fX8_pick_48 n48) x1 x2 x3 x4 x5 x6 x7 S = some o → zFr [102, 103, 104, 105, 106, 107] [0, 3, 4, 5, 8, 9, 10, 11, 12] S o.2 := by
    intro n48
    induction n48 with
    | zero => intro x1 x2 x3 x4 x5 x6 x7 S h; exact zno (show (none : Option (Int32 × zT)) = some o from h)
    | succ n48 ih48 =>
      intro x1 x2 x3 x4 x5 x6 x7 S h
      replace h : fX8_pick_48 (zfix (fun _ _ _ _ _ _ _ _ => none) fX8_pick_48 n48) x1 x2 x3 x4 x5 x6 x7 S = some o := h
      unfold fX8_pick_48 at h
      have L97 : ∀ (x1 : Int32) (x2 : Int32) (x6 : Int32) (S : zT), fX8_pick_97 x1 x2 x6 S = some o → zFr [102, 103, 104, 105, 106, 107] [0, 3, 4, 5, 8, 9, 10, 11, 12] S o.2 := by
        intro x1 x2 x6 S h
        unfold fX8_pick_97 at h
        obtain ⟨S_1, h9, h⟩ := zbv_inv h
        refine zFr_trans (zFr_mono (frX8_comeBack h9) (by simp) (by simp)) ?_
        rcases zif_or h with h | h
        · cases h
          exact zFr_rf _ _ _
        · obtain ⟨S_2, h9, h⟩ := zbv_inv h
          refine zFr_trans (zFr_mono (frX8_keep h9) (by simp) (by simp)) ?_
          obtain ⟨S_3, h9, h⟩ := zbv_inv h
          refine zFr_trans (zFr_mono (frX8_offsets h9) (by simp) (by simp)) ?_
          obtain ⟨S_4, h9, h⟩ := zbv_inv h
          refine zFr_trans (zFr_mono (frX8_laysRow h9) (by simp) (by simp)) ?_
          cases h
          exact zFr_rf _ _ _
      have L91 : ∀ (x1 : Int32) (x2 : Int32) (x3 : Int32) (x4 : Int32) (x5 : Int32) (x6 : Int32) (x7 : Int32) (S : zT), (fX8_pick_91 (zfix (fun _ _ _ _ _ _ _ _ => none) fX8_pick_48 n48)) x1 x2 x3 x4 x5 x6 x7 S = some o → zFr [102, 103, 104, 105, 106, 107] [0, 3, 4, 5, 8, 9, 10, 11, 12] S o.2 := by
        intro x1 x2 x3 x4 x5 x6 x7 S h
        unfold fX8_pick_91 at h
        exact ih48 _ _ _ _ _ _ _ _ h
      have L85 : ∀ (x1 : Int32) (x2 : Int32) (x3 : Int32) (x4 : Int32) (x5 : Int32) (x6 : Int32) (x7 : Int32) (S : zT), (fX8_pick_85 (fX8_pick_91 (zfix (fun _ _ _ _ _ _ _ _ => none) fX8_pick_48 n48))) x1 x2 x3 x4 x5 x6 x7 S = some o → zFr [102, 103, 104, 105, 106, 107] [0, 3, 4, 5, 8, 9, 10, 11, 12] S o.2 := by
        intro x1 x2 x3 x4 x5 x6 x7 S h
        unfold fX8_pick_85 at h
        exact L91 _ _ _ _ _ _ _ _ h
      rcases zif_or h with h | h
      · exact L97 _ _ _ _ h
      · rcases zif_or h with h | h
        · obtain ⟨r_6, S_5, h9, h⟩ := zbi_inv h
          refine zFr_trans (zFr_mono (frX8_tries h9) (by simp) (by simp)) ?_
          rcases zif_or h with h | h
          · exact L91 _ _ _ _ _ _ _ _ h
          · rcases zif_or h with h | h
            · exact L85 _ _ _ _ _ _ _ _ h
            · exact L85 _ _ _ _ _ _ _ _ h
        · exact L97 _ _ _ _ h
  refine zFr_wmi h (by simp) (fun S_7 h => ?_)
  obtain ⟨S_8, h9, h⟩ := zbv_inv h
  refine zFr_trans (zFr_mono (frX8_begins h9) (by simp) (by simp)) ?_
  obtain ⟨r_10, S_9, h9, h⟩ := zbi_inv h
  refine zFr_trans (zFr_mono (frX8_rows h9) (by simp) (by simp)) ?_
  rcases zif_or h with h | h
  · cases h
    exact zFr_rf _ _ _
  · rcases zif_or h with h | h
    · obtain ⟨S_11, h9, h⟩ := zbv_inv h
      refine zFr_trans (zFr_mono (frX8_goAside h9) (by simp) (by simp)) ?_
      exact L48 zF _ _ _ _ _ _ _ _ h
    · cases h
      exact zFr_rf _ _ _

set_option maxRecDepth 100000 in
set_option maxHeartbeats 4000000 in
theorem frX8_isAside {S : zT} {o : Int32 × zT} (h : fX8_isAside S = some o) : zFr [] [] S o.2 := by
  unfold fX8_isAside at h
  have L3 : ∀ (n3 : Nat) (x1 : Int32) (S : zT), (zfix (fun _ _ => none) fX8_isAside_3 n3) x1 S = some o → zFr [] [] S o.2 := by
    intro n3
    induction n3 with
    | zero => intro x1 S h; exact zno (show (none : Option (Int32 × zT)) = some o from h)
    | succ n3 ih3 =>
      intro x1 S h
      replace h : fX8_isAside_3 (zfix (fun _ _ => none) fX8_isAside_3 n3) x1 S = some o := h
      unfold fX8_isAside_3 at h
      have L38 : ∀ (x1 : Int32) (S : zT), (fX8_isAside_38 (zfix (fun _ _ => none) fX8_isAside_3 n3)) x1 S = some o → zFr [] [] S o.2 := by
        intro x1 S h
        unfold fX8_isAside_38 at h
        exact ih3 _ _ h
      have L21 : ∀ (x1 : Int32) (S : zT), (fX8_isAside_21 (fX8_isAside_38 (zfix (fun _ _ => none) fX8_isAside_3 n3))) x1 S = some o → zFr [] [] S o.2 := by
        intro x1 S h
        unfold fX8_isAside_21 at h
        replace h := (zif_g h).2
        replace h := (zif_g h).2
        rcases zif_or h with h | h
        · exact L38 _ _ h
        · cases h
          exact zFr_rf _ _ _
      rcases zif_or h with h | h
      · cases h
        exact zFr_rf _ _ _
      · rcases zif_or h with h | h
        · exact L21 _ _ h
        · rcases zif_or h with h | h
          · exact L38 _ _ h
          · exact L21 _ _ h
  exact L3 zF _ _ h

set_option maxRecDepth 100000 in
set_option maxHeartbeats 4000000 in
theorem frX8_rank {a1 : Int32} {a2 : Int32} {S : zT} {o : Int32 × zT} (h : fX8_rank a1 a2 S = some o) : zFr [102, 104, 105, 106, 107] [0, 4, 5, 8, 9, 10, 11, 12] S o.2 := by
  unfold fX8_rank at h
  have L42 : ∀ (n42 : Nat) (x1 : Int32) (x2 : Int32) (x3 : Int32) (x4 : Int32) (x5 : Int32) (x6 : Int32) (S : zT), (zfix (fun _ _ _ _ _ _ _ => none) fX8_rank_42 n42) x1 x2 x3 x4 x5 x6 S = some o → zFr [102, 104, 105, 106, 107] [0, 4, 5, 8, 9, 10, 11, 12] S o.2 := by
    intro n42
    induction n42 with
    | zero => intro x1 x2 x3 x4 x5 x6 S h; exact zno (show (none : Option (Int32 × zT)) = some o from h)
    | succ n42 ih42 =>
      intro x1 x2 x3 x4 x5 x6 S h
      replace h : fX8_rank_42 (zfix (fun _ _ _ _ _ _ _ => none) fX8_rank_42 n42) x1 x2 x3 x4 x5 x6 S = some o := h
      unfold fX8_rank_42 at h
      have L91 : ∀ (x5 : Int32) (S : zT), fX8_rank_91 x5 S = some o → zFr [102, 104, 105, 106, 107] [0, 4, 5, 8, 9, 10, 11, 12] S o.2 := by
        intro x5 S h
        unfold fX8_rank_91 at h
        obtain ⟨S_1, h9, h⟩ := zbv_inv h
        refine zFr_trans (zFr_mono (frX8_comeBack h9) (by simp) (by simp)) ?_
        cases h
        exact zFr_rf _ _ _
      have L85 : ∀ (x1 : Int32) (x2 : Int32) (x3 : Int32) (x4 : Int32) (x5 : Int32) (x6 : Int32) (S : zT), (fX8_rank_85 (zfix (fun _ _ _ _ _ _ _ => none) fX8_rank_42 n42)) x1 x2 x3 x4 x5 x6 S = some o → zFr [102, 104, 105, 106, 107] [0, 4, 5, 8, 9, 10, 11, 12] S o.2 := by
        intro x1 x2 x3 x4 x5 x6 S h
        unfold fX8_rank_85 at h
        exact ih42 _ _ _ _ _ _ _ h
      have L79 : ∀ (x1 : Int32) (x2 : Int32) (x3 : Int32) (x4 : Int32) (x5 : Int32) (x6 : Int32) (S : zT), (fX8_rank_79 (fX8_rank_85 (zfix (fun _ _ _ _ _ _ _ => none) fX8_rank_42 n42))) x1 x2 x3 x4 x5 x6 S = some o → zFr [102, 104, 105, 106, 107] [0, 4, 5, 8, 9, 10, 11, 12] S o.2 := by
        intro x1 x2 x3 x4 x5 x6 S h
        unfold fX8_rank_79 at h
        exact L85 _ _ _ _ _ _ _ h
      rcases zif_or h with h | h
      · exact L91 _ _ h
      · rcases zif_or h with h | h
        · obtain ⟨r_3, S_2, h9, h⟩ := zbi_inv h
          refine zFr_trans (zFr_mono (frX8_tries h9) (by simp) (by simp)) ?_
          rcases zif_or h with h | h
          · exact L85 _ _ _ _ _ _ _ h
          · obtain ⟨r_5, S_4, h9, h⟩ := zbi_inv h
            refine zFr_trans (zFr_mono (frX8_isAside h9) (by simp) (by simp)) ?_
            rcases zif_or h with h | h
            · exact L79 _ _ _ _ _ _ _ h
            · exact L79 _ _ _ _ _ _ _ h
        · exact L91 _ _ h
  refine zFr_wmi h (by simp) (fun S_6 h => ?_)
  obtain ⟨S_7, h9, h⟩ := zbv_inv h
  refine zFr_trans (zFr_mono (frX8_begins h9) (by simp) (by simp)) ?_
  obtain ⟨r_9, S_8, h9, h⟩ := zbi_inv h
  refine zFr_trans (zFr_mono (frX8_rows h9) (by simp) (by simp)) ?_
  rcases zif_or h with h | h
  · cases h
    exact zFr_rf _ _ _
  · obtain ⟨S_10, h9, h⟩ := zbv_inv h
    refine zFr_trans (zFr_mono (frX8_goAside h9) (by simp) (by simp)) ?_
    exact L42 zF _ _ _ _ _ _ _ h

set_option maxRecDepth 100000 in
set_option maxHeartbeats 4000000 in
theorem frX8_mirror {a1 : Int32} {S : zT} {o : Int32 × zT} (h : fX8_mirror a1 S = some o) : zFr [] [] S o.2 := by
  unfold fX8_mirror at h
  have L16 : ∀ (n16 : Nat) (x1 : Int32) (x2 : Int32) (x3 : Int32) (x4 : Int32) (S : zT), (zfix (fun _ _ _ _ _ => none) fX8_mirror_16 n16) x1 x2 x3 x4 S = some o → zFr [] [] S o.2 := by
    intro n16
    induction n16 with
    | zero => intro x1 x2 x3 x4 S h; exact zno (show (none : Option (Int32 × zT)) = some o from h)
    | succ n16 ih16 =>
      intro x1 x2 x3 x4 S h
      replace h : fX8_mirror_16 (zfix (fun _ _ _ _ _ => none) fX8_mirror_16 n16) x1 x2 x3 x4 S = some o := h
      unfold fX8_mirror_16 at h
      rcases zif_or h with h | h
      · cases h
        exact zFr_rf _ _ _
      · obtain ⟨r_2, S_1, h9, h⟩ := zbi_inv h
        refine zFr_trans (zFr_mono (frX8_twin h9) (by simp) (by simp)) ?_
        replace h := (zif_g h).2
        replace h := (zif_g h).2
        exact ih16 _ _ _ _ _ h
  obtain ⟨r_4, S_3, h9, h⟩ := zbi_inv h
  refine zFr_trans (zFr_mono (frX8_twin h9) (by simp) (by simp)) ?_
  replace h := (zif_g h).2
  exact L16 zF _ _ _ _ _ h

set_option maxRecDepth 100000 in
set_option maxHeartbeats 4000000 in
theorem frX8_unlike {a1 : Int32} {a2 : Int32} {S : zT} {o : Int32 × zT} (h : fX8_unlike a1 a2 S = some o) : zFr [102, 104, 105, 106, 107] [0, 4, 5, 8, 9, 10, 11, 12] S o.2 := by
  unfold fX8_unlike at h
  have L45 : ∀ (n45 : Nat) (x1 : Int32) (x2 : Int32) (x3 : Int32) (x4 : Int32) (x5 : Int32) (x6 : Int32) (S : zT), (zfix (fun _ _ _ _ _ _ _ => none) fX8_unlike_45 n45) x1 x2 x3 x4 x5 x6 S = some o → zFr [102, 104, 105, 106, 107] [0, 4, 5, 8, 9, 10, 11, 12] S o.2 := by
    intro n45
    induction n45 with
    | zero => intro x1 x2 x3 x4 x5 x6 S h; exact zno (show (none : Option (Int32 × zT)) = some o from h)
    | succ n45 ih45 =>
      intro x1 x2 x3 x4 x5 x6 S h
      replace h : fX8_unlike_45 (zfix (fun _ _ _ _ _ _ _ => none) fX8_unlike_45 n45) x1 x2 x3 x4 x5 x6 S = some o := h
      unfold fX8_unlike_45 at h
      have L116 : ∀ (x1 : Int32) (x2 : Int32) (x3 : Int32) (x4 : Int32) (x5 : Int32) (x6 : Int32) (S : zT), (fX8_unlike_116 (zfix (fun _ _ _ _ _ _ _ => none) fX8_unlike_45 n45)) x1 x2 x3 x4 x5 x6 S = some o → zFr [102, 104, 105, 106, 107] [0, 4, 5, 8, 9, 10, 11, 12] S o.2 := by
        intro x1 x2 x3 x4 x5 x6 S h
        unfold fX8_unlike_116 at h
        exact ih45 _ _ _ _ _ _ _ h
      have L105 : ∀ (x1 : Int32) (x2 : Int32) (x3 : Int32) (x4 : Int32) (x5 : Int32) (x6 : Int32) (x7 : Int32) (S : zT), (fX8_unlike_105 (fX8_unlike_116 (zfix (fun _ _ _ _ _ _ _ => none) fX8_unlike_45 n45))) x1 x2 x3 x4 x5 x6 x7 S = some o → zFr [102, 104, 105, 106, 107] [0, 4, 5, 8, 9, 10, 11, 12] S o.2 := by
        intro x1 x2 x3 x4 x5 x6 x7 S h
        unfold fX8_unlike_105 at h
        rcases zif_or h with h | h
        · exact L116 _ _ _ _ _ _ _ h
        · exact L116 _ _ _ _ _ _ _ h
      have L103 : ∀ (x1 : Int32) (x2 : Int32) (x3 : Int32) (x4 : Int32) (x5 : Int32) (x6 : Int32) (t0 : Int32) (S : zT), (fX8_unlike_103 (fX8_unlike_105 (fX8_unlike_116 (zfix (fun _ _ _ _ _ _ _ => none) fX8_unlike_45 n45)))) x1 x2 x3 x4 x5 x6 t0 S = some o → zFr [102, 104, 105, 106, 107] [0, 4, 5, 8, 9, 10, 11, 12] S o.2 := by
        intro x1 x2 x3 x4 x5 x6 t0 S h
        unfold fX8_unlike_103 at h
        exact L105 _ _ _ _ _ _ _ _ h
      have L98 : ∀ (x1 : Int32) (x2 : Int32) (x3 : Int32) (x4 : Int32) (x5 : Int32) (x6 : Int32) (S : zT), (fX8_unlike_98 (fX8_unlike_103 (fX8_unlike_105 (fX8_unlike_116 (zfix (fun _ _ _ _ _ _ _ => none) fX8_unlike_45 n45))))) x1 x2 x3 x4 x5 x6 S = some o → zFr [102, 104, 105, 106, 107] [0, 4, 5, 8, 9, 10, 11, 12] S o.2 := by
        intro x1 x2 x3 x4 x5 x6 S h
        unfold fX8_unlike_98 at h
        exact L103 _ _ _ _ _ _ _ _ h
      rcases zif_or h with h | h
      · obtain ⟨S_1, h9, h⟩ := zbv_inv h
        refine zFr_trans (zFr_mono (frX8_comeBack h9) (by simp) (by simp)) ?_
        cases h
        exact zFr_rf _ _ _
      · obtain ⟨r_3, S_2, h9, h⟩ := zbi_inv h
        refine zFr_trans (zFr_mono (frX8_tries h9) (by simp) (by simp)) ?_
        rcases zif_or h with h | h
        · exact L116 _ _ _ _ _ _ _ h
        · rcases zif_or h with h | h
          · exact L105 _ _ _ _ _ _ _ _ h
          · obtain ⟨r_5, S_4, h9, h⟩ := zbi_inv h
            refine zFr_trans (zFr_mono (frX8_mirror h9) (by simp) (by simp)) ?_
            rcases zif_or h with h | h
            · exact L98 _ _ _ _ _ _ _ h
            · obtain ⟨r_7, S_6, h9, h⟩ := zbi_inv h
              refine zFr_trans (zFr_mono (frX8_tries h9) (by simp) (by simp)) ?_
              rcases zif_or h with h | h
              · exact L98 _ _ _ _ _ _ _ h
              · exact L103 _ _ _ _ _ _ _ _ h
  refine zFr_wmi h (by simp) (fun S_8 h => ?_)
  obtain ⟨S_9, h9, h⟩ := zbv_inv h
  refine zFr_trans (zFr_mono (frX8_begins h9) (by simp) (by simp)) ?_
  obtain ⟨r_11, S_10, h9, h⟩ := zbi_inv h
  refine zFr_trans (zFr_mono (frX8_rows h9) (by simp) (by simp)) ?_
  rcases zif_or h with h | h
  · cases h
    exact zFr_rf _ _ _
  · obtain ⟨S_12, h9, h⟩ := zbv_inv h
    refine zFr_trans (zFr_mono (frX8_goAside h9) (by simp) (by simp)) ?_
    obtain ⟨r_14, S_13, h9, h⟩ := zbi_inv h
    refine zFr_trans (zFr_mono (frX8_isMirrored h9) (by simp) (by simp)) ?_
    exact L45 zF _ _ _ _ _ _ _ h

set_option maxRecDepth 100000 in
set_option maxHeartbeats 4000000 in
theorem frX8_best {a1 : Int32} {a2 : Int32} {S : zT} {o : Int32 × zT} (h : fX8_best a1 a2 S = some o) : zFr [102, 103, 104, 105, 106, 107] [0, 3, 4, 5, 8, 9, 10, 11, 12, 13, 14, 15, 16, 17] S o.2 := by
  unfold fX8_best at h
  have L51 : ∀ (n51 : Nat) (x1 : Int32) (x2 : Int32) (x3 : Int32) (x4 : Int32) (x5 : Int32) (x6 : Int32) (x7 : Int64) (x9 : Int64) (x11 : Int32) (S : zT), (zfix (fun _ _ _ _ _ _ _ _ _ _ => none) fX8_best_51 n51) x1 x2 x3 x4 x5 x6 x7 x9 x11 S = some o → zFr [102, 103, 104, 105, 106, 107] [0, 3, 4, 5, 8, 9, 10, 11, 12, 13, 14, 15, 16, 17] S o.2 := by
    intro n51
    induction n51 with
    | zero => intro x1 x2 x3 x4 x5 x6 x7 x9 x11 S h; exact zno (show (none : Option (Int32 × zT)) = some o from h)
    | succ n51 ih51 =>
      intro x1 x2 x3 x4 x5 x6 x7 x9 x11 S h
      replace h : fX8_best_51 (zfix (fun _ _ _ _ _ _ _ _ _ _ => none) fX8_best_51 n51) x1 x2 x3 x4 x5 x6 x7 x9 x11 S = some o := h
      unfold fX8_best_51 at h
      have L128 : ∀ (x1 : Int32) (x2 : Int32) (x3 : Int32) (x4 : Int32) (x5 : Int32) (x6 : Int32) (x7 : Int64) (x9 : Int64) (x11 : Int32) (S : zT), (fX8_best_128 (zfix (fun _ _ _ _ _ _ _ _ _ _ => none) fX8_best_51 n51)) x1 x2 x3 x4 x5 x6 x7 x9 x11 S = some o → zFr [102, 103, 104, 105, 106, 107] [0, 3, 4, 5, 8, 9, 10, 11, 12, 13, 14, 15, 16, 17] S o.2 := by
        intro x1 x2 x3 x4 x5 x6 x7 x9 x11 S h
        unfold fX8_best_128 at h
        exact ih51 _ _ _ _ _ _ _ _ _ _ h
      have L122 : ∀ (x1 : Int32) (x2 : Int32) (x3 : Int32) (x4 : Int32) (x5 : Int32) (x6 : Int32) (x7 : Int64) (x9 : Int64) (x11 : Int32) (S : zT), (fX8_best_122 (fX8_best_128 (zfix (fun _ _ _ _ _ _ _ _ _ _ => none) fX8_best_51 n51))) x1 x2 x3 x4 x5 x6 x7 x9 x11 S = some o → zFr [102, 103, 104, 105, 106, 107] [0, 3, 4, 5, 8, 9, 10, 11, 12, 13, 14, 15, 16, 17] S o.2 := by
        intro x1 x2 x3 x4 x5 x6 x7 x9 x11 S h
        unfold fX8_best_122 at h
        exact L128 _ _ _ _ _ _ _ _ _ _ h
      have L102 : ∀ (x1 : Int32) (x2 : Int32) (x3 : Int32) (x4 : Int32) (x11 : Int32) (S : zT), (fX8_best_102 (fX8_best_122 (fX8_best_128 (zfix (fun _ _ _ _ _ _ _ _ _ _ => none) fX8_best_51 n51)))) x1 x2 x3 x4 x11 S = some o → zFr [102, 103, 104, 105, 106, 107] [0, 3, 4, 5, 8, 9, 10, 11, 12, 13, 14, 15, 16, 17] S o.2 := by
        intro x1 x2 x3 x4 x11 S h
        unfold fX8_best_102 at h
        exact L122 _ _ _ _ _ _ _ _ _ _ h
      rcases zif_or h with h | h
      · obtain ⟨S_1, h9, h⟩ := zbv_inv h
        refine zFr_trans (zFr_mono (frX8_comeBack h9) (by simp) (by simp)) ?_
        rcases zif_or h with h | h
        · cases h
          exact zFr_rf _ _ _
        · obtain ⟨S_2, h9, h⟩ := zbv_inv h
          refine zFr_trans (zFr_mono (frX8_keep h9) (by simp) (by simp)) ?_
          obtain ⟨S_3, h9, h⟩ := zbv_inv h
          refine zFr_trans (zFr_mono (frX8_offsets h9) (by simp) (by simp)) ?_
          obtain ⟨S_4, h9, h⟩ := zbv_inv h
          refine zFr_trans (zFr_mono (frX8_laysRow h9) (by simp) (by simp)) ?_
          cases h
          exact zFr_rf _ _ _
      · obtain ⟨r_6, S_5, h9, h⟩ := zbi_inv h
        refine zFr_trans (zFr_mono (frX8_tries h9) (by simp) (by simp)) ?_
        rcases zif_or h with h | h
        · exact L128 _ _ _ _ _ _ _ _ _ _ h
        · obtain ⟨r_8, S_7, h9, h⟩ := zbi_inv h
          refine zFr_trans (zFr_mono (frX8_worsts h9) (by simp) (by simp)) ?_
          rcases zif_or h with h | h
          · exact L122 _ _ _ _ _ _ _ _ _ _ h
          · rcases zif_or h with h | h
            · exact L102 _ _ _ _ _ _ h
            · rcases zif_or h with h | h
              · exact L122 _ _ _ _ _ _ _ _ _ _ h
              · exact L102 _ _ _ _ _ _ h
  refine zFr_wmi h (by simp) (fun S_9 h => ?_)
  obtain ⟨S_10, h9, h⟩ := zbv_inv h
  refine zFr_trans (zFr_mono (frX8_begins h9) (by simp) (by simp)) ?_
  obtain ⟨r_12, S_11, h9, h⟩ := zbi_inv h
  refine zFr_trans (zFr_mono (frX8_rows h9) (by simp) (by simp)) ?_
  rcases zif_or h with h | h
  · cases h
    exact zFr_rf _ _ _
  · obtain ⟨S_13, h9, h⟩ := zbv_inv h
    refine zFr_trans (zFr_mono (frX8_goAside h9) (by simp) (by simp)) ?_
    exact L51 zF _ _ _ _ _ _ _ _ _ _ h

set_option maxRecDepth 100000 in
set_option maxHeartbeats 4000000 in
theorem frX8_without {a1 : Int32} {a2 : Int32} {a3 : Int32} {S : zT} {o : Int32 × zT} (h : fX8_without a1 a2 a3 S = some o) : zFr [102, 104, 105, 106, 107] [0, 4, 5, 8, 9, 10, 11, 12] S o.2 := by
  unfold fX8_without at h
  have L64 : ∀ (n64 : Nat) (x2 : Int32) (x3 : Int32) (x4 : Int32) (S : zT), (zfix (fun _ _ _ _ => none) fX8_without_64 n64) x2 x3 x4 S = some o → zFr [102, 104, 105, 106, 107] [0, 4, 5, 8, 9, 10, 11, 12] S o.2 := by
    intro n64
    induction n64 with
    | zero => intro x2 x3 x4 S h; exact zno (show (none : Option (Int32 × zT)) = some o from h)
    | succ n64 ih64 =>
      intro x2 x3 x4 S h
      replace h : fX8_without_64 (zfix (fun _ _ _ _ => none) fX8_without_64 n64) x2 x3 x4 S = some o := h
      unfold fX8_without_64 at h
      rcases zif_or h with h | h
      · refine zFr_wi h (by simp) (fun S_1 h => ?_)
        obtain ⟨r_3, S_2, h9, h⟩ := zbi_inv h
        refine zFr_trans (zFr_mono (frX8_manyOf h9) (by simp) (by simp)) ?_
        obtain ⟨S_4, h9, h⟩ := zbv_inv h
        refine zFr_trans (zFr_mono (frX8_comeBack h9) (by simp) (by simp)) ?_
        cases h
        exact zFr_rf _ _ _
      · replace h := (zif_g h).2
        replace h := (zif_g h).2
        refine zFr_wi h (by simp) (fun S_5 h => ?_)
        replace h := (zif_g h).2
        replace h := (zif_g h).2
        refine zFr_wi h (by simp) (fun S_6 h => ?_)
        exact ih64 _ _ _ _ h
  refine zFr_wmi h (by simp) (fun S_7 h => ?_)
  obtain ⟨S_8, h9, h⟩ := zbv_inv h
  refine zFr_trans (zFr_mono (frX8_begins h9) (by simp) (by simp)) ?_
  obtain ⟨r_10, S_9, h9, h⟩ := zbi_inv h
  refine zFr_trans (zFr_mono (frX8_isLeg h9) (by simp) (by simp)) ?_
  rcases zif_or h with h | h
  · cases h
    exact zFr_rf _ _ _
  · rcases zif_or h with h | h
    · cases h
      exact zFr_rf _ _ _
    · rcases zif_or h with h | h
      · cases h
        exact zFr_rf _ _ _
      · obtain ⟨r_12, S_11, h9, h⟩ := zbi_inv h
        refine zFr_trans (zFr_mono (frX8_rows h9) (by simp) (by simp)) ?_
        rcases zif_or h with h | h
        · cases h
          exact zFr_rf _ _ _
        · obtain ⟨S_13, h9, h⟩ := zbv_inv h
          refine zFr_trans (zFr_mono (frX8_goAside h9) (by simp) (by simp)) ?_
          exact L64 zF _ _ _ _ h

set_option maxRecDepth 100000 in
set_option maxHeartbeats 4000000 in
theorem frX8_loads {a1 : Int32} {S : zT} {o : Int32 × zT} (h : fX8_loads a1 S = some o) : zFr [102, 104, 105, 106] [0, 4, 5, 8, 9, 10, 11, 12] S o.2 := by
  unfold fX8_loads at h
  have L39 : ∀ (n39 : Nat) (x2 : Int32) (x3 : Int32) (S : zT), (zfix (fun _ _ _ => none) fX8_loads_39 n39) x2 x3 S = some o → zFr [102, 104, 105, 106] [0, 4, 5, 8, 9, 10, 11, 12] S o.2 := by
    intro n39
    induction n39 with
    | zero => intro x2 x3 S h; exact zno (show (none : Option (Int32 × zT)) = some o from h)
    | succ n39 ih39 =>
      intro x2 x3 S h
      replace h : fX8_loads_39 (zfix (fun _ _ _ => none) fX8_loads_39 n39) x2 x3 S = some o := h
      unfold fX8_loads_39 at h
      have L64 : ∀ (x2 : Int32) (x3 : Int32) (S : zT), (fX8_loads_64 (zfix (fun _ _ _ => none) fX8_loads_39 n39)) x2 x3 S = some o → zFr [102, 104, 105, 106] [0, 4, 5, 8, 9, 10, 11, 12] S o.2 := by
        intro x2 x3 S h
        unfold fX8_loads_64 at h
        exact ih39 _ _ _ h
      rcases zif_or h with h | h
      · obtain ⟨S_1, h9, h⟩ := zbv_inv h
        refine zFr_trans (zFr_mono (frX8_comeBack h9) (by simp) (by simp)) ?_
        cases h
        exact zFr_rf _ _ _
      · refine zFr_wi h (by simp) (fun S_2 h => ?_)
        obtain ⟨r_4, S_3, h9, h⟩ := zbi_inv h
        refine zFr_trans (zFr_mono (frX8_whyNot h9) (by simp) (by simp)) ?_
        rcases zif_or h with h | h
        · exact L64 _ _ _ h
        · exact L64 _ _ _ h
  refine zFr_wmi h (by simp) (fun S_5 h => ?_)
  obtain ⟨S_6, h9, h⟩ := zbv_inv h
  refine zFr_trans (zFr_mono (frX8_begins h9) (by simp) (by simp)) ?_
  rcases zif_or h with h | h
  · cases h
    exact zFr_rf _ _ _
  · rcases zif_or h with h | h
    · obtain ⟨S_7, h9, h⟩ := zbv_inv h
      refine zFr_trans (zFr_mono (frX8_goAside h9) (by simp) (by simp)) ?_
      refine zFr_wi h (by simp) (fun S_8 h => ?_)
      exact L39 zF _ _ _ h
    · cases h
      exact zFr_rf _ _ _

set_option maxRecDepth 100000 in
set_option maxHeartbeats 4000000 in
theorem frX8_mayBe {a1 : Int32} {S : zT} {o : Int32 × zT} (h : fX8_mayBe a1 S = some o) : zFr [104, 105] [5, 8, 9, 10, 11, 12] S o.2 := by
  unfold fX8_mayBe at h
  have L20 : ∀ (x1 : Int32) (S : zT), fX8_mayBe_20 x1 S = some o → zFr [104, 105] [5, 8, 9, 10, 11, 12] S o.2 := by
    intro x1 S h
    unfold fX8_mayBe_20 at h
    have L27 : ∀ (n27 : Nat) (x1 : Int32) (x2 : Int32) (S : zT), (zfix (fun _ _ _ => none) fX8_mayBe_27 n27) x1 x2 S = some o → zFr [104, 105] [5, 8, 9, 10, 11, 12] S o.2 := by
      intro n27
      induction n27 with
      | zero => intro x1 x2 S h; exact zno (show (none : Option (Int32 × zT)) = some o from h)
      | succ n27 ih27 =>
        intro x1 x2 S h
        replace h : fX8_mayBe_27 (zfix (fun _ _ _ => none) fX8_mayBe_27 n27) x1 x2 S = some o := h
        unfold fX8_mayBe_27 at h
        have L72 : ∀ (x1 : Int32) (x2 : Int32) (S : zT), (fX8_mayBe_72 (zfix (fun _ _ _ => none) fX8_mayBe_27 n27)) x1 x2 S = some o → zFr [104, 105] [5, 8, 9, 10, 11, 12] S o.2 := by
          intro x1 x2 S h
          unfold fX8_mayBe_72 at h
          exact ih27 _ _ _ h
        rcases zif_or h with h | h
        · obtain ⟨S_1, h9, h⟩ := zbv_inv h
          refine zFr_trans (zFr_mono (frX8_spans h9) (by simp) (by simp)) ?_
          obtain ⟨r_3, S_2, h9, h⟩ := zbi_inv h
          refine zFr_trans (zFr_mono (frX8_isWithin h9) (by simp) (by simp)) ?_
          replace h := (zif_g h).2
          cases h
          exact zFr_rf _ _ _
        · rcases zif_or h with h | h
          · replace h := (zif_g h).2
            replace h := (zif_g h).2
            obtain ⟨S_4, h9, h⟩ := zbv_inv h
            refine zFr_trans (zFr_mono (frX8_stand h9) (by simp) (by simp)) ?_
            exact L72 _ _ _ h
          · exact L72 _ _ _ h
    refine zFr_wmi h (by simp) (fun S_5 h => ?_)
    exact L27 zF _ _ _ h
  rcases zif_or h with h | h
  · obtain ⟨r_7, S_6, h9, h⟩ := zbi_inv h
    refine zFr_trans (zFr_mono (frX8_isPairs h9) (by simp) (by simp)) ?_
    rcases zif_or h with h | h
    · cases h
      exact zFr_rf _ _ _
    · exact L20 _ _ h
  · exact L20 _ _ h

set_option maxRecDepth 100000 in
set_option maxHeartbeats 4000000 in
theorem frX8_ones {a1 : Int32} {S : zT} {o : Int32 × zT} (h : fX8_ones a1 S = some o) : zFr [] [] S o.2 := by
  unfold fX8_ones at h
  have L4 : ∀ (n4 : Nat) (x2 : Int32) (x3 : Int32) (S : zT), (zfix (fun _ _ _ => none) fX8_ones_4 n4) x2 x3 S = some o → zFr [] [] S o.2 := by
    intro n4
    induction n4 with
    | zero => intro x2 x3 S h; exact zno (show (none : Option (Int32 × zT)) = some o from h)
    | succ n4 ih4 =>
      intro x2 x3 S h
      replace h : fX8_ones_4 (zfix (fun _ _ _ => none) fX8_ones_4 n4) x2 x3 S = some o := h
      unfold fX8_ones_4 at h
      rcases zif_or h with h | h
      · cases h
        exact zFr_rf _ _ _
      · exact ih4 _ _ _ h
  exact L4 zF _ _ _ h

set_option maxRecDepth 100000 in
set_option maxHeartbeats 4000000 in
theorem frX8_way {a1 : Int32} {a2 : Int32} {a3 : Int32} {S : zT} {o : Int32 × zT} (h : fX8_way a1 a2 a3 S = some o) : zFr [102, 104, 105, 108, 109] [0, 4, 5, 8, 9, 10, 11, 12] S o.2 := by
  unfold fX8_way at h
  have L57 : ∀ (n57 : Nat) (x1 : Int32) (x2 : Int32) (x3 : Int32) (x4 : Int32) (S : zT), (zfix (fun _ _ _ _ _ => none) fX8_way_57 n57) x1 x2 x3 x4 S = some o → zFr [102, 104, 105, 108, 109] [0, 4, 5, 8, 9, 10, 11, 12] S o.2 := by
    intro n57
    induction n57 with
    | zero => intro x1 x2 x3 x4 S h; exact zno (show (none : Option (Int32 × zT)) = some o from h)
    | succ n57 ih57 =>
      intro x1 x2 x3 x4 S h
      replace h : fX8_way_57 (zfix (fun _ _ _ _ _ => none) fX8_way_57 n57) x1 x2 x3 x4 S = some o := h
      unfold fX8_way_57 at h
      have L99 : ∀ (n99 : Nat) (x2 : Int32) (x3 : Int32) (x4 : Int32) (x5 : Int32) (S : zT), (zfix (fun _ _ _ _ _ => none) fX8_way_99 n99) x2 x3 x4 x5 S = some o → zFr [102, 104, 105, 108, 109] [0, 4, 5, 8, 9, 10, 11, 12] S o.2 := by
        intro n99
        induction n99 with
        | zero => intro x2 x3 x4 x5 S h; exact zno (show (none : Option (Int32 × zT)) = some o from h)
        | succ n99 ih99 =>
          intro x2 x3 x4 x5 S h
          replace h : fX8_way_99 (zfix (fun _ _ _ _ _ => none) fX8_way_99 n99) x2 x3 x4 x5 S = some o := h
          unfold fX8_way_99 at h
          have L124 : ∀ (n124 : Nat) (x2 : Int32) (x3 : Int32) (x4 : Int32) (x5 : Int32) (x6 : Int32) (x7 : Int32) (S : zT), (zfix (fun _ _ _ _ _ _ _ => none) (fX8_way_124 (zfix (fun _ _ _ _ _ => none) fX8_way_99 n99)) n124) x2 x3 x4 x5 x6 x7 S = some o → zFr [102, 104, 105, 108, 109] [0, 4, 5, 8, 9, 10, 11, 12] S o.2 := by
            intro n124
            induction n124 with
            | zero => intro x2 x3 x4 x5 x6 x7 S h; exact zno (show (none : Option (Int32 × zT)) = some o from h)
            | succ n124 ih124 =>
              intro x2 x3 x4 x5 x6 x7 S h
              replace h : fX8_way_124 (zfix (fun _ _ _ _ _ => none) fX8_way_99 n99) (zfix (fun _ _ _ _ _ _ _ => none) (fX8_way_124 (zfix (fun _ _ _ _ _ => none) fX8_way_99 n99)) n124) x2 x3 x4 x5 x6 x7 S = some o := h
              unfold fX8_way_124 at h
              have L204 : ∀ (x2 : Int32) (x3 : Int32) (x4 : Int32) (x5 : Int32) (x6 : Int32) (x7 : Int32) (S : zT), (fX8_way_204 (zfix (fun _ _ _ _ _ _ _ => none) (fX8_way_124 (zfix (fun _ _ _ _ _ => none) fX8_way_99 n99)) n124)) x2 x3 x4 x5 x6 x7 S = some o → zFr [102, 104, 105, 108, 109] [0, 4, 5, 8, 9, 10, 11, 12] S o.2 := by
                intro x2 x3 x4 x5 x6 x7 S h
                unfold fX8_way_204 at h
                exact ih124 _ _ _ _ _ _ _ h
              rcases zif_or h with h | h
              · exact ih99 _ _ _ _ _ h
              · replace h := (zif_g h).2
                rcases zif_or h with h | h
                · obtain ⟨r_2, S_1, h9, h⟩ := zbi_inv h
                  refine zFr_trans (zFr_mono (frX8_ones h9) (by simp) (by simp)) ?_
                  rcases zif_or h with h | h
                  · exact L204 _ _ _ _ _ _ _ h
                  · obtain ⟨r_4, S_3, h9, h⟩ := zbi_inv h
                    refine zFr_trans (zFr_mono (frX8_mayBe h9) (by simp) (by simp)) ?_
                    rcases zif_or h with h | h
                    · exact L204 _ _ _ _ _ _ _ h
                    · replace h := (zif_g h).2
                      replace h := (zif_g h).2
                      refine zFr_wi h (by simp) (fun S_5 h => ?_)
                      replace h := (zif_g h).2
                      refine zFr_wi h (by simp) (fun S_6 h => ?_)
                      exact L204 _ _ _ _ _ _ _ h
                · exact L204 _ _ _ _ _ _ _ h
          rcases zif_or h with h | h
          · replace h := (zif_g h).2
            cases h
            exact zFr_rf _ _ _
          · replace h := (zif_g h).2
            exact L124 zF _ _ _ _ _ _ _ h
      rcases zif_or h with h | h
      · replace h := (zif_g h).2
        refine zFr_wi h (by simp) (fun S_7 h => ?_)
        refine zFr_wi h (by simp) (fun S_8 h => ?_)
        exact L99 zF _ _ _ _ _ h
      · replace h := (zif_g h).2
        refine zFr_wi h (by simp) (fun S_9 h => ?_)
        exact ih57 _ _ _ _ _ h
  refine zFr_wmi h (by simp) (fun S_10 h => ?_)
  obtain ⟨S_11, h9, h⟩ := zbv_inv h
  refine zFr_trans (zFr_mono (frX8_begins h9) (by simp) (by simp)) ?_
  obtain ⟨r_13, S_12, h9, h⟩ := zbi_inv h
  refine zFr_trans (zFr_mono (frX8_isSet h9) (by simp) (by simp)) ?_
  rcases zif_or h with h | h
  · cases h
    exact zFr_rf _ _ _
  · obtain ⟨r_15, S_14, h9, h⟩ := zbi_inv h
    refine zFr_trans (zFr_mono (frX8_isSet h9) (by simp) (by simp)) ?_
    rcases zif_or h with h | h
    · cases h
      exact zFr_rf _ _ _
    · rcases zif_or h with h | h
      · cases h
        exact zFr_rf _ _ _
      · rcases zif_or h with h | h
        · cases h
          exact zFr_rf _ _ _
        · obtain ⟨r_17, S_16, h9, h⟩ := zbi_inv h
          refine zFr_trans (zFr_mono (frX8_mayBe h9) (by simp) (by simp)) ?_
          rcases zif_or h with h | h
          · cases h
            exact zFr_rf _ _ _
          · obtain ⟨r_19, S_18, h9, h⟩ := zbi_inv h
            refine zFr_trans (zFr_mono (frX8_mayBe h9) (by simp) (by simp)) ?_
            rcases zif_or h with h | h
            · cases h
              exact zFr_rf _ _ _
            · exact L57 zF _ _ _ _ _ h

