noncomputable def wf_o (w : Nat → Int32) (K N u r : Nat) : Option Nat := wst (rowR w K N u r) K N N 0 none
noncomputable def FB (w : Nat → Int32) (K N u r : Nat) : pQ := match wf_o w K N u r with
  | none => fun _ _ => False
  | some f => F_w (rowR w K N u r) K N f
noncomputable def bs_r (w : Nat → Int32) (K N u : Nat) : Nat → Nat → Option Nat → Option Nat
  | 0, _, c => c
  | m + 1, r, c => @ite _ (rP w K N u r ∧ wf_o w K N u r ≠ none ∧ ∀ rb, c = some rb → lsP (FB w K N u rb) (FB w K N u r)) (Classical.propDecidable _) (bs_r w K N u m (r + 1) (some r)) (bs_r w K N u m (r + 1) c)
theorem bs_t {w : Nat → Int32} {K N u m r : Nat} {c : Option Nat} (h : rP w K N u r ∧ wf_o w K N u r ≠ none ∧ ∀ rb, c = some rb → lsP (FB w K N u rb) (FB w K N u r)) : bs_r w K N u (m + 1) r c = bs_r w K N u m (r + 1) (some r) := by
  rw [show bs_r w K N u (m + 1) r c = @ite _ (rP w K N u r ∧ wf_o w K N u r ≠ none ∧ ∀ rb, c = some rb → lsP (FB w K N u rb) (FB w K N u r)) (Classical.propDecidable _) (bs_r w K N u m (r + 1) (some r)) (bs_r w K N u m (r + 1) c) from rfl, if_pos h]
theorem bs_f {w : Nat → Int32} {K N u m r : Nat} {c : Option Nat} (h : ¬ (rP w K N u r ∧ wf_o w K N u r ≠ none ∧ ∀ rb, c = some rb → lsP (FB w K N u rb) (FB w K N u r))) : bs_r w K N u (m + 1) r c = bs_r w K N u m (r + 1) c := by
  rw [show bs_r w K N u (m + 1) r c = @ite _ (rP w K N u r ∧ wf_o w K N u r ≠ none ∧ ∀ rb, c = some rb → lsP (FB w K N u rb) (FB w K N u r)) (Classical.propDecidable _) (bs_r w K N u m (r + 1) (some r)) (bs_r w K N u m (r + 1) c) from rfl, if_neg h]
theorem FB_s {w : Nat → Int32} {K N u r f : Nat} (h : wf_o w K N u r = some f) : FB w K N u r = F_w (rowR w K N u r) K N f := by unfold FB; rw [h]
def bC (w : Nat → Int32) (K N u R : Nat) (c : Option Nat) (x5 x6 : Int32) (S : zT) : Prop := (c = none ∧ x5 = -1) ∨ ∃ rb, c = some rb ∧ rb < R ∧ x5 = nI (cn_r (rP w K N u) rb) ∧ x6 = nI (pq_n (dgt N K rb) K) ∧ fB (FB w K N u rb) ∧ ∃ a b, mgP (FB w K N u rb) a b ∧ S.2 98 0 = jZ a ∧ S.2 98 1 = jZ b
theorem c_best {w : Nat → Int32} {K n N u R : Nat} (hw : wfW w K n) (hN1 : 2 ≤ N) (hN : N ≤ 8) (hu : u < 2147483648) (hR : R ≤ 2500) : ∀ (m r fu : Nat) (S : zT) (c : Option Nat) (x5 x6 : Int32), r + m = R → m < fu → CR w K N u r S → bC w K N u R c x5 x6 S → ∃ S2, clsFr S S2 ∧ ((bs_r w K N u m r c = none ∧ zfix (fun _ _ _ _ _ _ _ _ => none) fX7_best_50 fu (nI N) (nI u) (nI R) (nI (cn_r (rP w K N u) r)) x5 x6 (nI r) S = some (-1, S2)) ∨ ∃ rb, rb < R ∧ bs_r w K N u m r c = some rb ∧ zfix (fun _ _ _ _ _ _ _ _ => none) fX7_best_50 fu (nI N) (nI u) (nI R) (nI (cn_r (rP w K N u) r)) x5 x6 (nI r) S = (zbv (fX0_keep 1 S2) fun S_5 => zbv (fX6_layRow 1 (nI N) (nI u) (nI (pq_n (dgt N K rb) K)) S_5) fun S_6 => some (nI (cn_r (rP w K N u) rb), S_6))) := by
  have hK := hw.1.2.2
  have hK2 := hw.1.2.1
  intro m
  induction m with
  | zero =>
    intro r fu S c x5 x6 h1 h2 hc hb
    obtain ⟨fu, rfl⟩ : ∃ g, fu = g + 1 := ⟨fu - 1, by omega⟩
    refine ⟨S, clsFr_rf S, ?_⟩
    rw [zfix_s]; unfold fX7_best_50
    rw [if_pos (nI_le (by omega) (by omega))]
    rcases hb with ⟨rfl, rfl⟩ | ⟨rb, rfl, b1, rfl, rfl, -⟩
    · rw [if_pos rfl]; exact Or.inl ⟨rfl, rfl⟩
    · have := cn_le (rP w K N u) rb
      rw [if_neg (nI_nm1 (by omega))]
      exact Or.inr ⟨rb, b1, rfl, rfl⟩
  | succ m ih =>
    intro r fu S c x5 x6 h1 h2 hc hb
    obtain ⟨fu, rfl⟩ : ∃ g, fu = g + 1 := ⟨fu - 1, by omega⟩
    obtain ⟨b, S1, e1, t1, c1⟩ := c_rowSteady hw hN1 hN hc
    have fr1 := frX5_isSteady e1
    have q1 : clsFr S S1 := cls_of fr1 (fun k hk => by simp; omega)
    have hb1 : bC w K N u R c x5 x6 S1 := by rw [show bC w K N u R c x5 x6 S1 = bC w K N u R c x5 x6 S from by unfold bC; rw [fr1.cell2 (k := 98) (by simp) (by omega)]]; exact hb
    have hwr : wfW (rowR w K N u r) K N := wf_row hw (by omega) (by omega)
    -- go on from a state with the row r
    have next : ∀ (Sx : zT) (c' : Option Nat) (y5 y6 y4 : Int32), clsFr S Sx → CR w K N u r Sx → bC w K N u R c' y5 y6 Sx → y4 = nI (cn_r (rP w K N u) (r + 1)) → ∃ S2, clsFr S S2 ∧ ((bs_r w K N u m (r + 1) c' = none ∧ (zbv (fX3_goOn Sx) fun S_1 => zfix (fun _ _ _ _ _ _ _ _ => none) fX7_best_50 fu (nI N) (nI u) (nI R) y4 y5 y6 (nI r + 1) S_1) = some (-1, S2)) ∨ ∃ rb, rb < R ∧ bs_r w K N u m (r + 1) c' = some rb ∧ (zbv (fX3_goOn Sx) fun S_1 => zfix (fun _ _ _ _ _ _ _ _ => none) fX7_best_50 fu (nI N) (nI u) (nI R) y4 y5 y6 (nI r + 1) S_1) = (zbv (fX0_keep 1 S2) fun S_5 => zbv (fX6_layRow 1 (nI N) (nI u) (nI (pq_n (dgt N K rb) K)) S_5) fun S_6 => some (nI (cn_r (rP w K N u) rb), S_6))) := by
      intro Sx c' y5 y6 y4 g1 g2 g3 g4
      obtain ⟨S3, e3, c3⟩ := c_goOn hw hN1 hN hu g2
      have fr3 := frX3_goOn e3
      have g3' : bC w K N u R c' y5 y6 S3 := by rw [show bC w K N u R c' y5 y6 S3 = bC w K N u R c' y5 y6 Sx from by unfold bC; rw [fr3.cell2 (k := 98) (by simp) (by omega)]]; exact g3
      obtain ⟨S4, q4, h4⟩ := ih (r + 1) fu S3 c' y5 y6 (by omega) (by omega) c3 g3'
      rw [e3, zbv_s, g4, nI_1]
      exact ⟨S4, clsFr_tr (clsFr_tr g1 (cls_of fr3 (fun k hk => by simp; omega))) q4, h4⟩
    rw [zfix_s]; unfold fX7_best_50 fX7_best_100 fX7_best_127 fX7_best_130
    rw [if_neg (nI_ge (by omega) (by omega)), e1, zbi_s]
    rcases t1 with ⟨rfl, t1⟩ | ⟨rfl, t1⟩
    · have cn1 : nI (cn_r (rP w K N u) r) + 1 = nI (cn_r (rP w K N u) (r + 1)) := by rw [cn_t (p := rP w K N u) t1, nI_1]
      rw [if_neg one_ne]
      obtain ⟨S2, e2, l2⟩ := c_findLeast hwr c1.2.2
      have fr2 := frX5_findLeast e2
      have q2 : clsFr S S2 := clsFr_tr q1 (cls_of fr2 (fun k hk => by simp; omega))
      have k98 : S2.2 98 = S1.2 98 := fr2.cell2 (by simp) (by omega)
      have hb2 : bC w K N u R c x5 x6 S2 := by rw [show bC w K N u R c x5 x6 S2 = bC w K N u R c x5 x6 S1 from by unfold bC; rw [k98]]; exact hb1
      have c2 : CR w K N u r S2 := ⟨by rw [fr2.cell (by simp) (by omega)]; exact c1.1, fun i hi => by rw [fr2.cell (by simp) (by omega)]; exact c1.2.1 i hi, SO_fr (fun k a b => fr2.cell (by simp; omega) (by omega)) c1.2.2⟩
      rw [e2, zbi_s]
      match hwo : wf_o w K N u r with
      | none =>
        have hwo' : wst (rowR w K N u r) K N N 0 none = none := hwo
        rw [hwo', if_pos (show oI none = -1 from rfl), bs_f (fun h => h.2.1 hwo)]
        exact next S2 c x5 x6 _ q2 c2 hb2 cn1
      | some f =>
        have hwo' : wst (rowR w K N u r) K N N 0 none = some f := hwo
        obtain ⟨f1, f2, a, b, f3, f4, f5⟩ := l2 f hwo'
        have hFr : fB (FB w K N u r) := by rw [FB_s hwo]; exact Fw_B hwr f
        rw [← FB_s hwo] at f3
        rw [hwo', if_neg (show ¬ oI (some f) = -1 from nI_nm1 (by omega))]
        obtain ⟨S3, hS3⟩ : ∃ S3, S3 = zsl (zsl S2 98 0 (S2.2 93 0)) 98 1 ((zsl S2 98 0 (S2.2 93 0)).2 93 1) := ⟨_, rfl⟩
        have cp : fX1_copyFrom 98 93 S2 = some S3 := by rw [hS3]; rfl
        have q3 : clsFr S S3 := fun k j hk => by rw [hS3]; exact q2 k j hk
        have c3 : CR w K N u r S3 := ⟨by rw [hS3]; exact c2.1, fun i hi => by rw [hS3]; exact c2.2.1 i hi, SO_fr (fun k a b => by rw [hS3]; rfl) c2.2.2⟩
        have hf8 : ∀ i, dgt N K r i < 8 := fun i => by have := dgt_lt (N := N) (K := K) (r := r) (i := i) (by omega); omega
        have ep := c_packed (S := S3) hf8 (by omega) hK (by rw [(SO_rC c3.2.2).1.1, rowO_lo (by omega) (by omega), hw.1.1]) c3.2.1
        have hb3 : bC w K N u R (some r) (nI (cn_r (rP w K N u) r)) (nI (pq_n (dgt N K r) K)) S3 := Or.inr ⟨r, rfl, by omega, rfl, rfl, hFr, a, b, f3, by rw [hS3]; simp [zsl_app, f4], by rw [hS3]; simp [zsl_app, f5]⟩
        have hw0 : wf_o w K N u r ≠ none := by rw [hwo]; simp
        rcases hb2 with ⟨rfl, rfl⟩ | ⟨rb, rfl, b1, b2, b3, b4, a', b', b5, b6, b7⟩
        · rw [if_pos rfl, cp, zbv_s, ep, zbi_s, bs_t ⟨t1, hw0, fun rb h => by cases h⟩]
          exact next S3 _ _ _ _ q3 c3 hb3 cn1
        · have hcl := cn_le (rP w K N u) rb
          have bd := mg_bd hFr f3
          have bd' := mg_bd b4 b5
          have m1 := mul_bd bd.1.1 bd.1.2 (show -160 ≤ b' by omega) bd'.2.2
          have m2 := mul_bd bd'.1.1 bd'.1.2 (show -160 ≤ b by omega) bd.2.2
          have li := ls_iff b4 hFr b5 f3
          rw [if_neg (by rw [b2]; exact nI_nm1 (by omega))]
          unfold fX1_isLessThan
          rw [f4, f5, b6, b7, jZ_mul, jZ_mul]
          by_cases cl : a' * b < a * b'
          · rw [if_neg (by rw [lg_cmp_ge, jZ_le (by omega) (by omega) (by omega) (by omega)]; omega), zbi_s, if_neg one_ne, cp, zbv_s, ep, zbi_s, bs_t ⟨t1, hw0, fun rb' h => by cases h; exact li.mp cl⟩]
            exact next S3 _ _ _ _ q3 c3 hb3 cn1
          · rw [if_pos (by rw [lg_cmp_ge, jZ_le (by omega) (by omega) (by omega) (by omega)]; omega), zbi_s, if_pos rfl, bs_f (fun h => cl (li.mpr (h.2.2 rb rfl)))]
            exact next S2 _ _ _ _ q2 c2 (Or.inr ⟨rb, rfl, b1, b2, b3, b4, a', b', b5, b6, b7⟩) cn1
    · rw [if_pos rfl, bs_f (fun h => t1 h.1)]
      exact next S1 c x5 x6 _ q1 c1 hb1 (by rw [cn_f (p := rP w K N u) t1])
