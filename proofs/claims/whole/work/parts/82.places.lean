theorem c_places {w : Nat → Int32} {K n s : Nat} {S : zT} (hw : wfW w K n) (hs : s < 256) (hr : rC w K n S 68) : ∃ r S', fX5_holdsAtPlaces (nI s) S = some (r, S') ∧ tf r (okS w K (nI s)) := by
  have hK := hw.1.2.2
  have key : ∀ (m i fu c : Nat) (S : zT), i + m = K → m < fu → c ≤ i → rC w K n S 68 → cS (Fq (bitI (nI s)) (Xw w) (Yp w) i) c S → ∃ r S', zfix (fun _ _ _ => none) fX5_holdsAtPlaces_19 fu (nI s) (nI i) S = some (r, S') ∧ tf r (SP (F_p w K (nI s))) := by
    intro m
    induction m with
    | zero =>
      intro i fu c S h1 h2 hc hr hi
      obtain ⟨fu, rfl⟩ : ∃ g, fu = g + 1 := ⟨fu - 1, by omega⟩
      have : i = K := by omega
      subst this
      obtain ⟨r, e1, e2⟩ := c_holds (Fp_B hw (nI s)) (show c ≤ 8 by omega) hi
      refine ⟨r, S, ?_, e2⟩
      rw [zfix_s]; unfold fX5_holdsAtPlaces_19
      rw [if_pos (by rw [hr.1.1, hw.1.1]; exact nI_le (by omega) (by omega)), e1, zbi_s, if_pos (tf_01 e2)]
    | succ m ih =>
      intro i fu c S h1 h2 hc hr hi
      obtain ⟨fu, rfl⟩ : ∃ g, fu = g + 1 := ⟨fu - 1, by omega⟩
      have hiK : i < K := by omega
      have bd := XY_bd (t := 0) hw hiK
      rw [zfix_s]; unfold fX5_holdsAtPlaces_19 fX5_holdsAtPlaces_86
      rw [if_neg (by rw [hr.1.1, hw.1.1]; exact nI_ge (by omega) (by omega))]
      by_cases c1 : (zshr (nI s) (nI i)) &&& 1 = 1
      · obtain ⟨S1, e1, e2⟩ := c_add (Fq_B (fun j hj _ => ⟨(XY_bd (t := 0) hw (show j < K by omega)).1, (XY_bd (t := 0) hw (show j < K by omega)).2.2⟩)) bd.1 bd.2.2 (show c < 8 by omega) hi
        have fr1 := frX4_add e1
        have ex : S.1 (68 + 1 + 1) i - S.1 68 2 = iZ (Xw w i) := by
          rw [show S.1 (68 + 1 + 1) i = w (7 + i) from hr.2.1 i hiK, hr.1.2.2.1]
          unfold Xw; rw [← iZ_sub, ← iZ_of, ← iZ_of]
        have ey : 2 * (S.1 (68 + 3 + 1) i - S.1 68 3) = iZ (Yp w i) := by
          rw [show S.1 (68 + 3 + 1) i = w (15 + i) from hr.2.2.1 i hiK, hr.1.2.2.2.1]
          unfold Yp
          rw [show 2 * (w (15 + i)).toInt - 2 * (w 5).toInt = 2 * ((w (15 + i)).toInt - (w 5).toInt) by omega, ← iZ_mul, ← iZ_sub, ← iZ_of, ← iZ_of]; rfl
        obtain ⟨r, S', f1, f2⟩ := ih (i + 1) fu (c + 1) S1 (by omega) (by omega) (by omega) (rC_other (fun k a b => fr1.cell (by simp; omega) (by omega)) hr) (by rw [Fq_t (δ := bitI (nI s)) (i := i) (decide_eq_true c1)]; exact e2)
        refine ⟨r, S', ?_, f2⟩
        rw [if_pos c1, at_in (by omega) (by omega), zbi_s, at_in (by omega) (by omega), zbi_s, ex, ey, e1, zbv_s, nI_1]
        exact f1
      · obtain ⟨r, S', f1, f2⟩ := ih (i + 1) fu c S (by omega) (by omega) (by omega) hr (by rw [Fq_f (δ := bitI (nI s)) (i := i) (by unfold bitI; simpa using c1)]; exact hi)
        refine ⟨r, S', ?_, f2⟩
        rw [if_neg c1, nI_1]
        exact f1
  unfold fX5_holdsAtPlaces okS
  rw [c_fits hK hw.1.1 hr, zbi_s, nI_clamp (by omega)]
  by_cases c1 : w 1 = 2 ∧ prB K s = false
  · rw [if_pos c1, if_pos rfl]
    exact ⟨0, S, rfl, tf_f (fun h => h.1 c1)⟩
  · rw [if_neg c1, if_neg one_ne]
    obtain ⟨S0, e0, c0⟩ := c_empty S
    have fr0 := frX4_empty e0
    obtain ⟨r, S', e1, e2⟩ := key K 0 zF 0 S0 (by omega) (by unfold zF; omega) (by omega) (rC_other (fun k a b => fr0.cell (by simp; omega) (by omega)) hr) (by rw [Fq_0]; exact c0)
    rw [e0, zbv_s]
    exact ⟨r, S', e1, tf_cg ⟨fun h => ⟨c1, h⟩, fun h => h.2⟩ e2⟩
theorem c_readPlaces {w : Nat → Int32} {K n : Nat} {S : zT} (hw : wfW w K n) (hr : rC w K n S 68) : ∃ S', fX5_readPlaces S = some S' ∧ ∀ s : Nat, s < 2 ^ K → tf (S'.1 80 s) (okS w K (nI s)) := by
  have hK := hw.1.2.2
  have hp := pow_le256 hK
  have hp1 : 0 < 2 ^ K := Nat.pow_pos (by omega)
  have key : ∀ (m s fu : Nat) (S : zT), s + m = 2 ^ K → m < fu → rC w K n S 68 → (∀ s', s' < s → tf (S.1 80 s') (okS w K (nI s'))) → ∃ S', zfix (fun _ _ _ => none) fX5_readPlaces_10 fu (nI (2 ^ K - 1)) (nI s) S = some S' ∧ ∀ s : Nat, s < 2 ^ K → tf (S'.1 80 s) (okS w K (nI s)) := by
    intro m
    induction m with
    | zero =>
      intro s fu S h1 h2 hr hi
      obtain ⟨fu, rfl⟩ : ∃ g, fu = g + 1 := ⟨fu - 1, by omega⟩
      refine ⟨S, ?_, fun s' h => hi s' (by omega)⟩
      rw [zfix_s]; unfold fX5_readPlaces_10
      rw [if_pos (nI_lt (by omega) (by omega))]
    | succ m ih =>
      intro s fu S h1 h2 hr hi
      obtain ⟨fu, rfl⟩ : ∃ g, fu = g + 1 := ⟨fu - 1, by omega⟩
      obtain ⟨r, S1, e1, t1⟩ := c_places hw (show s < 256 by omega) hr
      have fr := frX5_holdsAtPlaces e1
      have k80 : S1.1 80 = S.1 80 := fr.cell (by simp) (by omega)
      obtain ⟨S', f1, f2⟩ := ih (s + 1) fu (zsi S1 80 s r) (by omega) (by omega) (rC_other (fun k a b => by rw [zsi_n _ _ (by omega)]; exact fr.cell (by simp; omega) (by omega)) hr) (fun s' h => by
        rw [zsi_k]
        by_cases c : s' = s
        · subst c; rw [pk_us]; exact t1
        · rw [pk_un c, k80]; exact hi s' (by omega))
      refine ⟨S', ?_, f2⟩
      rw [zfix_s]; unfold fX5_readPlaces_10 fX5_readPlaces_33
      rw [if_neg (nI_nlt (by omega) (by omega)), e1, zbi_s]
      rcases tf_01 t1 with rfl | rfl
      · rw [if_pos rfl, put_in (by omega) (by omega), zbv_s, nI_1]; exact f1
      · rw [if_neg one_ne, put_in (by omega) (by omega), zbv_s, nI_1]; exact f1
  unfold fX5_readPlaces
  rw [c_full hK hw.1.1 hr, zbi_s]
  exact key (2 ^ K) 0 zF S (by omega) (by unfold zF; omega) hr (fun _ h => by omega)
/-! one leg's offset is laid anew -/
theorem bit_fin : ∀ i, i < 8 → ∀ x, x < 256 → decide ((zshr (nI x) (nI i)) &&& 1 = 1) = decide (x / 2 ^ i % 2 = 1) := by decide +kernel
def rowO (w : Nat → Int32) (K N u : Nat) (off : Nat → Nat) : Nat → Int32 := tk_w w N (rw_s K off u N)
theorem rowO_lo {w : Nat → Int32} {K N u : Nat} {off : Nat → Nat} {m : Nat} (h1 : m < 23) (h2 : m ≠ 6) : rowO w K N u off m = w m := by unfold rowO tk_w; rw [if_neg h2, if_neg (by omega)]
theorem D_row {w : Nat → Int32} {K N u i t : Nat} {off : Nat → Nat} (hi : i < 8) (hN : N ≤ 16) (ht : t < N) : D_w (rowO w K N u off) i t = (decide (i < K) && bt_b off u N i t) := by
  have hb := bs_lt (fun j => decide (j < K) && bt_b off u N j t) 8
  have e : rowO w K N u off (23 + t) = nI (bs_b (fun j => decide (j < K) && bt_b off u N j t) 8) := by
    unfold rowO tk_w
    rw [if_neg (by omega), if_pos (by omega), show 23 + t - 23 = t by omega, if_pos ht]; rfl
  unfold D_w
  rw [e, bit_fin i hi _ (by omega), bs_bit _ 8 i hi]
  by_cases c : (decide (i < K) && bt_b off u N i t) = true
  · rw [if_pos c, c]; rfl
  · rw [if_neg c]; simp at c ⊢; exact c
theorem wf_row {w : Nat → Int32} {K n N u : Nat} {off : Nat → Nat} (hw : wfW w K n) (h1 : 1 ≤ N) (h2 : N ≤ 16) : wfW (rowO w K N u off) K N := wf_tk hw h1 h2 (fun t _ => rw_lt hw.1.2.2 off u N t)
theorem D_oth {w : Nat → Int32} {K N u i : Nat} {off off' : Nat → Nat} (hi : i < 8) (hN : N ≤ 16) (h : off' i = off i) : D_w (rowO w K N u off') i = D_w (rowO w K N u off) i := by
  funext t
  by_cases ht : t < N
  · rw [D_row hi hN ht, D_row hi hN ht]; unfold bt_b; rw [h]
  · unfold D_w rowO tk_w
    simp only [show 23 + t - 23 = t by omega, if_neg ht]
theorem okS_row {w w' : Nat → Int32} {K : Nat} (hK : K ≤ 8) (h : ∀ m, m < 23 → m ≠ 6 → w' m = w m) (s : Int32) : okS w' K s ↔ okS w K s := by
  have e : F_p w' K s = F_p w K s := by
    unfold F_p Fq
    funext x y
    apply propext
    constructor
    · rintro ⟨i, h1, h2, h3, h4⟩
      refine ⟨i, h1, h2, ?_, ?_⟩
      · rw [h3]; unfold Xw; rw [h _ (by omega) (by omega), h 4 (by omega) (by omega)]
      · rw [h4]; unfold Yp; rw [h _ (by omega) (by omega), h 5 (by omega) (by omega)]
    · rintro ⟨i, h1, h2, h3, h4⟩
      refine ⟨i, h1, h2, ?_, ?_⟩
      · rw [h3]; unfold Xw; rw [h _ (by omega) (by omega), h 4 (by omega) (by omega)]
      · rw [h4]; unfold Yp; rw [h _ (by omega) (by omega), h 5 (by omega) (by omega)]
  unfold okS
  rw [e, h 1 (by omega) (by omega)]
theorem c_leg1 {w : Nat → Int32} {K n N u i : Nat} {off off' : Nat → Nat} {S : zT} (hw : wfW w K n) (hN1 : 1 ≤ N) (hN : N ≤ 8) (hu : u < 2147483648) (hi : i < K) (ho : ∀ j, j ≠ i → off' j = off j) (hoi : off' i < N) (hs : SO (rowO w K N u off) K N S) : ∃ S1 S', fX6_layLeg 68 (nI i) (nI u) (nI (off' i)) S = some S1 ∧ fX5_readLeg (nI i) S1 = some S' ∧ SO (rowO w K N u off') K N S' := by
  have hK := hw.1.2.2
  have hr := SO_rC hs
  obtain ⟨S1, e1, e2⟩ := c_layLeg (b := 68) (i := i) (N := N) (u := u) (off := off' i) (by omega) (by omega) hu hoi S (by rw [hr.1.2.2.2.2.2.2]; unfold rowO tk_w; rw [if_pos rfl])
  have fr1 := frX6_layLeg e1
  have r1 : rC (rowO w K N u off') K N S1 68 := by
    obtain ⟨⟨a0, a1, a2, a3, a4, a5, a6⟩, b1, b2, b3⟩ := hr
    have k68 : S1.1 68 = S.1 68 := fr1.cell (by simp) (by omega)
    refine ⟨⟨?_, ?_, ?_, ?_, ?_, ?_, ?_⟩, fun j hj => ?_, fun j hj => ?_, fun t ht => ?_⟩
    · rw [k68, a0, rowO_lo (by omega) (by omega), rowO_lo (by omega) (by omega)]
    · rw [k68, a1, rowO_lo (by omega) (by omega), rowO_lo (by omega) (by omega)]
    · rw [k68, a2, rowO_lo (by omega) (by omega), rowO_lo (by omega) (by omega)]
    · rw [k68, a3, rowO_lo (by omega) (by omega), rowO_lo (by omega) (by omega)]
    · rw [k68, a4, rowO_lo (by omega) (by omega), rowO_lo (by omega) (by omega)]
    · rw [k68, a5, rowO_lo (by omega) (by omega), rowO_lo (by omega) (by omega)]
    · rw [k68, a6]; unfold rowO tk_w; rw [if_pos rfl, if_pos rfl]
    · rw [show S1.1 (68 + 2) = S.1 (68 + 2) from fr1.cell (by simp) (by omega), b1 j hj, rowO_lo (by omega) (by omega), rowO_lo (by omega) (by omega)]
    · rw [show S1.1 (68 + 4) = S.1 (68 + 4) from fr1.cell (by simp) (by omega), b2 j hj, rowO_lo (by omega) (by omega), rowO_lo (by omega) (by omega)]
    · rw [e2 t, if_pos ht, b3 t ht]
      have q : ∀ o, rowO w K N u o (23 + t) = nI (bs_b (fun j => decide (j < K) && bt_b o u N j t) 8) := fun o => by
        unfold rowO tk_w
        rw [if_neg (by omega), if_pos (by omega), show 23 + t - 23 = t by omega, if_pos ht]; rfl
      rw [q, q, sbI_bs _ (by omega), bs_congr 8 (fun j hj => ?_)]
      unfold bset_b
      by_cases c : j = i
      · subst c; rw [if_pos rfl, decide_eq_true hi]; rfl
      · rw [if_neg c]; unfold bt_b; rw [ho j c]
  rcases hs with hs | hs
  · obtain ⟨S2, f1, f2, f3, f4⟩ := c_readLeg (i := i) (K := K) (n := N) (w := rowO w K N u off') (by unfold rowO tk_w; rw [if_pos rfl]) hN1 (by omega) (by omega) r1 (by rw [fr1.cell (by simp) (by omega)]; exact hs.2.1)
    have fr2 := frX5_readLeg f1
    refine ⟨S1, S2, e1, f1, Or.inl ⟨rC_other (fun k a b => fr2.cell (by simp; omega) (by omega)) r1, ?_, fun j hj => ?_⟩⟩
    · rw [fr2.cell (by simp) (by omega), fr1.cell (by simp) (by omega)]; exact hs.2.1
    · by_cases c : j = i
      · subst c; exact ⟨f3, f4⟩
      · have h0 := hs.2.2 j hj
        have h1 : ldOK (rowO w K N u off') N S1 j ∧ sxOK (rowO w K N u off') N S1 j := by
          unfold ldOK sxOK
          rw [D_oth (show j < 8 by omega) (by omega) (ho j c), fr1.cell (k := 76) (by simp) (by omega), fr1.cell (k := 78) (by simp) (by omega)]
          exact h0
        exact ld_out (by omega) f2 c h1
  · refine ⟨S1, S1, e1, ?_, Or.inr ⟨r1, ?_, ?_, fun s hs' => ?_⟩⟩
    · unfold fX5_readLeg
      rw [if_neg (by rw [fr1.cell (by simp) (by omega), hs.2.1]; exact one_ne)]
    · rw [fr1.cell (by simp) (by omega)]; exact hs.2.1
    · rw [rowO_lo (by omega) (by omega)]
      have := hs.2.2.1
      rw [rowO_lo (by omega) (by omega)] at this; exact this
    · rw [fr1.cell (by simp) (by omega)]
      refine tf_cg ?_ (hs.2.2.2 s hs')
      exact okS_row hK (fun m h1 h2 => by rw [rowO_lo h1 h2, rowO_lo h1 h2]) _
