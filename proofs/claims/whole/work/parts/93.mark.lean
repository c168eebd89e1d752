theorem mk_sh : ∀ l, l < 32 → (zshl 1 (nI l)).toBitVec = BitVec.twoPow 32 l := by decide +kernel
theorem mk_sl : ∀ l, l < 32 → (((nI l).toUInt32 &&& Int32.toUInt32 31).toBitVec % 32).toNat = l := by decide +kernel
theorem bt_get (x : Int32) {j : Nat} (hj : j < 32) : ((zushr x (nI j)) &&& 1 = 1) ↔ x.toBitVec.getLsbD j = true := by
  rw [pk_and _ 1 (m := 1) (by decide)]
  unfold zushr
  rw [pk_ushr x (nI j) j (mk_sl j hj), BitVec.getLsbD, Nat.testBit_eq_decide_div_mod_eq, decide_eq_true_iff]
  have := Nat.mod_lt (x.toBitVec.toNat / 2 ^ j) (show 0 < 2 by omega)
  rw [show (1 : Int32) = nI 1 from rfl, show (2 : Nat) ^ 1 = 2 from rfl, nI_eq (by omega) (by omega)]
theorem bt_off (x : Int32) {i j : Nat} (hi : i < 32) (hj : j < 32) : (x &&& (zshl 1 (nI i) ^^^ (-1))).toBitVec.getLsbD j = (x.toBitVec.getLsbD j && decide (j ≠ i)) := by
  rw [Int32.toBitVec_and, Int32.toBitVec_xor, mk_sh i hi, show (-1 : Int32).toBitVec = BitVec.allOnes 32 by decide, BitVec.getLsbD_and, BitVec.getLsbD_xor, BitVec.getLsbD_twoPow, BitVec.getLsbD_allOnes]
  by_cases c : i = j
  · subst c; simp [hi]
  · have c2 : ¬ j = i := fun h => c h.symm
    simp [hi, hj, c, c2]
theorem bt_on (x : Int32) {i j : Nat} (hi : i < 32) : (x ||| zshl 1 (nI i)).toBitVec.getLsbD j = (x.toBitVec.getLsbD j || decide (j = i)) := by
  rw [Int32.toBitVec_or, mk_sh i hi, BitVec.getLsbD_or, BitVec.getLsbD_twoPow]
  by_cases c : i = j
  · subst c; simp [hi]
  · have c2 : ¬ j = i := fun h => c h.symm
    simp [hi, c, c2]
/-- the marks of the rows below r -/
def mkd (S : zT) (r : Nat) (P : Nat → Prop) : Prop := ∀ r', r' < r → ((S.1 97 (r' / 32)).toBitVec.getLsbD (r' % 32) = true ↔ P r')
theorem mkd_fr {S S' : zT} {r : Nat} {P : Nat → Prop} (e : S'.1 97 = S.1 97) (h : mkd S r P) : mkd S' r P := fun r' hr => by rw [e]; exact h r' hr
theorem mk_5 {r : Nat} (hr : r < 2147483648) : zshr (nI r) 5 = nI (r / 32) := pk_shrN (by omega) (5 &&& 31) 5 (by decide)
theorem mk_31 {r : Nat} (hr : r < 2147483648) : nI r &&& 31 = nI (r % 32) := pk_andN (by omega) 5 (by decide)
theorem c_mark {P : Nat → Prop} {r : Nat} {b : Int32} {S : zT} (hr : r < 2500) (hb : tf b (P r)) (h : mkd S r P) : ∃ S', fX3_mark (nI r) b S = some S' ∧ mkd S' (r + 1) P := by
  have hq : r / 32 < 79 := by omega
  have hm : r % 32 < 32 := by omega
  have stp : ∀ v : Int32, (∀ j, j < 32 → j ≠ r % 32 → v.toBitVec.getLsbD j = (S.1 97 (r / 32)).toBitVec.getLsbD j) → (v.toBitVec.getLsbD (r % 32) = true ↔ P r) → mkd (zsi S 97 (r / 32) v) (r + 1) P := by
    intro v hv hP r' hr'
    rw [zsi_k]
    by_cases c : r' / 32 = r / 32
    · rw [c, pk_us]
      by_cases c2 : r' = r
      · subst c2; exact hP
      · rw [hv (r' % 32) (by omega) (by omega), ← c]; exact h r' (by omega)
    · rw [pk_un c]; exact h r' (by omega)
  unfold fX3_mark fX3_mark_43
  rw [mk_5 (by omega), mk_31 (by omega), at_in hq (by omega), zbi_s]
  rcases hb with ⟨rfl, hb⟩ | ⟨rfl, hb⟩
  · rw [if_neg one_ne, put_in hq (by omega), zbv_s]
    refine ⟨_, rfl, stp _ (fun j h1 h2 => ?_) ?_⟩
    · rw [bt_on _ hm, bt_off _ hm h1]; simp [h2]
    · rw [bt_on _ hm]; simp [hb]
  · rw [if_pos rfl, put_in hq (by omega), zbv_s]
    refine ⟨_, rfl, stp _ (fun j h1 h2 => ?_) ?_⟩
    · rw [bt_off _ hm h1]; simp [h2]
    · rw [bt_off _ hm hm]; simp [hb]
theorem c_earlier {w : Nat → Int32} {K n N u r : Nat} {P : Nat → Prop} {S : zT} (hw : wfW w K n) (hN1 : 2 ≤ N) (hN : N ≤ 8) (hmi : mi_w w K = true) (hr : r < 2500) (hc : CR w K N u r S) (h : mkd S (r + 1) P) : ∃ b, fX3_hasEarlierMirror (nI r) S = some (b, S) ∧ tf b (mr_n w K N r K < r ∧ P (mr_n w K N r K)) := by
  have e := c_mirrorIx hw hN1 hN hmi hc
  have l1 := mr_lt (w := w) (K := K) (N := N) (r := r) (by omega) K (by have := hw.1.2.1; omega)
  have l2 := pw_bd (N := N) (K := K) hN hw.1.2.2
  generalize mr_n w K N r K = m at e l1 ⊢
  unfold fX3_hasEarlierMirror
  rw [e, zbi_s]
  by_cases c : m < r
  · rw [if_neg (nI_ge c (by omega)), mk_5 (by omega), mk_31 (by omega), at_in (by omega) (by omega), zbi_s]
    have b1 := (bt_get (S.1 97 (m / 32)) (show m % 32 < 32 by omega)).trans (h m (by omega))
    by_cases c2 : P m
    · rw [if_pos (b1.mpr c2)]; exact ⟨1, rfl, tf_t ⟨c, c2⟩⟩
    · rw [if_neg (fun g => c2 (b1.mp g))]; exact ⟨0, rfl, tf_f (fun g => c2 g.2)⟩
  · rw [if_pos (nI_le (by omega) (by omega))]
    exact ⟨0, rfl, tf_f (fun g => c g.1)⟩
/-- row r counts: it stands, and its mirror is no earlier one that does -/
def ulP (w : Nat → Int32) (K N u r : Nat) : Prop := rP w K N u r ∧ ¬ (mi_w w K = true ∧ mr_n w K N r K < r ∧ rP w K N u (mr_n w K N r K))
theorem cn_cg {p q : Nat → Prop} (h : ∀ r, p r ↔ q r) : ∀ m, cn_r p m = cn_r q m
  | 0 => rfl
  | m + 1 => by
    by_cases c : p m
    · rw [cn_t c, cn_t ((h m).mp c), cn_cg h m]
    · rw [cn_f c, cn_f (fun g => c ((h m).mpr g)), cn_cg h m]
theorem CR_fr {w : Nat → Int32} {K N u r : Nat} {S S' : zT} (h1 : S'.1 66 = S.1 66) (h2 : S'.1 95 = S.1 95) (h3 : ∀ k, 67 ≤ k → k ≤ 80 → S'.1 k = S.1 k) (hc : CR w K N u r S) : CR w K N u r S' := ⟨by rw [h1]; exact hc.1, fun i hi => by rw [h2]; exact hc.2.1 i hi, SO_fr h3 hc.2.2⟩
theorem c_unl {w : Nat → Int32} {K n N u R : Nat} (hw : wfW w K n) (hN1 : 2 ≤ N) (hN : N ≤ 8) (hu : u < 2147483648) (hR : R ≤ 2500) (hmi : mi_w w K = true) : ∀ (m r fu : Nat) (S : zT), r + m = R → m < fu → CR w K N u r S → mkd S r (rP w K N u) → ∃ S', zfix (fun _ _ _ _ => none) fX3_countUnlike_13 fu (nI R) (nI (cn_r (ulP w K N u) r)) (nI r) S = some (nI (cn_r (ulP w K N u) R), S') := by
  intro m
  induction m with
  | zero =>
    intro r fu S h1 h2 hc hk
    obtain ⟨fu, rfl⟩ : ∃ g, fu = g + 1 := ⟨fu - 1, by omega⟩
    have : r = R := by omega
    subst this
    refine ⟨S, ?_⟩
    rw [zfix_s]; unfold fX3_countUnlike_13
    rw [if_pos (nI_le (by omega) (by omega))]
  | succ m ih =>
    intro r fu S h1 h2 hc hk
    obtain ⟨fu, rfl⟩ : ∃ g, fu = g + 1 := ⟨fu - 1, by omega⟩
    obtain ⟨b, S1, e1, t1, c1⟩ := c_rowSteady hw hN1 hN hc
    have fr1 := frX5_isSteady e1
    obtain ⟨S2, e2, k2⟩ := c_mark (P := rP w K N u) (r := r) (S := S1) (by omega) t1 (mkd_fr (fr1.cell (by simp) (by omega)) hk)
    have fr2 := frX3_mark e2
    have c2 : CR w K N u r S2 := CR_fr (fr2.cell (by simp) (by omega)) (fr2.cell (by simp) (by omega)) (fun k a b => fr2.cell (by simp; omega) (by omega)) c1
    obtain ⟨g, e3, t3⟩ := c_earlier hw hN1 hN hmi (by omega) c2 k2
    obtain ⟨S3, e4, c3⟩ := c_goOn hw hN1 hN hu c2
    have fr3 := frX3_goOn e4
    obtain ⟨S4, e5⟩ := ih (r + 1) fu S3 (by omega) (by omega) c3 (mkd_fr (fr3.cell (by simp) (by omega)) k2)
    refine ⟨S4, ?_⟩
    rw [zfix_s]; unfold fX3_countUnlike_13 fX3_countUnlike_53
    rw [if_neg (nI_ge (by omega) (by omega)), e1, zbi_s, e2, zbv_s]
    rcases t1 with ⟨rfl, t1⟩ | ⟨rfl, t1⟩
    · rw [if_neg one_ne, e3, zbi_s]
      rcases t3 with ⟨rfl, t3⟩ | ⟨rfl, t3⟩
      · rw [if_neg one_ne, e4, zbv_s, nI_1]
        rw [cn_f (p := ulP w K N u) (fun g => g.2 ⟨hmi, t3⟩)] at e5; exact e5
      · rw [if_pos rfl, e4, zbv_s, nI_1, nI_1]
        rw [cn_t (p := ulP w K N u) ⟨t1, fun g => t3 g.2⟩] at e5; exact e5
    · rw [if_pos rfl, e4, zbv_s, nI_1]
      rw [cn_f (p := ulP w K N u) (fun g => t1 g.1)] at e5; exact e5
