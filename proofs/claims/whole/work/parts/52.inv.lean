/-! what holds between two calls -/
def wfW (w : Nat → Int32) (K n : Nat) : Prop := (w 0 = nI K ∧ 2 ≤ K ∧ K ≤ 8) ∧ (w 6 = nI n ∧ 1 ≤ n ∧ n ≤ 16) ∧ (0 ≤ (w 1).toInt ∧ (w 1).toInt ≤ 2) ∧ (0 ≤ (w 2).toInt ∧ (w 2).toInt ≤ 9) ∧ (0 ≤ (w 3).toInt ∧ (w 3).toInt ≤ 40) ∧ (-20 ≤ (w 4).toInt ∧ (w 4).toInt ≤ 20) ∧ (-20 ≤ (w 5).toInt ∧ (w 5).toInt ≤ 20) ∧ (∀ i, i < K → (-20 ≤ (w (7 + i)).toInt ∧ (w (7 + i)).toInt ≤ 20) ∧ (-20 ≤ (w (15 + i)).toInt ∧ (w (15 + i)).toInt ≤ 20)) ∧ (∀ t, t < n → ∃ s : Nat, s < 2 ^ K ∧ w (23 + t) = nI s) ∧ (∀ t, n ≤ t → t < 25 → w (23 + t) = 0)
/-- the Walker at place b of the class is the row w of the model -/
def rC (w : Nat → Int32) (K n : Nat) (S : zT) (b : Nat) : Prop := (S.1 b 0 = w 0 ∧ S.1 b 1 = w 1 ∧ S.1 b 2 = w 4 ∧ S.1 b 3 = w 5 ∧ S.1 b 4 = w 2 ∧ S.1 b 5 = w 3 ∧ S.1 b 6 = w 6) ∧ (∀ i, i < K → S.1 (b + 2) i = w (7 + i)) ∧ (∀ i, i < K → S.1 (b + 4) i = w (15 + i)) ∧ (∀ t, t < n → S.1 (b + 6) t = w (23 + t))
theorem wfW_congr {w w' : Nat → Int32} {K n : Nat} (h : ∀ j, j < 48 → w j = w' j) (hw : wfW w K n) : wfW w' K n := by
  obtain ⟨⟨a1, a2, a3⟩, ⟨b1, b2, b3⟩, c1, c2, c3, c4, c5, d, f1, f2⟩ := hw
  refine ⟨⟨by rw [← h 0 (by omega)]; exact a1, a2, a3⟩, ⟨by rw [← h 6 (by omega)]; exact b1, b2, b3⟩, by rw [← h 1 (by omega)]; exact c1, by rw [← h 2 (by omega)]; exact c2, by rw [← h 3 (by omega)]; exact c3, by rw [← h 4 (by omega)]; exact c4, by rw [← h 5 (by omega)]; exact c5, fun i hi => ?_, fun t ht => ?_, fun t ht h2 => ?_⟩
  · rw [← h (7 + i) (by omega), ← h (15 + i) (by omega)]; exact d i hi
  · rw [← h (23 + t) (by omega)]; exact f1 t ht
  · rw [← h (23 + t) (by omega)]; exact f2 t ht h2
theorem rC_congr {w w' : Nat → Int32} {K n : Nat} {S : zT} {b : Nat} (hK : K ≤ 8) (hn : n ≤ 16) (h : ∀ j, j < 48 → w j = w' j) (hw : rC w K n S b) : rC w' K n S b := by
  obtain ⟨⟨a0, a1, a2, a3, a4, a5, a6⟩, b1, b2, b3⟩ := hw
  refine ⟨⟨by rw [← h 0 (by omega)]; exact a0, by rw [← h 1 (by omega)]; exact a1, by rw [← h 4 (by omega)]; exact a2, by rw [← h 5 (by omega)]; exact a3, by rw [← h 2 (by omega)]; exact a4, by rw [← h 3 (by omega)]; exact a5, by rw [← h 6 (by omega)]; exact a6⟩, fun i hi => ?_, fun i hi => ?_, fun t ht => ?_⟩
  · rw [← h (7 + i) (by omega)]; exact b1 i hi
  · rw [← h (15 + i) (by omega)]; exact b2 i hi
  · rw [← h (23 + t) (by omega)]; exact b3 t ht
theorem rC_state {w : Nat → Int32} {K n : Nat} {S S' : zT} {b b' : Nat} (hK : K ≤ 8) (hn : n ≤ 16) (h0 : ∀ j, j < 7 → S'.1 b' j = S.1 b j) (h1 : ∀ j, j < 8 → S'.1 (b' + 2) j = S.1 (b + 2) j) (h2 : ∀ j, j < 8 → S'.1 (b' + 4) j = S.1 (b + 4) j) (h3 : ∀ j, j < 16 → S'.1 (b' + 6) j = S.1 (b + 6) j) (hw : rC w K n S b) : rC w K n S' b' := by
  obtain ⟨⟨a0, a1, a2, a3, a4, a5, a6⟩, b1, b2, b3⟩ := hw
  refine ⟨⟨by rw [h0 0 (by omega)]; exact a0, by rw [h0 1 (by omega)]; exact a1, by rw [h0 2 (by omega)]; exact a2, by rw [h0 3 (by omega)]; exact a3, by rw [h0 4 (by omega)]; exact a4, by rw [h0 5 (by omega)]; exact a5, by rw [h0 6 (by omega)]; exact a6⟩, fun i hi => ?_, fun i hi => ?_, fun t ht => ?_⟩
  · rw [h1 i (by omega)]; exact b1 i hi
  · rw [h2 i (by omega)]; exact b2 i hi
  · rw [h3 t (by omega)]; exact b3 t ht
theorem rC_cells {w : Nat → Int32} {K n : Nat} {S S' : zT} {b : Nat} (h : ∀ k, b ≤ k → k < b + 7 → S'.1 k = S.1 k) (hw : rC w K n S b) : rC w K n S' b := by
  obtain ⟨a, b1, b2, b3⟩ := hw
  refine ⟨by rw [h b (by omega) (by omega)]; exact a, fun i hi => ?_, fun i hi => ?_, fun t ht => ?_⟩
  · rw [h (b + 2) (by omega) (by omega)]; exact b1 i hi
  · rw [h (b + 4) (by omega) (by omega)]; exact b2 i hi
  · rw [h (b + 6) (by omega) (by omega)]; exact b3 t ht
def HC (hs : List (Nat → Int32)) (S : zT) : Prop := ∃ nx : Nat, nx < 8 ∧ S.1 8 1 = nI nx ∧ S.1 8 2 = nI hs.length ∧ hs.length ≤ 8 ∧ ∀ (j : Nat) (w : Nat → Int32), hs[j]? = some w → ∃ K n, wfW w K n ∧ rC w K n S (10 + 7 * ((nx + 7 - j) % 8))
def HM (hs : List (Nat → Int32)) (S : zT) : Prop := S.1 101 3 = nI hs.length ∧ hs.length ≤ 8 ∧ ∀ (j : Nat) (w : Nat → Int32), hs[j]? = some w → ∀ i, i < 48 → S.1 103 (48 * (hs.length - 1 - j) + i) = w i
def zInv (S : zT) : Prop := (S.1 101 4 = 0 ∨ S.1 101 4 = 1) ∧ (∃ K n, wfW (Gf S) K n ∧ rC (Gf S) K n S 1) ∧ ∃ hs, HC hs S ∧ HM hs S
theorem HC_frame {hs : List (Nat → Int32)} {S S' : zT} (h : ∀ k, 8 ≤ k → k < 66 → S'.1 k = S.1 k) (hc : HC hs S) : HC hs S' := by
  obtain ⟨nx, h1, h2, h3, h4, h5⟩ := hc
  refine ⟨nx, h1, by rw [h 8 (by omega) (by omega)]; exact h2, by rw [h 8 (by omega) (by omega)]; exact h3, h4, fun j w hj => ?_⟩
  obtain ⟨K, n, e1, e2⟩ := h5 j w hj
  exact ⟨K, n, e1, rC_cells (fun k _ _ => h k (by omega) (by omega)) e2⟩
theorem HM_frame {hs : List (Nat → Int32)} {S S' : zT} (h1 : S'.1 101 3 = S.1 101 3) (h2 : S'.1 103 = S.1 103) (hm : HM hs S) : HM hs S' := by
  unfold HM at hm ⊢
  rw [h1, h2]; exact hm
/-- the beginning of each call of the model -/
def preM (S S2 : zT) : Prop := fX8_begins (zsi S 101 0 0) = some S2 ∧ S2.1 102 = Gf S ∧ S2.1 101 4 = 1 ∧ S2.1 101 3 = S.1 101 3 ∧ ∀ k, k ≠ 101 → k ≠ 102 → S2.1 k = S.1 k
theorem m_pre {S : zT} (h : S.1 101 4 = 0 ∨ S.1 101 4 = 1) : ∃ S2, preM S S2 := by
  obtain ⟨S2, e1, e2, e3⟩ := m_begins (zsi S 101 0 0)
  have fr := frX8_begins e1
  have g4 : (zsi S 101 0 0).1 101 4 = S.1 101 4 := by rw [zsi_app]; simp
  refine ⟨S2, e1, ?_, e3 (by rw [g4]; exact h), ?_, fun k h1 h2 => ?_⟩
  · rw [e2]; unfold Gf; rw [g4, zsi_n _ _ (by omega)]
  · rw [fr.slot (by simp) (by simp), zsi_app]; simp
  · rw [fr.cell (by simp; omega) h1, zsi_n _ _ h1]
/-- a question: nothing of it stays -/
def clsFr (S S1 : zT) : Prop := ∀ k j, k < 66 ∨ 101 ≤ k → S1.1 k j = S.1 k j
def modFr (S S2 : zT) : Prop := S2.1 102 = S.1 102 ∧ S2.1 101 4 = S.1 101 4 ∧ S2.1 101 3 = S.1 101 3 ∧ S2.1 103 = S.1 103 ∧ ∀ k, k < 101 → S2.1 k = S.1 k
theorem clsFr.c {S S1 : zT} (h : clsFr S S1) {k : Nat} (hk : k < 66 ∨ 101 ≤ k) : S1.1 k = S.1 k := funext fun j => h k j hk
theorem Gf_eq {S S1 : zT} (h1 : S1.1 101 4 = S.1 101 4) (h2 : S1.1 102 = S.1 102) : Gf S1 = Gf S := by unfold Gf; rw [h1, h2]
theorem zInv_query {S S1 S2 S3 : zT} (hI : zInv S) (h1 : clsFr S S1) (h2 : preM S1 S2) (h3 : modFr S2 S3) : zInv S3 := by
  obtain ⟨hb, ⟨K, n, hw, hr⟩, hs, hc, hm⟩ := hI
  obtain ⟨-, p1, p2, p3, p4⟩ := h2
  obtain ⟨q1, q2, q3, q4, q5⟩ := h3
  have hG : Gf S1 = Gf S := Gf_eq (h1 101 4 (by omega)) (h1.c (by omega))
  have hG3 : Gf S3 = Gf S := by
    have : Gf S3 = S3.1 102 := by unfold Gf; rw [q2, p2]; rfl
    rw [this, q1, p1, hG]
  have hcell : ∀ k, k < 66 → S3.1 k = S.1 k := fun k hk => by rw [q5 k (by omega), p4 k (by omega) (by omega), h1.c (by omega)]
  refine ⟨Or.inr (by rw [q2, p2]), ⟨K, n, by rw [hG3]; exact hw, by rw [hG3]; exact rC_cells (fun k _ _ => hcell k (by omega)) hr⟩, hs, HC_frame (fun k _ _ => hcell k (by omega)) hc, HM_frame ?_ ?_ hm⟩
  · rw [q3, p3, h1 101 3 (by omega)]
  · rw [q4, p4 103 (by omega) (by omega), h1.c (by omega)]
/-- a question asked of both -/
theorem zO_query {F G : zT → Option (Int32 × zT)} {B : zT → Option (Int32 × zT)} (val : (Nat → Int32) → Nat → Nat → Int32) (hF : ∀ S w K n, wfW w K n → rC w K n S 1 → ∃ S1, F S = some (val w K n, S1) ∧ clsFr S S1) (hG : ∀ S, G S = zlet (zsi S 101 0 0) fun S1 => zbv (fX8_begins S1) B) (hB : ∀ S K n, wfW (S.1 102) K n → S.1 101 4 = 1 → ∃ S1, B S = some (val (S.1 102) K n, S1) ∧ modFr S S1) : zOi zInv F G := by
  intro S hI
  obtain ⟨hb, ⟨K, n, hw, hr⟩, hs, hc, hm⟩ := id hI
  obtain ⟨S1, e1, f1⟩ := hF S (Gf S) K n hw hr
  have hb1 : S1.1 101 4 = 0 ∨ S1.1 101 4 = 1 := by rw [f1 101 4 (by omega)]; exact hb
  have hG1 : Gf S1 = Gf S := Gf_eq (f1 101 4 (by omega)) (f1.c (by omega))
  obtain ⟨S2, p⟩ := m_pre hb1
  obtain ⟨p0, p1, p2, p3⟩ := id p
  obtain ⟨S3, e3, f3⟩ := hB S2 K n (by rw [p1, hG1]; exact hw) p2
  refine ⟨_, S1, S3, e1, ?_, zInv_query hI f1 p f3⟩
  rw [hG, zlet_s, p0, zbv_s, e3, p1, hG1]
theorem zO_queryL {F G : zT → Option (Int64 × zT)} {B : zT → Option (Int64 × zT)} (val : (Nat → Int32) → Nat → Nat → Int64) (hF : ∀ S w K n, wfW w K n → rC w K n S 1 → ∃ S1, F S = some (val w K n, S1) ∧ clsFr S S1) (hG : ∀ S, G S = zlet (zsi S 101 0 0) fun S1 => zbv (fX8_begins S1) B) (hB : ∀ S K n, wfW (S.1 102) K n → S.1 101 4 = 1 → ∃ S1, B S = some (val (S.1 102) K n, S1) ∧ modFr S S1) : zOl zInv F G := by
  intro S hI
  obtain ⟨hb, ⟨K, n, hw, hr⟩, hs, hc, hm⟩ := id hI
  obtain ⟨S1, e1, f1⟩ := hF S (Gf S) K n hw hr
  have hb1 : S1.1 101 4 = 0 ∨ S1.1 101 4 = 1 := by rw [f1 101 4 (by omega)]; exact hb
  have hG1 : Gf S1 = Gf S := Gf_eq (f1 101 4 (by omega)) (f1.c (by omega))
  obtain ⟨S2, p⟩ := m_pre hb1
  obtain ⟨p0, p1, p2, p3⟩ := id p
  obtain ⟨S3, e3, f3⟩ := hB S2 K n (by rw [p1, hG1]; exact hw) p2
  refine ⟨_, S1, S3, e1, ?_, zInv_query hI f1 p f3⟩
  rw [hG, zlet_s, p0, zbv_s, e3, p1, hG1]
