/-! a flag that tells a proposition -/
def tf (x : Int32) (P : Prop) : Prop := (x = 1 ∧ P) ∨ (x = 0 ∧ ¬ P)
noncomputable def bP (P : Prop) : Int32 := @ite _ P (Classical.propDecidable P) 1 0
theorem bP_t {P : Prop} (h : P) : bP P = 1 := by unfold bP; rw [if_pos h]
theorem bP_f {P : Prop} (h : ¬ P) : bP P = 0 := by unfold bP; rw [if_neg h]
theorem tf_bP {x : Int32} {P : Prop} (h : tf x P) : x = bP P := by
  rcases h with ⟨rfl, h⟩ | ⟨rfl, h⟩
  · rw [bP_t h]
  · rw [bP_f h]
theorem tf_cg {x : Int32} {P Q : Prop} (h : P ↔ Q) (hx : tf x P) : tf x Q := by
  rcases hx with ⟨rfl, g⟩ | ⟨rfl, g⟩
  · exact Or.inl ⟨rfl, h.mp g⟩
  · exact Or.inr ⟨rfl, fun q => g (h.mpr q)⟩
theorem tf_01 {x : Int32} {P : Prop} (h : tf x P) : x = 0 ∨ x = 1 := by
  rcases h with ⟨rfl, _⟩ | ⟨rfl, _⟩
  · exact Or.inr rfl
  · exact Or.inl rfl
theorem tf_t {P : Prop} (h : P) : tf 1 P := Or.inl ⟨rfl, h⟩
theorem tf_f {P : Prop} (h : ¬ P) : tf 0 P := Or.inr ⟨rfl, h⟩
theorem tf_ne {x : Int32} {P : Prop} (h : tf x P) : x = 0 ↔ ¬ P := by
  rcases h with ⟨rfl, h⟩ | ⟨rfl, h⟩
  · exact ⟨fun e => absurd e one_ne, fun e => absurd h e⟩
  · exact ⟨fun _ => h, fun _ => rfl⟩
theorem bP_tf (P : Prop) : tf (bP P) P := by
  by_cases h : P
  · rw [bP_t h]; exact tf_t h
  · rw [bP_f h]; exact tf_f h
theorem bP_cg {P Q : Prop} (h : P ↔ Q) : bP P = bP Q := by rw [propext h]
/-! the feet of one tick, seen from the middle -/
def fB (F : pQ) : Prop := ∀ X Y, F X Y → (-40 ≤ X ∧ X ≤ 40) ∧ (-300 ≤ Y ∧ Y ≤ 300)
def lnP (F : pQ) : pQ := fun p q => F 0 p ∧ q = 1
def mkP (F : pQ) : pQ := fun p q => lnP F p q ∨ ∃ Xa Ya Xb Yb, F Xa Ya ∧ F Xb Yb ∧ Xa < 0 ∧ 0 < Xb ∧ p = Ya * Xb - Yb * Xa ∧ q = Xb - Xa
def SP (F : pQ) : Prop := (∃ p q, mkP F p q ∧ p ≤ 0) ∧ ∃ p q, mkP F p q ∧ 0 ≤ p
def sdOK (F : pQ) (pos : Int → Prop) (a : Nat) (ax ay : Nat → Int32) : Prop := (∀ j, j < a → F (ax j).toInt (ay j).toInt ∧ pos (ax j).toInt) ∧ ∀ X Y, F X Y → pos X → ∃ j, j < a ∧ (ax j).toInt = X ∧ (ay j).toInt = Y
def cS (F : pQ) (c : Nat) (S : zT) : Prop := ∃ a b, a + b ≤ c ∧ S.1 81 4 = nI a ∧ S.1 81 5 = nI b ∧ sdOK F (· < 0) a (S.1 83) (S.1 85) ∧ sdOK F (0 < ·) b (S.1 87) (S.1 89) ∧ rLo (lnP F) S 90 ∧ rHi (lnP F) S 91
theorem rLo_cg {Pl Pl' : pQ} {S S' : zT} {b : Nat} (h : ∀ p q, Pl p q ↔ Pl' p q) (e : S'.2 b = S.2 b) (g : rLo Pl S b) : rLo Pl' S' b := by
  rcases g with ⟨g1, g2⟩ | ⟨p, q, g1, g2, g3⟩
  · exact Or.inl ⟨fun p q hp => g1 p q ((h p q).mpr hp), by rw [e]; exact g2⟩
  · exact Or.inr ⟨p, q, lo_cg h g1, by rw [e]; exact g2, by rw [e]; exact g3⟩
theorem rHi_cg {Pl Pl' : pQ} {S S' : zT} {b : Nat} (h : ∀ p q, Pl p q ↔ Pl' p q) (e : S'.2 b = S.2 b) (g : rHi Pl S b) : rHi Pl' S' b := by
  rcases g with ⟨g1, g2⟩ | ⟨p, q, g1, g2, g3⟩
  · exact Or.inl ⟨fun p q hp => g1 p q ((h p q).mpr hp), by rw [e]; exact g2⟩
  · exact Or.inr ⟨p, q, hi_cg h g1, by rw [e]; exact g2, by rw [e]; exact g3⟩
theorem sd_add {F : pQ} {pos : Int → Prop} {a : Nat} {ax ay : Nat → Int32} {X Y : Int} (hX : -40 ≤ X ∧ X ≤ 40) (hY : -300 ≤ Y ∧ Y ≤ 300) (hp : pos X) (h : sdOK F pos a ax ay) : sdOK (adP F X Y) pos (a + 1) (upd ax a (iZ X)) (upd ay a (iZ Y)) := by
  have tX : (iZ X).toInt = X := iZ_toInt (by omega) (by omega)
  have tY : (iZ Y).toInt = Y := iZ_toInt (by omega) (by omega)
  refine ⟨fun j hj => ?_, fun X' Y' hf hp' => ?_⟩
  · by_cases c : j = a
    · subst c; rw [pk_us, pk_us, tX, tY]; exact ⟨Or.inr ⟨rfl, rfl⟩, hp⟩
    · rw [pk_un c, pk_un c]
      exact ⟨Or.inl (h.1 j (by omega)).1, (h.1 j (by omega)).2⟩
  · rcases hf with hf | ⟨rfl, rfl⟩
    · obtain ⟨j, j1, j2, j3⟩ := h.2 X' Y' hf hp'
      exact ⟨j, by omega, by rw [pk_un (by omega)]; exact j2, by rw [pk_un (by omega)]; exact j3⟩
    · exact ⟨a, by omega, by rw [pk_us, tX], by rw [pk_us, tY]⟩
theorem sd_no {F : pQ} {pos : Int → Prop} {a : Nat} {ax ay : Nat → Int32} {X Y : Int} (hp : ¬ pos X) (h : sdOK F pos a ax ay) : sdOK (adP F X Y) pos a ax ay := by
  refine ⟨fun j hj => ⟨Or.inl (h.1 j hj).1, (h.1 j hj).2⟩, fun X' Y' hf hp' => ?_⟩
  rcases hf with hf | ⟨rfl, rfl⟩
  · exact h.2 X' Y' hf hp'
  · exact absurd hp' hp
theorem ln_no {F : pQ} {X Y : Int} (hX : X ≠ 0) (p q : Int) : lnP F p q ↔ lnP (adP F X Y) p q := by
  unfold lnP adP
  constructor
  · rintro ⟨h1, h2⟩; exact ⟨Or.inl h1, h2⟩
  · rintro ⟨h1 | ⟨h1, -⟩, h2⟩
    · exact ⟨h1, h2⟩
    · exact absurd h1.symm hX
theorem ln_ad {F : pQ} {Y : Int} (p q : Int) : adP (lnP F) Y 1 p q ↔ lnP (adP F 0 Y) p q := by
  unfold lnP adP
  constructor
  · rintro (⟨h1, h2⟩ | ⟨h1, h2⟩)
    · exact ⟨Or.inl h1, h2⟩
    · exact ⟨Or.inr ⟨rfl, h1⟩, h2⟩
  · rintro ⟨h1 | ⟨-, h1⟩, h2⟩
    · exact Or.inl ⟨h1, h2⟩
    · exact Or.inr ⟨h1, h2⟩
theorem ln_mkB {F : pQ} (h : fB F) : mkB 300 1 (lnP F) := fun p q hp => by
  have := h 0 p hp.1
  have := hp.2
  omega
theorem c_add {F : pQ} {c : Nat} {X Y : Int} {S : zT} (hF : fB F) (hX : -40 ≤ X ∧ X ≤ 40) (hY : -300 ≤ Y ∧ Y ≤ 300) (hc : c < 8) (h : cS F c S) : ∃ S', fX4_add (iZ X) (iZ Y) S = some S' ∧ cS (adP F X Y) (c + 1) S' := by
  obtain ⟨a, b, h0, h1, h2, h3, h4, h5, h6⟩ := h
  have z0 : (0 : Int32) = iZ 0 := rfl
  unfold fX4_add
  by_cases c1 : X < 0
  · rw [if_neg (by rw [z0, iZ_le (by omega) (by omega) (by omega) (by omega)]; omega), h1, put_in (by omega) (by omega), zbv_s, zsi_n (k := 82 + 1) (k' := 81) _ _ (by omega), h1, put_in (by omega) (by omega), zbv_s, zlet_s]
    refine ⟨_, rfl, a + 1, b, by omega, ?_, ?_, ?_, ?_, ?_, ?_⟩
    · rw [zsi_k, pk_us, zsi_n (k := 84 + 1) (k' := 81) _ _ (by omega), zsi_n (k := 82 + 1) (k' := 81) _ _ (by omega), h1, nI_1]
    · rw [zsi_k, pk_un (by omega), zsi_n (k := 84 + 1) (k' := 81) _ _ (by omega), zsi_n (k := 82 + 1) (k' := 81) _ _ (by omega), h2]
    · rw [zsi_n (k := 81) (k' := 83) _ _ (by omega), zsi_n (k := 81) (k' := 85) _ _ (by omega), zsi_n (k := 84 + 1) (k' := 83) _ _ (by omega), zsi_k (k := 82 + 1), zsi_k (k := 84 + 1), zsi_n (k := 82 + 1) (k' := 84 + 1) _ _ (by omega)]
      exact sd_add hX hY c1 h3
    · rw [zsi_n (k := 81) (k' := 87) _ _ (by omega), zsi_n (k := 81) (k' := 89) _ _ (by omega), zsi_n (k := 84 + 1) (k' := 87) _ _ (by omega), zsi_n (k := 84 + 1) (k' := 89) _ _ (by omega), zsi_n (k := 82 + 1) (k' := 87) _ _ (by omega), zsi_n (k := 82 + 1) (k' := 89) _ _ (by omega)]
      exact sd_no (by omega) h4
    · exact rLo_cg (ln_no (by omega)) rfl h5
    · exact rHi_cg (ln_no (by omega)) rfl h6
  · rw [if_pos (by rw [z0, iZ_le (by omega) (by omega) (by omega) (by omega)]; omega)]
    by_cases c2 : 0 < X
    · rw [if_neg (by rw [z0, iZ_le (by omega) (by omega) (by omega) (by omega)]; omega), h2, put_in (by omega) (by omega), zbv_s, zsi_n (k := 86 + 1) (k' := 81) _ _ (by omega), h2, put_in (by omega) (by omega), zbv_s, zlet_s]
      refine ⟨_, rfl, a, b + 1, by omega, ?_, ?_, ?_, ?_, ?_, ?_⟩
      · rw [zsi_k, pk_un (by omega), zsi_n (k := 88 + 1) (k' := 81) _ _ (by omega), zsi_n (k := 86 + 1) (k' := 81) _ _ (by omega), h1]
      · rw [zsi_k, pk_us, zsi_n (k := 88 + 1) (k' := 81) _ _ (by omega), zsi_n (k := 86 + 1) (k' := 81) _ _ (by omega), h2, nI_1]
      · rw [zsi_n (k := 81) (k' := 83) _ _ (by omega), zsi_n (k := 81) (k' := 85) _ _ (by omega), zsi_n (k := 88 + 1) (k' := 83) _ _ (by omega), zsi_n (k := 88 + 1) (k' := 85) _ _ (by omega), zsi_n (k := 86 + 1) (k' := 83) _ _ (by omega), zsi_n (k := 86 + 1) (k' := 85) _ _ (by omega)]
        exact sd_no (by omega) h3
      · rw [zsi_n (k := 81) (k' := 87) _ _ (by omega), zsi_n (k := 81) (k' := 89) _ _ (by omega), zsi_n (k := 88 + 1) (k' := 87) _ _ (by omega), zsi_k (k := 86 + 1), zsi_k (k := 88 + 1), zsi_n (k := 86 + 1) (k' := 88 + 1) _ _ (by omega)]
        exact sd_add hX hY c2 h4
      · exact rLo_cg (ln_no (by omega)) rfl h5
      · exact rHi_cg (ln_no (by omega)) rfl h6
    · have : X = 0 := by omega
      subst this
      rw [if_pos (by rw [z0, iZ_le (by omega) (by omega) (by omega) (by omega)]; omega), iZ_long (by omega) (by omega)]
      obtain ⟨S1, e1, r1⟩ := c_lowerTo (B := 300) (C := 1) (q1 := 1) (by omega) (by omega) (by omega) (ln_mkB hF) hY (by omega) (by omega) (by omega) h5
      have fr1 := frX1_lowerTo e1
      obtain ⟨S2, e2, r2⟩ := c_raiseTo (B := 300) (C := 1) (q1 := 1) (S := S1) (b := 91) (by omega) (by omega) (by omega) (ln_mkB hF) hY (by omega) (by omega) (by omega) (rHi_cg (fun _ _ => Iff.rfl) (fr1.cell2 (by simp) (by omega)) h6)
      have fr2 := frX1_raiseTo e2
      have hh : ∀ k, 81 ≤ k → k < 90 → S2.1 k = S.1 k := fun k g1 g2 => (fr2.cell (by simp; omega) (by omega)).trans (fr1.cell (by simp; omega) (by omega))
      refine ⟨S2, ?_, a, b, by omega, by rw [hh 81 (by omega) (by omega), h1], by rw [hh 81 (by omega) (by omega), h2], ?_, ?_, rLo_cg ln_ad (fr2.cell2 (by simp) (by omega)) r1, rHi_cg ln_ad rfl r2⟩
      · refine (congrArg (fun o => zbv o _) e1).trans ?_
        rw [zbv_s]
        refine (congrArg (fun o => zbv o _) e2).trans ?_
        rw [zbv_s]
      · rw [hh 83 (by omega) (by omega), hh 85 (by omega) (by omega)]; exact sd_no (by omega) h3
      · rw [hh 87 (by omega) (by omega), hh 89 (by omega) (by omega)]; exact sd_no (by omega) h4
theorem c_empty (S : zT) : ∃ S', fX4_empty S = some S' ∧ cS (fun _ _ => False) 0 S' := by
  refine ⟨zsl (zsl (zsl (zsl (zsi (zsi S 81 4 0) 81 5 0) 90 0 0) 90 1 0) 91 0 0) 91 1 0, rfl, 0, 0, by omega, ?_, ?_, ⟨fun j hj => by omega, fun _ _ h => h.elim⟩, ⟨fun j hj => by omega, fun _ _ h => h.elim⟩, Or.inl ⟨fun p q h => h.1, ?_⟩, Or.inl ⟨fun p q h => h.1, ?_⟩⟩
  · simp [zsl_app1, zsi_app]; rfl
  · simp [zsl_app1, zsi_app]; rfl
  · simp [zsl_app]
  · simp [zsl_app]
