/-! ways: what they are -/
def isW (M : Nat) (ok : Nat → Prop) (nb : Nat → Nat → Prop) (f : Nat) (W : Nat → Nat → Prop) : Prop := (∀ s, W 0 s ↔ s = f) ∧ ∀ d s, W (d + 1) s ↔ (W d s ∨ (s < M ∧ ok s ∧ ∃ a, a < M ∧ W d a ∧ nb a s))
def Wd (M : Nat) (ok : Nat → Prop) (nb : Nat → Nat → Prop) (f : Nat) : Nat → Nat → Prop
  | 0, s => s = f
  | d + 1, s => Wd M ok nb f d s ∨ (s < M ∧ ok s ∧ ∃ a, a < M ∧ Wd M ok nb f d a ∧ nb a s)
theorem Wd_is (M : Nat) (ok : Nat → Prop) (nb : Nat → Nat → Prop) (f : Nat) : isW M ok nb f (Wd M ok nb f) := ⟨fun _ => Iff.rfl, fun _ _ => Iff.rfl⟩
def dst (W : Nat → Nat → Prop) (d s : Nat) : Prop := W d s ∧ ∀ e, e < d → ¬ W e s
theorem W_mono {M : Nat} {ok : Nat → Prop} {nb : Nat → Nat → Prop} {f : Nat} {W : Nat → Nat → Prop} (h : isW M ok nb f W) {d s : Nat} : ∀ {e : Nat}, d ≤ e → W d s → W e s
  | 0, hle, hw => by
    have : d = 0 := by omega
    subst this; exact hw
  | e + 1, hle, hw => by
    by_cases c : d = e + 1
    · subst c; exact hw
    · exact (h.2 e s).mpr (Or.inl (W_mono h (by omega) hw))
theorem dst_eq {W : Nat → Nat → Prop} {d e s : Nat} (h : dst W d s) (g : dst W e s) : d = e := by
  rcases Nat.lt_trichotomy d e with c | c | c
  · exact absurd h.1 (g.2 d c)
  · exact c
  · exact absurd g.1 (h.2 e c)
theorem dst_of {W : Nat → Nat → Prop} {d s : Nat} (h : W d s) : ∃ e, e ≤ d ∧ dst W e s := by
  obtain ⟨e, e1, e2⟩ := pk_least (fun e => W e s) ⟨d, h⟩
  refine ⟨e, ?_, e1, e2⟩
  by_cases c : e ≤ d
  · exact c
  · exact absurd h (e2 d (by omega))
theorem W_lt {M : Nat} {ok : Nat → Prop} {nb : Nat → Nat → Prop} {f : Nat} {W : Nat → Nat → Prop} (h : isW M ok nb f W) (hf : f < M) : ∀ d s, W d s → s < M
  | 0, s, g => by rw [(h.1 s).mp g]; exact hf
  | d + 1, s, g => by
    rcases (h.2 d s).mp g with g | g
    · exact W_lt h hf d s g
    · exact g.1
theorem W_sat {M : Nat} {ok : Nat → Prop} {nb : Nat → Nat → Prop} {f : Nat} {W : Nat → Nat → Prop} (h : isW M ok nb f W) {d : Nat} (hs : ∀ s, W (d + 1) s → W d s) : ∀ e s, W e s → W d s
  | 0, s, g => W_mono h (Nat.zero_le d) g
  | e + 1, s, g => by
    rcases (h.2 e s).mp g with g | ⟨g1, g2, a, a1, a2, a3⟩
    · exact W_sat h hs e s g
    · exact hs s ((h.2 d s).mpr (Or.inr ⟨g1, g2, a, a1, W_sat h hs e a a2, a3⟩))
theorem W_new {M : Nat} {ok : Nat → Prop} {nb : Nat → Nat → Prop} {f : Nat} {W : Nat → Nat → Prop} (h : isW M ok nb f W) {d s : Nat} (hn : ¬ W d s) : W (d + 1) s ↔ (s < M ∧ ok s ∧ ∃ a, a < M ∧ dst W d a ∧ nb a s) := by
  constructor
  · intro g
    rcases (h.2 d s).mp g with g | ⟨g1, g2, a, a1, a2, a3⟩
    · exact absurd g hn
    · refine ⟨g1, g2, a, a1, ⟨a2, fun e he ge => hn ?_⟩, a3⟩
      exact W_mono h (show e + 1 ≤ d by omega) ((h.2 e s).mpr (Or.inr ⟨g1, g2, a, a1, ge, a3⟩))
  · rintro ⟨g1, g2, a, a1, a2, a3⟩
    exact (h.2 d s).mpr (Or.inr ⟨g1, g2, a, a1, a2.1, a3⟩)
theorem cn_mn {p q : Nat → Prop} (h : ∀ s, p s → q s) : ∀ m, cn_r p m ≤ cn_r q m
  | 0 => Nat.le_refl _
  | m + 1 => by
    have ih := cn_mn h m
    by_cases c : p m
    · rw [cn_t c, cn_t (h m c)]; omega
    · rw [cn_f c]
      by_cases c2 : q m
      · rw [cn_t c2]; omega
      · rw [cn_f c2]; exact ih
theorem cn_st {p q : Nat → Prop} {s : Nat} (h : ∀ s, p s → q s) (h1 : q s) (h2 : ¬ p s) : ∀ m, s < m → cn_r p m < cn_r q m
  | 0, hs => by omega
  | m + 1, hs => by
    by_cases e : s = m
    · subst e
      have := cn_mn h s
      rw [cn_f h2, cn_t h1]; omega
    · have ih := cn_st h h1 h2 m (by omega)
      by_cases c : p m
      · rw [cn_t c, cn_t (h m c)]; omega
      · rw [cn_f c]
        by_cases c2 : q m
        · rw [cn_t c2]; omega
        · rw [cn_f c2]; exact ih
theorem cn_ad {p q : Nat → Prop} {s : Nat} (h : ∀ x, q x ↔ (p x ∨ x = s)) (h2 : ¬ p s) : ∀ m, cn_r q m = cn_r p m + (if s < m then 1 else 0)
  | 0 => by rw [if_neg (by omega)]; rfl
  | m + 1 => by
    have ih := cn_ad h h2 m
    by_cases e : m = s
    · subst e
      rw [if_neg (by omega)] at ih
      rw [cn_t ((h m).mpr (Or.inr rfl)), cn_f h2, ih, if_pos (by omega)]
    · have i2 : (if s < m + 1 then 1 else 0) = (if s < m then 1 else 0) := by
        by_cases c3 : s < m
        · rw [if_pos c3, if_pos (by omega)]
        · rw [if_neg c3, if_neg (by omega)]
      rw [i2]
      by_cases c : p m
      · rw [cn_t c, cn_t ((h m).mpr (Or.inl c)), ih]; omega
      · rw [cn_f c, cn_f (fun g => ((h m).mp g).elim c e), ih]
theorem cn_no {p : Nat → Prop} (h : ∀ s, ¬ p s) : ∀ m, cn_r p m = 0
  | 0 => rfl
  | m + 1 => by rw [cn_f (h m)]; exact cn_no h m
/-- what way() answers -/
def wvP (W : Nat → Nat → Prop) (t : Nat) (v : Int32) : Prop := (∃ d, dst W d t ∧ v = nI d) ∨ ((∀ d, ¬ W d t) ∧ v = -1)
noncomputable def wv_v (W : Nat → Nat → Prop) (t : Nat) : Int32 := Classical.epsilon (wvP W t)
theorem wv_un {W : Nat → Nat → Prop} {t : Nat} {v v' : Int32} (h : wvP W t v) (g : wvP W t v') : v = v' := by
  rcases h with ⟨d, h1, rfl⟩ | ⟨h1, rfl⟩
  · rcases g with ⟨e, g1, rfl⟩ | ⟨g1, rfl⟩
    · rw [dst_eq h1 g1]
    · exact absurd h1.1 (g1 d)
  · rcases g with ⟨e, g1, rfl⟩ | ⟨g1, rfl⟩
    · exact absurd g1.1 (h1 e)
    · rfl
theorem wv_eq {W : Nat → Nat → Prop} {t : Nat} {v : Int32} (h : wvP W t v) : v = wv_v W t := wv_un h (Classical.epsilon_spec (p := wvP W t) ⟨v, h⟩)
/-! how many legs change -/
def bcI (x : Int32) : Int32 := match fJ6_bitCount_0f7a4 x zZ with
  | some (r, _) => r
  | none => 0
theorem c_bc (x : Int32) (S : zT) : fJ6_bitCount_0f7a4 x S = some (bcI x, S) := rfl
def on_p : Nat → Int32 → Int32 → Option Int32
  | 0, _, _ => none
  | m + 1, c, x => if x = 0 then some c else on_p m (c + 1) (x &&& (x - 1))
theorem m_on {S : zT} : ∀ (m fu : Nat) (c x r : Int32), m ≤ fu → on_p m c x = some r → zfix (fun _ _ _ => none) fX8_ones_4 fu c x S = some (r, S) := by
  intro m
  induction m with
  | zero => intro fu c x r h1 h2; cases h2
  | succ m ih =>
    intro fu c x r h1 h2
    obtain ⟨fu, rfl⟩ : ∃ g, fu = g + 1 := ⟨fu - 1, by omega⟩
    rw [zfix_s]; unfold fX8_ones_4
    unfold on_p at h2
    by_cases c1 : x = 0
    · rw [if_pos c1] at h2 ⊢; cases h2; rfl
    · rw [if_neg c1] at h2 ⊢; exact ih fu _ _ r (by omega) h2
theorem on_fin : ∀ x, x < 256 → on_p 9 0 (nI x) = some (bcI (nI x)) := by decide +kernel
theorem m_ones {x : Nat} (hx : x < 256) (S : zT) : fX8_ones (nI x) S = some (bcI (nI x), S) := m_on 9 zF 0 (nI x) _ (by unfold zF; omega) (on_fin x hx)
theorem nI_xr (a b : Nat) : nI a ^^^ nI b = nI (a ^^^ b) := by
  apply Int32.toBitVec_inj.mp
  rw [Int32.toBitVec_xor]
  exact (BitVec.ofNat_xor).symm
theorem xr_lt {a b : Nat} (ha : a < 256) (hb : b < 256) : a ^^^ b < 256 := Nat.xor_lt_two_pow (n := 8) ha hb
def nbw (m a s : Nat) : Prop := ¬ (nI m < bcI (nI (a ^^^ s)))
