theorem dv_1 {p r : Nat} (hp : 0 < p) (h : (r + 1) % p = 0) : (r + 1) / p = r / p + 1 := by
  have e := Nat.div_add_mod (r + 1) p
  generalize (r + 1) / p = q at *
  have hq : 0 < q := by
    rcases Nat.eq_zero_or_pos q with g | g
    · rw [g, Nat.mul_zero] at e; omega
    · exact g
  obtain ⟨q, rfl⟩ : ∃ k, q = k + 1 := ⟨q - 1, by omega⟩
  have : r / p = q := by
    apply Nat.div_eq_of_lt_le
    · rw [Nat.mul_add] at e; rw [Nat.mul_comm]; omega
    · rw [Nat.succ_mul, Nat.mul_comm]; rw [Nat.mul_add] at e; omega
  omega
theorem dv_2 {p r : Nat} (hp : 0 < p) (h : (r + 1) % p ≠ 0) : (r + 1) / p = r / p := by
  have e := Nat.div_add_mod (r + 1) p
  have l := Nat.mod_lt (r + 1) hp
  generalize (r + 1) / p = q at *
  symm
  apply Nat.div_eq_of_lt_le
  · rw [Nat.mul_comm]; omega
  · rw [Nat.succ_mul, Nat.mul_comm]; omega
theorem md_1 {x N : Nat} (hN : 1 ≤ N) : (x + 1) % N = if x % N + 1 = N then 0 else x % N + 1 := by
  have l := Nat.mod_lt x (show 0 < N by omega)
  rw [← Nat.mod_add_mod]
  by_cases c : x % N + 1 = N
  · rw [if_pos c, c, Nat.mod_self]
  · rw [if_neg c, Nat.mod_eq_of_lt (by omega)]
theorem dv_3 {p r N : Nat} (hp : 0 < p) (hN : 1 ≤ N) (h : (r + 1) % p = 0) : (r + 1) % (p * N) = 0 ↔ r / p % N + 1 = N := by
  rw [Nat.mod_mul, h, Nat.zero_add, dv_1 hp h, md_1 hN]
  by_cases c : r / p % N + 1 = N
  · rw [if_pos c]; simp [c]
  · rw [if_neg c]
    refine ⟨fun g => ?_, fun g => absurd g c⟩
    rcases Nat.mul_eq_zero.mp g with g | g <;> omega
def dgt (N K r i : Nat) : Nat := if i = 0 then 0 else r / N ^ (K - 1 - i) % N
theorem dgt_lt {N K r i : Nat} (hN : 0 < N) : dgt N K r i < N := by
  unfold dgt
  by_cases c : i = 0
  · rw [if_pos c]; exact hN
  · rw [if_neg c]; exact Nat.mod_lt _ hN
def CR (w : Nat → Int32) (K N u r : Nat) (S : zT) : Prop := S.1 66 4 = nI u ∧ (∀ i, i < K → S.1 95 i = nI (dgt N K r i)) ∧ SO (rowO w K N u (dgt N K r)) K N S
def mo_d (N K r i : Nat) (j : Nat) : Nat := if i < j then dgt N K (r + 1) j else dgt N K r j
theorem c_goOn {w : Nat → Int32} {K n N u r : Nat} {S : zT} (hw : wfW w K n) (hN1 : 2 ≤ N) (hN : N ≤ 8) (hu : u < 2147483648) (hc : CR w K N u r S) : ∃ S', fX3_goOn S = some S' ∧ CR w K N u (r + 1) S' := by
  have hK := hw.1.2.2
  have hK2 := hw.1.2.1
  have pp : ∀ e, 0 < N ^ e := fun e => Nat.pow_pos (by omega)
  have key : ∀ (i fu : Nat) (S : zT), i < K → i + 1 < fu → S.1 66 4 = nI u → (∀ j, j < K → S.1 95 j = nI (mo_d N K r i j)) → SO (rowO w K N u (mo_d N K r i)) K N S → (r + 1) % N ^ (K - 1 - i) = 0 → ∃ S', zfix (fun _ _ _ => none) fX3_goOn_12 fu 1 (nI i) S = some S' ∧ CR w K N u (r + 1) S' := by
    intro i
    induction i with
    | zero =>
      intro fu S hi hf h1 h2 h3 h4
      obtain ⟨fu, rfl⟩ : ∃ g, fu = g + 1 := ⟨fu - 1, by omega⟩
      have e : mo_d N K r 0 = dgt N K (r + 1) := by
        funext j; unfold mo_d
        by_cases c : 0 < j
        · rw [if_pos c]
        · rw [if_neg c]; unfold dgt; rw [if_pos (by omega), if_pos (by omega)]
      rw [e] at h2 h3
      refine ⟨S, ?_, h1, h2, h3⟩
      rw [zfix_s]; unfold fX3_goOn_12
      rw [if_neg one_ne, if_pos (by decide)]
    | succ i ih =>
      intro fu S hi hf h1 h2 h3 h4
      obtain ⟨fu, rfl⟩ : ∃ g, fu = g + 1 := ⟨fu - 1, by omega⟩
      have hd : mo_d N K r (i + 1) (i + 1) = r / N ^ (K - 1 - (i + 1)) % N := by unfold mo_d dgt; rw [if_neg (by omega), if_neg (by omega)]
      have hd' : mo_d N K r i (i + 1) = (r + 1) / N ^ (K - 1 - (i + 1)) % N := by unfold mo_d dgt; rw [if_pos (by omega), if_neg (by omega)]
      have hdl : r / N ^ (K - 1 - (i + 1)) % N < N := Nat.mod_lt _ (by omega)
      have hpw : N ^ (K - 1 - i) = N ^ (K - 1 - (i + 1)) * N := by rw [← Nat.pow_succ, show (K - 1 - (i + 1)).succ = K - 1 - i by omega]
      have oth : ∀ j, j ≠ i + 1 → mo_d N K r i j = mo_d N K r (i + 1) j := fun j hj => by
        unfold mo_d
        by_cases c : i < j
        · rw [if_pos c, if_pos (by omega)]
        · rw [if_neg c, if_neg (by omega)]
      have v1 := dv_1 (pp (K - 1 - (i + 1))) h4
      have v3 := dv_3 (N := N) (pp (K - 1 - (i + 1))) (by omega) h4
      have nd : mo_d N K r i (i + 1) = if r / N ^ (K - 1 - (i + 1)) % N + 1 = N then 0 else r / N ^ (K - 1 - (i + 1)) % N + 1 := by rw [hd', v1, md_1 (by omega)]
      have ndl : mo_d N K r i (i + 1) < N := by rw [hd']; exact Nat.mod_lt _ (by omega)
      obtain ⟨Sp, hSp⟩ : ∃ Sp, Sp = zsi S 95 (i + 1) (nI (mo_d N K r i (i + 1))) := ⟨_, rfl⟩
      have p95 : ∀ j, j < K → Sp.1 95 j = nI (mo_d N K r i j) := fun j hj => by
        rw [hSp, zsi_k]
        by_cases c : j = i + 1
        · subst c; rw [pk_us]
        · rw [pk_un c, oth j c]; exact h2 j hj
      have p66 : Sp.1 66 4 = nI u := by rw [hSp, zsi_n _ _ (by omega)]; exact h1
      have sp : SO (rowO w K N u (mo_d N K r (i + 1))) K N Sp := SO_fr (fun k a b => by rw [hSp, zsi_n _ _ (by omega)]) h3
      obtain ⟨S1, S2, e1, e2, s2⟩ := c_leg1 (off' := mo_d N K r i) hw (by omega) hN hu hi oth ndl sp
      have fr1 := frX6_layLeg e1
      have fr2 := frX5_readLeg e2
      have q95 : S2.1 95 = Sp.1 95 := (fr2.cell (by simp) (by omega)).trans (fr1.cell (by simp) (by omega))
      have q66 : S2.1 66 = Sp.1 66 := (fr2.cell (by simp) (by omega)).trans (fr1.cell (by simp) (by omega))
      have step : ∀ (c : Int32) (k : Int32 → Int32 → zT → Option zT), fX3_goOn_62 k c (nI (i + 1)) (nI (mo_d N K r i (i + 1))) (nI (i + 1)) S = k c (nI i) S2 := by
        intro c k
        unfold fX3_goOn_62
        rw [put_in (by omega) (by omega), zbv_s, ← hSp, at_in (by omega) (by omega), zbi_s, p66, show Sp.1 (94 + 1) (i + 1) = nI (mo_d N K r i (i + 1)) from p95 (i + 1) hi, e1, zbv_s, e2, zbv_s, show nI (i + 1) + (-1) = nI i by
          rw [iZ_nI, iZ_nI, show (-1 : Int32) = iZ (-1) from rfl, iZ_add, show ((i + 1 : Nat) : Int) + -1 = (i : Int) by omega]]
      rw [zfix_s]
      have uf : ∀ k, fX3_goOn_12 k 1 (nI (i + 1)) S = (if (nI (r / N ^ (K - 1 - (i + 1)) % N) + 1) < nI N then (fX3_goOn_47 k) (nI (i + 1)) (nI (r / N ^ (K - 1 - (i + 1)) % N) + 1) 0 S else (fX3_goOn_47 k) (nI (i + 1)) (nI (r / N ^ (K - 1 - (i + 1)) % N) + 1) 1 S) := by
        intro k
        unfold fX3_goOn_12
        rw [if_neg one_ne, if_neg (nI_nle (by omega) (by omega)), at_in (by omega) (by omega), zbi_s, show S.1 (94 + 1) (i + 1) = nI (r / N ^ (K - 1 - (i + 1)) % N) by rw [← hd]; exact h2 (i + 1) hi, (SO_rC h3).1.2.2.2.2.2.2, show rowO w K N u (mo_d N K r (i + 1)) 6 = nI N by unfold rowO tk_w; rw [if_pos rfl]]
      rw [uf, nI_1]
      unfold fX3_goOn_47
      by_cases c : r / N ^ (K - 1 - (i + 1)) % N + 1 = N
      · rw [if_neg (nI_nlt (by omega) (by omega)), if_neg one_ne, show (0 : Int32) = nI (mo_d N K r i (i + 1)) by rw [nd, if_pos c]; rfl, step]
        exact ih fu S2 (by omega) (by omega) (by rw [q66]; exact p66) (fun j hj => by rw [q95]; exact p95 j hj) s2 (by rw [hpw]; exact v3.mpr c)
      · rw [if_pos (nI_lt (by omega) (by omega)), if_pos rfl, show r / N ^ (K - 1 - (i + 1)) % N + 1 = mo_d N K r i (i + 1) by rw [nd, if_neg c], step]
        obtain ⟨fu, rfl⟩ : ∃ g, fu = g + 1 := ⟨fu - 1, by omega⟩
        have e : mo_d N K r i = dgt N K (r + 1) := by
          funext j
          unfold mo_d
          by_cases cj : i < j
          · rw [if_pos cj]
          · rw [if_neg cj]
            unfold dgt
            by_cases c0 : j = 0
            · rw [if_pos c0, if_pos c0]
            · rw [if_neg c0, if_neg c0]
              have hpj : N ^ (K - 1 - j) = N ^ (K - 1 - i) * N ^ (i - j) := by rw [← Nat.pow_add, show K - 1 - i + (i - j) = K - 1 - j by omega]
              rw [dv_2 (pp _) ?_]
              intro g
              apply c
              apply v3.mp
              rw [← hpw]
              rw [hpj, Nat.mod_mul] at g
              exact (Nat.add_eq_zero_iff.mp g).1
        refine ⟨S2, ?_, by rw [q66]; exact p66, fun j hj => by rw [q95, ← e]; exact p95 j hj, by rw [← e]; exact s2⟩
        rw [zfix_s]; unfold fX3_goOn_12
        rw [if_pos rfl]
  obtain ⟨h1, h2, h3⟩ := hc
  have e : mo_d N K r (K - 1) = fun j => if K - 1 < j then dgt N K (r + 1) j else dgt N K r j := rfl
  have a1 : ∀ j, j < K → S.1 95 j = nI (mo_d N K r (K - 1) j) := fun j hj => by rw [h2 j hj]; unfold mo_d; rw [if_neg (by omega)]
  have a2 : rowO w K N u (dgt N K r) = rowO w K N u (mo_d N K r (K - 1)) := by
    unfold rowO
    have : rw_s K (dgt N K r) u N = rw_s K (mo_d N K r (K - 1)) u N := by
      funext t
      unfold rw_s
      rw [bs_congr 8 (fun j hj => ?_)]
      by_cases c : j < K
      · unfold bt_b mo_d; rw [if_neg (by omega)]
      · rw [decide_eq_false c]; rfl
    rw [this]
  rw [a2] at h3
  obtain ⟨S', e1, e2⟩ := key (K - 1) zF S (by omega) (by unfold zF; omega) h1 a1 h3 (by rw [Nat.sub_self, Nat.pow_zero, Nat.mod_one])
  refine ⟨S', ?_, e2⟩
  unfold fX3_goOn
  rw [(SO_rC h3).1.1, rowO_lo (by omega) (by omega), hw.1.1, show nI K - 1 = nI (K - 1) from pk_sub (b := 1) (by omega)]
  exact e1
