set_option maxRecDepth 100000 in
set_option maxHeartbeats 8000000 in
/-- THE LAW'S LOOP, over an invariant of the pure functions -/
theorem law_loop {p : Program} {l : Launch} {e : Env} {s : State} {m : MethodId} {below : List Frame} {meth : Method} {c : Code} {b L : Nat} {xs : Nat → Int32} (hL : L ≤ 3584) (hx : p.tables.exec = Jvm.exec) (hb : c.code = code) (hr : meth.sig.returnType = ret) (hml : c.maxLocals = 4) (hown : s.vm.findClass RL = some m.cls) (hU : ∀ w ∈ zU, w.before #[Value.ref b] s = true) (hlocks : meth.locks = false) {dC : Nat → ClassId} {dI : Nat → Nat → Nat} {cI : ClassId × ClassId} {cW : List zSh} (hW : zIs cI cW) {q : Nat → Nat} (hq : zI cW q) (hge : ∀ a, zA cW q a → s.heap.size ≤ a) (hK : va_K (dC, dI) vwCl (zty cI) s) (hN : zN s) {Hc : Heap} (hX : va_X b L xs s Hc) (hbl : b < Hc.size) (hbA : ¬ zA cW q b) (Inv : zT → Prop) (hall : zK_all Inv) :
    ∀ (n k : Nat) (S : zT) (H : Heap) (locs : List Loc) (ls : Array Slot), 7 * k ≤ L → L < 7 * (k + n) → Inv S → va_P (dC, dI) vwCl (zWd cI cW q S) H → va_S (zA cW q) Hc H locs → lv_has ls 4 [(0, .ref b), (1, .ref (q 0)), (2, .ref (q 101)), (3, .int (nI (7 * k)))] → W p l e room_1 s m #[Value.ref b] below meth c H locs 110 2314 (lw_Z below #[Value.ref b] s) (F0 m 18 ls []) := by
  obtain ⟨hk_walker, hk_leg, hk_middle, hk_pace, hk_gait, hk_tick, hk_regular, hk_about, hk_down, hk_foot, hk_stands, hk_walks, hk_why, hk_margin, hk_worst, hk_fastest, hk_many, hk_pick, hk_rank, hk_unlike, hk_best, hk_without, hk_loads, hk_way, hk_undo⟩ := hall
  intro n
  induction n with
  | zero => intro k S H locs ls h1 h2; omega
  | succ n ih =>
    intro k S H locs ls hk1 hk2 hI hP hS hl
    refine lv_iload_n hx hb dL_law_18 rfl (lv_at hl 3 rfl) ?_
    refine lv_aload_n hx hb dL_law_19 rfl (lv_at hl 0 rfl) ?_
    refine va_slen hx hb hX hbl hbA hS dL_law_20 ?_
    refine lv_bipush (v := 7) hx hb dL_law_21 rfl ?_
    refine lv_isub hx hb dL_law_23 ?_
    refine lv_icmp_gt (tgt := 953) hx hb dL_law_24 (by decide) (fun c9 => ?_) (fun c9 => ?_)
    · refine lv_iconst (v := 1) hx hb dL_law_953 rfl ?_
      refine va_forget (fun z hz => hge _ (hS.2.2 z hz)) ?_
      refine W.widen (k := 600000) (n := 7302250) (Nat.le_of_ble_eq_true rfl) (Nat.le_of_ble_eq_true rfl) ?_
      exact lw_ret hx hb hr hlocks dL_law_954
    · have hin := z_lawIn hL hk1 c9
      have hj0 : vp_in (nI (7 * k)) L := vp_in_nI (by omega) (by omega)
      have hj1 : vp_in (nI (7 * k) + 1) L := z_lawIx hL hin 1 (by omega)
      have hj2 : vp_in (nI (7 * k) + 2) L := z_lawIx hL hin 2 (by omega)
      have hj3 : vp_in (nI (7 * k) + 3) L := z_lawIx hL hin 3 (by omega)
      have hj4 : vp_in (nI (7 * k) + 4) L := z_lawIx hL hin 4 (by omega)
      have hj5 : vp_in (nI (7 * k) + 5) L := z_lawIx hL hin 5 (by omega)
      have hj6 : vp_in (nI (7 * k) + 6) L := z_lawIx hL hin 6 (by omega)
      have K947 : ∀ (S : zT) (H : Heap) (locs : List Loc), Inv S → va_P (dC, dI) vwCl (zWd cI cW q S) H → va_S (zA cW q) Hc H locs → W p l e room_1 s m #[Value.ref b] below meth c H locs 110 2314 (lw_Z below #[Value.ref b] s) (F0 m 947 ls []) := by
        intro S H locs hI hP hS
        refine lv_iinc (v := nI (7 * (k + 1))) (lv' := [(3, .int (nI (7 * (k + 1)))), (0, .ref b), (1, .ref (q 0)), (2, .ref (q 101))]) hx hb dL_law_947 hl (k := 3) rfl (show nI (7 * k) + nI 7 = nI (7 * (k + 1)) by rw [nI_add]; rfl) (by decide) rfl (fun ls hl => ?_)
        refine lv_goto (tgt := 18) hx hb dL_law_950 (by decide) ?_
        exact ih (k + 1) S H locs ls (by omega) (by omega) hI hP hS (lv_sub hl [1, 2, 3, 0] rfl)
      refine lv_aload_n hx hb dL_law_27 rfl (lv_at hl 0 rfl) ?_
      refine lv_iload_n hx hb dL_law_28 rfl (lv_at hl 3 rfl) ?_
      refine va_sld hx hb hX hbl hbA hS hj0 dL_law_29 ?_
      refine lv_bipush (v := 31) hx hb dL_law_30 rfl ?_
      refine lv_iand hx hb dL_law_32 ?_
      generalize (xs (nI (7 * k)).toNatClampNeg) &&& 31 = op
      by_cases cs0 : op = 0
      · refine z_tblIn (v := 0) (off := 115) (tgt := 148) hx hb dL_law_33 cs0 (by decide) (by decide) (by decide) (by decide) ?_
        obtain ⟨r, S1, S2, hF1, hF2, hI2⟩ := hk_walker (xs (nI (7 * k) + 1).toNatClampNeg) (xs (nI (7 * k) + 2).toNatClampNeg) S hI
        refine lv_aload_n hx hb dL_law_148 rfl (lv_at hl 1 rfl) ?_
        refine lv_aload_n hx hb dL_law_149 rfl (lv_at hl 0 rfl) ?_
        refine lv_iload_n hx hb dL_law_150 rfl (lv_at hl 3 rfl) ?_
        refine lv_iconst (v := 1) hx hb dL_law_151 rfl ?_
        refine lv_iadd hx hb dL_law_152 ?_
        refine va_sld hx hb hX hbl hbA hS hj1 dL_law_153 ?_
        refine lv_aload_n hx hb dL_law_154 rfl (lv_at hl 0 rfl) ?_
        refine lv_iload_n hx hb dL_law_155 rfl (lv_at hl 3 rfl) ?_
        refine lv_iconst (v := 2) hx hb dL_law_156 rfl ?_
        refine lv_iadd hx hb dL_law_157 ?_
        refine va_sld hx hb hX hbl hbA hS hj2 dL_law_158 ?_
        refine z_cV_i hx hb hml hown hU hK hN hP hS 2 (p_0 hW) rfl rfl (zU_V uL_L_13 uI_X7_walker uS_X7_walker uN_X7 uC_X7_walker) yd_X7_walker ⟨rfl, rfl⟩ ⟨(Nat.le_of_ble_eq_true rfl), (Nat.le_of_ble_eq_true rfl)⟩ (As := [.int (xs (nI (7 * k) + 1).toNatClampNeg), .int (xs (nI (7 * k) + 2).toNatClampNeg)]) hF1 (fun o h9 => ctX7_walker hq hW h9) rfl hl.1 rfl (Nat.le_of_ble_eq_true rfl) dL_law_159 ⟨(Nat.le_of_ble_eq_true rfl), (Nat.le_of_ble_eq_true rfl)⟩ (fun H locs hP hS => ?_)
        refine lv_aload_n hx hb dL_law_162 rfl (lv_at hl 2 rfl) ?_
        refine lv_aload_n hx hb dL_law_163 rfl (lv_at hl 0 rfl) ?_
        refine lv_iload_n hx hb dL_law_164 rfl (lv_at hl 3 rfl) ?_
        refine lv_iconst (v := 1) hx hb dL_law_165 rfl ?_
        refine lv_iadd hx hb dL_law_166 ?_
        refine va_sld hx hb hX hbl hbA hS hj1 dL_law_167 ?_
        refine lv_aload_n hx hb dL_law_168 rfl (lv_at hl 0 rfl) ?_
        refine lv_iload_n hx hb dL_law_169 rfl (lv_at hl 3 rfl) ?_
        refine lv_iconst (v := 2) hx hb dL_law_170 rfl ?_
        refine lv_iadd hx hb dL_law_171 ?_
        refine va_sld hx hb hX hbl hbA hS hj2 dL_law_172 ?_
        refine z_cV_i hx hb hml hown hU hK hN hP hS 2 (p_101 hW) rfl rfl (zU_V uL_L_17 uI_X8_walker uS_X8_walker uN_X8 uC_X8_walker) yd_X8_walker ⟨rfl, rfl⟩ ⟨(Nat.le_of_ble_eq_true rfl), (Nat.le_of_ble_eq_true rfl)⟩ (As := [.int (xs (nI (7 * k) + 1).toNatClampNeg), .int (xs (nI (7 * k) + 2).toNatClampNeg)]) hF2 (fun o h9 => ctX8_walker hq hW h9) rfl hl.1 rfl (Nat.le_of_ble_eq_true rfl) dL_law_173 ⟨(Nat.le_of_ble_eq_true rfl), (Nat.le_of_ble_eq_true rfl)⟩ (fun H locs hP hS => ?_)
        refine lv_icmp_eq (tgt := 947) hx hb dL_law_176 (by decide) (fun _ => ?_) (fun c9 => absurd rfl c9)
        exact K947 S2 _ _ hI2 hP hS
      by_cases cs1 : op = 1
      · refine z_tblIn (v := 1) (off := 148) (tgt := 181) hx hb dL_law_33 cs1 (by decide) (by decide) (by decide) (by decide) ?_
        obtain ⟨r, S1, S2, hF1, hF2, hI2⟩ := hk_leg (xs (nI (7 * k) + 1).toNatClampNeg) (xs (nI (7 * k) + 2).toNatClampNeg) (xs (nI (7 * k) + 3).toNatClampNeg) S hI
        refine lv_aload_n hx hb dL_law_181 rfl (lv_at hl 1 rfl) ?_
        refine lv_aload_n hx hb dL_law_182 rfl (lv_at hl 0 rfl) ?_
        refine lv_iload_n hx hb dL_law_183 rfl (lv_at hl 3 rfl) ?_
        refine lv_iconst (v := 1) hx hb dL_law_184 rfl ?_
        refine lv_iadd hx hb dL_law_185 ?_
        refine va_sld hx hb hX hbl hbA hS hj1 dL_law_186 ?_
        refine lv_aload_n hx hb dL_law_187 rfl (lv_at hl 0 rfl) ?_
        refine lv_iload_n hx hb dL_law_188 rfl (lv_at hl 3 rfl) ?_
        refine lv_iconst (v := 2) hx hb dL_law_189 rfl ?_
        refine lv_iadd hx hb dL_law_190 ?_
        refine va_sld hx hb hX hbl hbA hS hj2 dL_law_191 ?_
        refine lv_aload_n hx hb dL_law_192 rfl (lv_at hl 0 rfl) ?_
        refine lv_iload_n hx hb dL_law_193 rfl (lv_at hl 3 rfl) ?_
        refine lv_iconst (v := 3) hx hb dL_law_194 rfl ?_
        refine lv_iadd hx hb dL_law_195 ?_
        refine va_sld hx hb hX hbl hbA hS hj3 dL_law_196 ?_
        refine z_cV_i hx hb hml hown hU hK hN hP hS 3 (p_0 hW) rfl rfl (zU_V uL_L_18 uI_X7_leg uS_X7_leg uN_X7 uC_X7_leg) yd_X7_leg ⟨rfl, rfl⟩ ⟨(Nat.le_of_ble_eq_true rfl), (Nat.le_of_ble_eq_true rfl)⟩ (As := [.int (xs (nI (7 * k) + 1).toNatClampNeg), .int (xs (nI (7 * k) + 2).toNatClampNeg), .int (xs (nI (7 * k) + 3).toNatClampNeg)]) hF1 (fun o h9 => ctX7_leg hq hW h9) rfl hl.1 rfl (Nat.le_of_ble_eq_true rfl) dL_law_197 ⟨(Nat.le_of_ble_eq_true rfl), (Nat.le_of_ble_eq_true rfl)⟩ (fun H locs hP hS => ?_)
        refine lv_aload_n hx hb dL_law_200 rfl (lv_at hl 2 rfl) ?_
        refine lv_aload_n hx hb dL_law_201 rfl (lv_at hl 0 rfl) ?_
        refine lv_iload_n hx hb dL_law_202 rfl (lv_at hl 3 rfl) ?_
        refine lv_iconst (v := 1) hx hb dL_law_203 rfl ?_
        refine lv_iadd hx hb dL_law_204 ?_
        refine va_sld hx hb hX hbl hbA hS hj1 dL_law_205 ?_
        refine lv_aload_n hx hb dL_law_206 rfl (lv_at hl 0 rfl) ?_
        refine lv_iload_n hx hb dL_law_207 rfl (lv_at hl 3 rfl) ?_
        refine lv_iconst (v := 2) hx hb dL_law_208 rfl ?_
        refine lv_iadd hx hb dL_law_209 ?_
        refine va_sld hx hb hX hbl hbA hS hj2 dL_law_210 ?_
        refine lv_aload_n hx hb dL_law_211 rfl (lv_at hl 0 rfl) ?_
        refine lv_iload_n hx hb dL_law_212 rfl (lv_at hl 3 rfl) ?_
        refine lv_iconst (v := 3) hx hb dL_law_213 rfl ?_
        refine lv_iadd hx hb dL_law_214 ?_
        refine va_sld hx hb hX hbl hbA hS hj3 dL_law_215 ?_
        refine z_cV_i hx hb hml hown hU hK hN hP hS 3 (p_101 hW) rfl rfl (zU_V uL_L_22 uI_X8_leg uS_X8_leg uN_X8 uC_X8_leg) yd_X8_leg ⟨rfl, rfl⟩ ⟨(Nat.le_of_ble_eq_true rfl), (Nat.le_of_ble_eq_true rfl)⟩ (As := [.int (xs (nI (7 * k) + 1).toNatClampNeg), .int (xs (nI (7 * k) + 2).toNatClampNeg), .int (xs (nI (7 * k) + 3).toNatClampNeg)]) hF2 (fun o h9 => ctX8_leg hq hW h9) rfl hl.1 rfl (Nat.le_of_ble_eq_true rfl) dL_law_216 ⟨(Nat.le_of_ble_eq_true rfl), (Nat.le_of_ble_eq_true rfl)⟩ (fun H locs hP hS => ?_)
        refine lv_icmp_eq (tgt := 947) hx hb dL_law_219 (by decide) (fun _ => ?_) (fun c9 => absurd rfl c9)
        exact K947 S2 _ _ hI2 hP hS
      by_cases cs2 : op = 2
      · refine z_tblIn (v := 2) (off := 191) (tgt := 224) hx hb dL_law_33 cs2 (by decide) (by decide) (by decide) (by decide) ?_
        obtain ⟨r, S1, S2, hF1, hF2, hI2⟩ := hk_middle (xs (nI (7 * k) + 1).toNatClampNeg) (xs (nI (7 * k) + 2).toNatClampNeg) S hI
        refine lv_aload_n hx hb dL_law_224 rfl (lv_at hl 1 rfl) ?_
        refine lv_aload_n hx hb dL_law_225 rfl (lv_at hl 0 rfl) ?_
        refine lv_iload_n hx hb dL_law_226 rfl (lv_at hl 3 rfl) ?_
        refine lv_iconst (v := 1) hx hb dL_law_227 rfl ?_
        refine lv_iadd hx hb dL_law_228 ?_
        refine va_sld hx hb hX hbl hbA hS hj1 dL_law_229 ?_
        refine lv_aload_n hx hb dL_law_230 rfl (lv_at hl 0 rfl) ?_
        refine lv_iload_n hx hb dL_law_231 rfl (lv_at hl 3 rfl) ?_
        refine lv_iconst (v := 2) hx hb dL_law_232 rfl ?_
        refine lv_iadd hx hb dL_law_233 ?_
        refine va_sld hx hb hX hbl hbA hS hj2 dL_law_234 ?_
        refine z_cV_i hx hb hml hown hU hK hN hP hS 2 (p_0 hW) rfl rfl (zU_V uL_L_23 uI_X7_middle uS_X7_middle uN_X7 uC_X7_middle) yd_X7_middle ⟨rfl, rfl⟩ ⟨(Nat.le_of_ble_eq_true rfl), (Nat.le_of_ble_eq_true rfl)⟩ (As := [.int (xs (nI (7 * k) + 1).toNatClampNeg), .int (xs (nI (7 * k) + 2).toNatClampNeg)]) hF1 (fun o h9 => ctX7_middle hq hW h9) rfl hl.1 rfl (Nat.le_of_ble_eq_true rfl) dL_law_235 ⟨(Nat.le_of_ble_eq_true rfl), (Nat.le_of_ble_eq_true rfl)⟩ (fun H locs hP hS => ?_)
        refine lv_aload_n hx hb dL_law_238 rfl (lv_at hl 2 rfl) ?_
        refine lv_aload_n hx hb dL_law_239 rfl (lv_at hl 0 rfl) ?_
        refine lv_iload_n hx hb dL_law_240 rfl (lv_at hl 3 rfl) ?_
        refine lv_iconst (v := 1) hx hb dL_law_241 rfl ?_
        refine lv_iadd hx hb dL_law_242 ?_
        refine va_sld hx hb hX hbl hbA hS hj1 dL_law_243 ?_
        refine lv_aload_n hx hb dL_law_244 rfl (lv_at hl 0 rfl) ?_
        refine lv_iload_n hx hb dL_law_245 rfl (lv_at hl 3 rfl) ?_
        refine lv_iconst (v := 2) hx hb dL_law_246 rfl ?_
        refine lv_iadd hx hb dL_law_247 ?_
        refine va_sld hx hb hX hbl hbA hS hj2 dL_law_248 ?_
        refine z_cV_i hx hb hml hown hU hK hN hP hS 2 (p_101 hW) rfl rfl (zU_V uL_L_26 uI_X8_middle uS_X8_middle uN_X8 uC_X8_middle) yd_X8_middle ⟨rfl, rfl⟩ ⟨(Nat.le_of_ble_eq_true rfl), (Nat.le_of_ble_eq_true rfl)⟩ (As := [.int (xs (nI (7 * k) + 1).toNatClampNeg), .int (xs (nI (7 * k) + 2).toNatClampNeg)]) hF2 (fun o h9 => ctX8_middle hq hW h9) rfl hl.1 rfl (Nat.le_of_ble_eq_true rfl) dL_law_249 ⟨(Nat.le_of_ble_eq_true rfl), (Nat.le_of_ble_eq_true rfl)⟩ (fun H locs hP hS => ?_)
        refine lv_icmp_eq (tgt := 947) hx hb dL_law_252 (by decide) (fun _ => ?_) (fun c9 => absurd rfl c9)
        exact K947 S2 _ _ hI2 hP hS
      by_cases cs3 : op = 3
      · refine z_tblIn (v := 3) (off := 224) (tgt := 257) hx hb dL_law_33 cs3 (by decide) (by decide) (by decide) (by decide) ?_
        obtain ⟨r, S1, S2, hF1, hF2, hI2⟩ := hk_pace (xs (nI (7 * k) + 1).toNatClampNeg) (xs (nI (7 * k) + 2).toNatClampNeg) S hI
        refine lv_aload_n hx hb dL_law_257 rfl (lv_at hl 1 rfl) ?_
        refine lv_aload_n hx hb dL_law_258 rfl (lv_at hl 0 rfl) ?_
        refine lv_iload_n hx hb dL_law_259 rfl (lv_at hl 3 rfl) ?_
        refine lv_iconst (v := 1) hx hb dL_law_260 rfl ?_
        refine lv_iadd hx hb dL_law_261 ?_
        refine va_sld hx hb hX hbl hbA hS hj1 dL_law_262 ?_
        refine lv_aload_n hx hb dL_law_263 rfl (lv_at hl 0 rfl) ?_
        refine lv_iload_n hx hb dL_law_264 rfl (lv_at hl 3 rfl) ?_
        refine lv_iconst (v := 2) hx hb dL_law_265 rfl ?_
        refine lv_iadd hx hb dL_law_266 ?_
        refine va_sld hx hb hX hbl hbA hS hj2 dL_law_267 ?_
        refine z_cV_i hx hb hml hown hU hK hN hP hS 2 (p_0 hW) rfl rfl (zU_V uL_L_27 uI_X7_pace uS_X7_pace uN_X7 uC_X7_pace) yd_X7_pace ⟨rfl, rfl⟩ ⟨(Nat.le_of_ble_eq_true rfl), (Nat.le_of_ble_eq_true rfl)⟩ (As := [.int (xs (nI (7 * k) + 1).toNatClampNeg), .int (xs (nI (7 * k) + 2).toNatClampNeg)]) hF1 (fun o h9 => ctX7_pace hq hW h9) rfl hl.1 rfl (Nat.le_of_ble_eq_true rfl) dL_law_268 ⟨(Nat.le_of_ble_eq_true rfl), (Nat.le_of_ble_eq_true rfl)⟩ (fun H locs hP hS => ?_)
        refine lv_aload_n hx hb dL_law_271 rfl (lv_at hl 2 rfl) ?_
        refine lv_aload_n hx hb dL_law_272 rfl (lv_at hl 0 rfl) ?_
        refine lv_iload_n hx hb dL_law_273 rfl (lv_at hl 3 rfl) ?_
        refine lv_iconst (v := 1) hx hb dL_law_274 rfl ?_
        refine lv_iadd hx hb dL_law_275 ?_
        refine va_sld hx hb hX hbl hbA hS hj1 dL_law_276 ?_
        refine lv_aload_n hx hb dL_law_277 rfl (lv_at hl 0 rfl) ?_
        refine lv_iload_n hx hb dL_law_278 rfl (lv_at hl 3 rfl) ?_
        refine lv_iconst (v := 2) hx hb dL_law_279 rfl ?_
        refine lv_iadd hx hb dL_law_280 ?_
        refine va_sld hx hb hX hbl hbA hS hj2 dL_law_281 ?_
        refine z_cV_i hx hb hml hown hU hK hN hP hS 2 (p_101 hW) rfl rfl (zU_V uL_L_30 uI_X8_pace uS_X8_pace uN_X8 uC_X8_pace) yd_X8_pace ⟨rfl, rfl⟩ ⟨(Nat.le_of_ble_eq_true rfl), (Nat.le_of_ble_eq_true rfl)⟩ (As := [.int (xs (nI (7 * k) + 1).toNatClampNeg), .int (xs (nI (7 * k) + 2).toNatClampNeg)]) hF2 (fun o h9 => ctX8_pace hq hW h9) rfl hl.1 rfl (Nat.le_of_ble_eq_true rfl) dL_law_282 ⟨(Nat.le_of_ble_eq_true rfl), (Nat.le_of_ble_eq_true rfl)⟩ (fun H locs hP hS => ?_)
        refine lv_icmp_eq (tgt := 947) hx hb dL_law_285 (by decide) (fun _ => ?_) (fun c9 => absurd rfl c9)
        exact K947 S2 _ _ hI2 hP hS
      by_cases cs4 : op = 4
      · refine z_tblIn (v := 4) (off := 257) (tgt := 290) hx hb dL_law_33 cs4 (by decide) (by decide) (by decide) (by decide) ?_
        obtain ⟨r, S1, S2, hF1, hF2, hI2⟩ := hk_gait (xs (nI (7 * k) + 1).toNatClampNeg) (xs (nI (7 * k) + 2).toNatClampNeg) (xs (nI (7 * k) + 3).toNatClampNeg) (xs (nI (7 * k) + 4).toNatClampNeg) (xs (nI (7 * k) + 5).toNatClampNeg) (xs (nI (7 * k) + 6).toNatClampNeg) S hI
        refine lv_aload_n hx hb dL_law_290 rfl (lv_at hl 1 rfl) ?_
        refine lv_aload_n hx hb dL_law_291 rfl (lv_at hl 0 rfl) ?_
        refine lv_iload_n hx hb dL_law_292 rfl (lv_at hl 3 rfl) ?_
        refine lv_iconst (v := 1) hx hb dL_law_293 rfl ?_
        refine lv_iadd hx hb dL_law_294 ?_
        refine va_sld hx hb hX hbl hbA hS hj1 dL_law_295 ?_
        refine lv_aload_n hx hb dL_law_296 rfl (lv_at hl 0 rfl) ?_
        refine lv_iload_n hx hb dL_law_297 rfl (lv_at hl 3 rfl) ?_
        refine lv_iconst (v := 2) hx hb dL_law_298 rfl ?_
        refine lv_iadd hx hb dL_law_299 ?_
        refine va_sld hx hb hX hbl hbA hS hj2 dL_law_300 ?_
        refine lv_aload_n hx hb dL_law_301 rfl (lv_at hl 0 rfl) ?_
        refine lv_iload_n hx hb dL_law_302 rfl (lv_at hl 3 rfl) ?_
        refine lv_iconst (v := 3) hx hb dL_law_303 rfl ?_
        refine lv_iadd hx hb dL_law_304 ?_
        refine va_sld hx hb hX hbl hbA hS hj3 dL_law_305 ?_
        refine lv_aload_n hx hb dL_law_306 rfl (lv_at hl 0 rfl) ?_
        refine lv_iload_n hx hb dL_law_307 rfl (lv_at hl 3 rfl) ?_
        refine lv_iconst (v := 4) hx hb dL_law_308 rfl ?_
        refine lv_iadd hx hb dL_law_309 ?_
        refine va_sld hx hb hX hbl hbA hS hj4 dL_law_310 ?_
        refine lv_aload_n hx hb dL_law_311 rfl (lv_at hl 0 rfl) ?_
        refine lv_iload_n hx hb dL_law_312 rfl (lv_at hl 3 rfl) ?_
        refine lv_iconst (v := 5) hx hb dL_law_313 rfl ?_
        refine lv_iadd hx hb dL_law_314 ?_
        refine va_sld hx hb hX hbl hbA hS hj5 dL_law_315 ?_
        refine lv_aload_n hx hb dL_law_316 rfl (lv_at hl 0 rfl) ?_
        refine lv_iload_n hx hb dL_law_317 rfl (lv_at hl 3 rfl) ?_
        refine lv_bipush (v := 6) hx hb dL_law_318 rfl ?_
        refine lv_iadd hx hb dL_law_320 ?_
        refine va_sld hx hb hX hbl hbA hS hj6 dL_law_321 ?_
        refine z_cV_i hx hb hml hown hU hK hN hP hS 6 (p_0 hW) rfl rfl (zU_V uL_L_31 uI_X7_gait uS_X7_gait uN_X7 uC_X7_gait) yd_X7_gait ⟨rfl, rfl⟩ ⟨(Nat.le_of_ble_eq_true rfl), (Nat.le_of_ble_eq_true rfl)⟩ (As := [.int (xs (nI (7 * k) + 1).toNatClampNeg), .int (xs (nI (7 * k) + 2).toNatClampNeg), .int (xs (nI (7 * k) + 3).toNatClampNeg), .int (xs (nI (7 * k) + 4).toNatClampNeg), .int (xs (nI (7 * k) + 5).toNatClampNeg), .int (xs (nI (7 * k) + 6).toNatClampNeg)]) hF1 (fun o h9 => ctX7_gait hq hW h9) rfl hl.1 rfl (Nat.le_of_ble_eq_true rfl) dL_law_322 ⟨(Nat.le_of_ble_eq_true rfl), (Nat.le_of_ble_eq_true rfl)⟩ (fun H locs hP hS => ?_)
        refine lv_aload_n hx hb dL_law_325 rfl (lv_at hl 2 rfl) ?_
        refine lv_aload_n hx hb dL_law_326 rfl (lv_at hl 0 rfl) ?_
        refine lv_iload_n hx hb dL_law_327 rfl (lv_at hl 3 rfl) ?_
        refine lv_iconst (v := 1) hx hb dL_law_328 rfl ?_
        refine lv_iadd hx hb dL_law_329 ?_
        refine va_sld hx hb hX hbl hbA hS hj1 dL_law_330 ?_
        refine lv_aload_n hx hb dL_law_331 rfl (lv_at hl 0 rfl) ?_
        refine lv_iload_n hx hb dL_law_332 rfl (lv_at hl 3 rfl) ?_
        refine lv_iconst (v := 2) hx hb dL_law_333 rfl ?_
        refine lv_iadd hx hb dL_law_334 ?_
        refine va_sld hx hb hX hbl hbA hS hj2 dL_law_335 ?_
        refine lv_aload_n hx hb dL_law_336 rfl (lv_at hl 0 rfl) ?_
        refine lv_iload_n hx hb dL_law_337 rfl (lv_at hl 3 rfl) ?_
        refine lv_iconst (v := 3) hx hb dL_law_338 rfl ?_
        refine lv_iadd hx hb dL_law_339 ?_
        refine va_sld hx hb hX hbl hbA hS hj3 dL_law_340 ?_
        refine lv_aload_n hx hb dL_law_341 rfl (lv_at hl 0 rfl) ?_
        refine lv_iload_n hx hb dL_law_342 rfl (lv_at hl 3 rfl) ?_
        refine lv_iconst (v := 4) hx hb dL_law_343 rfl ?_
        refine lv_iadd hx hb dL_law_344 ?_
        refine va_sld hx hb hX hbl hbA hS hj4 dL_law_345 ?_
        refine lv_aload_n hx hb dL_law_346 rfl (lv_at hl 0 rfl) ?_
        refine lv_iload_n hx hb dL_law_347 rfl (lv_at hl 3 rfl) ?_
        refine lv_iconst (v := 5) hx hb dL_law_348 rfl ?_
        refine lv_iadd hx hb dL_law_349 ?_
        refine va_sld hx hb hX hbl hbA hS hj5 dL_law_350 ?_
        refine lv_aload_n hx hb dL_law_351 rfl (lv_at hl 0 rfl) ?_
        refine lv_iload_n hx hb dL_law_352 rfl (lv_at hl 3 rfl) ?_
        refine lv_bipush (v := 6) hx hb dL_law_353 rfl ?_
        refine lv_iadd hx hb dL_law_355 ?_
        refine va_sld hx hb hX hbl hbA hS hj6 dL_law_356 ?_
        refine z_cV_i hx hb hml hown hU hK hN hP hS 6 (p_101 hW) rfl rfl (zU_V uL_L_35 uI_X8_gait uS_X8_gait uN_X8 uC_X8_gait) yd_X8_gait ⟨rfl, rfl⟩ ⟨(Nat.le_of_ble_eq_true rfl), (Nat.le_of_ble_eq_true rfl)⟩ (As := [.int (xs (nI (7 * k) + 1).toNatClampNeg), .int (xs (nI (7 * k) + 2).toNatClampNeg), .int (xs (nI (7 * k) + 3).toNatClampNeg), .int (xs (nI (7 * k) + 4).toNatClampNeg), .int (xs (nI (7 * k) + 5).toNatClampNeg), .int (xs (nI (7 * k) + 6).toNatClampNeg)]) hF2 (fun o h9 => ctX8_gait hq hW h9) rfl hl.1 rfl (Nat.le_of_ble_eq_true rfl) dL_law_357 ⟨(Nat.le_of_ble_eq_true rfl), (Nat.le_of_ble_eq_true rfl)⟩ (fun H locs hP hS => ?_)
        refine lv_icmp_eq (tgt := 947) hx hb dL_law_360 (by decide) (fun _ => ?_) (fun c9 => absurd rfl c9)
        exact K947 S2 _ _ hI2 hP hS
      by_cases cs5 : op = 5
      · refine z_tblIn (v := 5) (off := 332) (tgt := 365) hx hb dL_law_33 cs5 (by decide) (by decide) (by decide) (by decide) ?_
        obtain ⟨r, S1, S2, hF1, hF2, hI2⟩ := hk_tick (xs (nI (7 * k) + 1).toNatClampNeg) (xs (nI (7 * k) + 2).toNatClampNeg) S hI
        refine lv_aload_n hx hb dL_law_365 rfl (lv_at hl 1 rfl) ?_
        refine lv_aload_n hx hb dL_law_366 rfl (lv_at hl 0 rfl) ?_
        refine lv_iload_n hx hb dL_law_367 rfl (lv_at hl 3 rfl) ?_
        refine lv_iconst (v := 1) hx hb dL_law_368 rfl ?_
        refine lv_iadd hx hb dL_law_369 ?_
        refine va_sld hx hb hX hbl hbA hS hj1 dL_law_370 ?_
        refine lv_aload_n hx hb dL_law_371 rfl (lv_at hl 0 rfl) ?_
        refine lv_iload_n hx hb dL_law_372 rfl (lv_at hl 3 rfl) ?_
        refine lv_iconst (v := 2) hx hb dL_law_373 rfl ?_
        refine lv_iadd hx hb dL_law_374 ?_
        refine va_sld hx hb hX hbl hbA hS hj2 dL_law_375 ?_
        refine z_cV_i hx hb hml hown hU hK hN hP hS 2 (p_0 hW) rfl rfl (zU_V uL_L_36 uI_X7_tick uS_X7_tick uN_X7 uC_X7_tick) yd_X7_tick ⟨rfl, rfl⟩ ⟨(Nat.le_of_ble_eq_true rfl), (Nat.le_of_ble_eq_true rfl)⟩ (As := [.int (xs (nI (7 * k) + 1).toNatClampNeg), .int (xs (nI (7 * k) + 2).toNatClampNeg)]) hF1 (fun o h9 => ctX7_tick hq hW h9) rfl hl.1 rfl (Nat.le_of_ble_eq_true rfl) dL_law_376 ⟨(Nat.le_of_ble_eq_true rfl), (Nat.le_of_ble_eq_true rfl)⟩ (fun H locs hP hS => ?_)
        refine lv_aload_n hx hb dL_law_379 rfl (lv_at hl 2 rfl) ?_
        refine lv_aload_n hx hb dL_law_380 rfl (lv_at hl 0 rfl) ?_
        refine lv_iload_n hx hb dL_law_381 rfl (lv_at hl 3 rfl) ?_
        refine lv_iconst (v := 1) hx hb dL_law_382 rfl ?_
        refine lv_iadd hx hb dL_law_383 ?_
        refine va_sld hx hb hX hbl hbA hS hj1 dL_law_384 ?_
        refine lv_aload_n hx hb dL_law_385 rfl (lv_at hl 0 rfl) ?_
        refine lv_iload_n hx hb dL_law_386 rfl (lv_at hl 3 rfl) ?_
        refine lv_iconst (v := 2) hx hb dL_law_387 rfl ?_
        refine lv_iadd hx hb dL_law_388 ?_
        refine va_sld hx hb hX hbl hbA hS hj2 dL_law_389 ?_
        refine z_cV_i hx hb hml hown hU hK hN hP hS 2 (p_101 hW) rfl rfl (zU_V uL_L_39 uI_X8_tick uS_X8_tick uN_X8 uC_X8_tick) yd_X8_tick ⟨rfl, rfl⟩ ⟨(Nat.le_of_ble_eq_true rfl), (Nat.le_of_ble_eq_true rfl)⟩ (As := [.int (xs (nI (7 * k) + 1).toNatClampNeg), .int (xs (nI (7 * k) + 2).toNatClampNeg)]) hF2 (fun o h9 => ctX8_tick hq hW h9) rfl hl.1 rfl (Nat.le_of_ble_eq_true rfl) dL_law_390 ⟨(Nat.le_of_ble_eq_true rfl), (Nat.le_of_ble_eq_true rfl)⟩ (fun H locs hP hS => ?_)
        refine lv_icmp_eq (tgt := 947) hx hb dL_law_393 (by decide) (fun _ => ?_) (fun c9 => absurd rfl c9)
        exact K947 S2 _ _ hI2 hP hS
      by_cases cs6 : op = 6
      · refine z_tblIn (v := 6) (off := 365) (tgt := 398) hx hb dL_law_33 cs6 (by decide) (by decide) (by decide) (by decide) ?_
        obtain ⟨r, S1, S2, hF1, hF2, hI2⟩ := hk_regular (xs (nI (7 * k) + 1).toNatClampNeg) (xs (nI (7 * k) + 2).toNatClampNeg) (xs (nI (7 * k) + 3).toNatClampNeg) S hI
        refine lv_aload_n hx hb dL_law_398 rfl (lv_at hl 1 rfl) ?_
        refine lv_aload_n hx hb dL_law_399 rfl (lv_at hl 0 rfl) ?_
        refine lv_iload_n hx hb dL_law_400 rfl (lv_at hl 3 rfl) ?_
        refine lv_iconst (v := 1) hx hb dL_law_401 rfl ?_
        refine lv_iadd hx hb dL_law_402 ?_
        refine va_sld hx hb hX hbl hbA hS hj1 dL_law_403 ?_
        refine lv_aload_n hx hb dL_law_404 rfl (lv_at hl 0 rfl) ?_
        refine lv_iload_n hx hb dL_law_405 rfl (lv_at hl 3 rfl) ?_
        refine lv_iconst (v := 2) hx hb dL_law_406 rfl ?_
        refine lv_iadd hx hb dL_law_407 ?_
        refine va_sld hx hb hX hbl hbA hS hj2 dL_law_408 ?_
        refine lv_aload_n hx hb dL_law_409 rfl (lv_at hl 0 rfl) ?_
        refine lv_iload_n hx hb dL_law_410 rfl (lv_at hl 3 rfl) ?_
        refine lv_iconst (v := 3) hx hb dL_law_411 rfl ?_
        refine lv_iadd hx hb dL_law_412 ?_
        refine va_sld hx hb hX hbl hbA hS hj3 dL_law_413 ?_
        refine z_cV_i hx hb hml hown hU hK hN hP hS 3 (p_0 hW) rfl rfl (zU_V uL_L_40 uI_X7_regular uS_X7_regular uN_X7 uC_X7_regular) yd_X7_regular ⟨rfl, rfl⟩ ⟨(Nat.le_of_ble_eq_true rfl), (Nat.le_of_ble_eq_true rfl)⟩ (As := [.int (xs (nI (7 * k) + 1).toNatClampNeg), .int (xs (nI (7 * k) + 2).toNatClampNeg), .int (xs (nI (7 * k) + 3).toNatClampNeg)]) hF1 (fun o h9 => ctX7_regular hq hW h9) rfl hl.1 rfl (Nat.le_of_ble_eq_true rfl) dL_law_414 ⟨(Nat.le_of_ble_eq_true rfl), (Nat.le_of_ble_eq_true rfl)⟩ (fun H locs hP hS => ?_)
        refine lv_aload_n hx hb dL_law_417 rfl (lv_at hl 2 rfl) ?_
        refine lv_aload_n hx hb dL_law_418 rfl (lv_at hl 0 rfl) ?_
        refine lv_iload_n hx hb dL_law_419 rfl (lv_at hl 3 rfl) ?_
        refine lv_iconst (v := 1) hx hb dL_law_420 rfl ?_
        refine lv_iadd hx hb dL_law_421 ?_
        refine va_sld hx hb hX hbl hbA hS hj1 dL_law_422 ?_
        refine lv_aload_n hx hb dL_law_423 rfl (lv_at hl 0 rfl) ?_
        refine lv_iload_n hx hb dL_law_424 rfl (lv_at hl 3 rfl) ?_
        refine lv_iconst (v := 2) hx hb dL_law_425 rfl ?_
        refine lv_iadd hx hb dL_law_426 ?_
        refine va_sld hx hb hX hbl hbA hS hj2 dL_law_427 ?_
        refine lv_aload_n hx hb dL_law_428 rfl (lv_at hl 0 rfl) ?_
        refine lv_iload_n hx hb dL_law_429 rfl (lv_at hl 3 rfl) ?_
        refine lv_iconst (v := 3) hx hb dL_law_430 rfl ?_
        refine lv_iadd hx hb dL_law_431 ?_
        refine va_sld hx hb hX hbl hbA hS hj3 dL_law_432 ?_
        refine z_cV_i hx hb hml hown hU hK hN hP hS 3 (p_101 hW) rfl rfl (zU_V uL_L_43 uI_X8_regular uS_X8_regular uN_X8 uC_X8_regular) yd_X8_regular ⟨rfl, rfl⟩ ⟨(Nat.le_of_ble_eq_true rfl), (Nat.le_of_ble_eq_true rfl)⟩ (As := [.int (xs (nI (7 * k) + 1).toNatClampNeg), .int (xs (nI (7 * k) + 2).toNatClampNeg), .int (xs (nI (7 * k) + 3).toNatClampNeg)]) hF2 (fun o h9 => ctX8_regular hq hW h9) rfl hl.1 rfl (Nat.le_of_ble_eq_true rfl) dL_law_433 ⟨(Nat.le_of_ble_eq_true rfl), (Nat.le_of_ble_eq_true rfl)⟩ (fun H locs hP hS => ?_)
        refine lv_icmp_eq (tgt := 947) hx hb dL_law_436 (by decide) (fun _ => ?_) (fun c9 => absurd rfl c9)
        exact K947 S2 _ _ hI2 hP hS
      by_cases cs7 : op = 7
      · refine z_tblIn (v := 7) (off := 408) (tgt := 441) hx hb dL_law_33 cs7 (by decide) (by decide) (by decide) (by decide) ?_
        obtain ⟨r, S1, S2, hF1, hF2, hI2⟩ := hk_about (xs (nI (7 * k) + 1).toNatClampNeg) S hI
        refine lv_aload_n hx hb dL_law_441 rfl (lv_at hl 1 rfl) ?_
        refine lv_aload_n hx hb dL_law_442 rfl (lv_at hl 0 rfl) ?_
        refine lv_iload_n hx hb dL_law_443 rfl (lv_at hl 3 rfl) ?_
        refine lv_iconst (v := 1) hx hb dL_law_444 rfl ?_
        refine lv_iadd hx hb dL_law_445 ?_
        refine va_sld hx hb hX hbl hbA hS hj1 dL_law_446 ?_
        refine z_cV_i hx hb hml hown hU hK hN hP hS 1 (p_0 hW) rfl rfl (zU_V uL_L_44 uI_X7_about uS_X7_about uN_X7 uC_X7_about) yd_X7_about ⟨rfl, rfl⟩ ⟨(Nat.le_of_ble_eq_true rfl), (Nat.le_of_ble_eq_true rfl)⟩ (As := [.int (xs (nI (7 * k) + 1).toNatClampNeg)]) hF1 (fun o h9 => ctX7_about hq hW h9) rfl hl.1 rfl (Nat.le_of_ble_eq_true rfl) dL_law_447 ⟨(Nat.le_of_ble_eq_true rfl), (Nat.le_of_ble_eq_true rfl)⟩ (fun H locs hP hS => ?_)
        refine lv_aload_n hx hb dL_law_450 rfl (lv_at hl 2 rfl) ?_
        refine lv_aload_n hx hb dL_law_451 rfl (lv_at hl 0 rfl) ?_
        refine lv_iload_n hx hb dL_law_452 rfl (lv_at hl 3 rfl) ?_
        refine lv_iconst (v := 1) hx hb dL_law_453 rfl ?_
        refine lv_iadd hx hb dL_law_454 ?_
        refine va_sld hx hb hX hbl hbA hS hj1 dL_law_455 ?_
        refine z_cV_i hx hb hml hown hU hK hN hP hS 1 (p_101 hW) rfl rfl (zU_V uL_L_48 uI_X8_about uS_X8_about uN_X8 uC_X8_about) yd_X8_about ⟨rfl, rfl⟩ ⟨(Nat.le_of_ble_eq_true rfl), (Nat.le_of_ble_eq_true rfl)⟩ (As := [.int (xs (nI (7 * k) + 1).toNatClampNeg)]) hF2 (fun o h9 => ctX8_about hq hW h9) rfl hl.1 rfl (Nat.le_of_ble_eq_true rfl) dL_law_456 ⟨(Nat.le_of_ble_eq_true rfl), (Nat.le_of_ble_eq_true rfl)⟩ (fun H locs hP hS => ?_)
        refine lv_icmp_eq (tgt := 947) hx hb dL_law_459 (by decide) (fun _ => ?_) (fun c9 => absurd rfl c9)
        exact K947 S2 _ _ hI2 hP hS
      by_cases cs8 : op = 8
      · refine z_tblIn (v := 8) (off := 431) (tgt := 464) hx hb dL_law_33 cs8 (by decide) (by decide) (by decide) (by decide) ?_
        obtain ⟨r, S1, S2, hF1, hF2, hI2⟩ := hk_down (xs (nI (7 * k) + 1).toNatClampNeg) S hI
        refine lv_aload_n hx hb dL_law_464 rfl (lv_at hl 1 rfl) ?_
        refine lv_aload_n hx hb dL_law_465 rfl (lv_at hl 0 rfl) ?_
        refine lv_iload_n hx hb dL_law_466 rfl (lv_at hl 3 rfl) ?_
        refine lv_iconst (v := 1) hx hb dL_law_467 rfl ?_
        refine lv_iadd hx hb dL_law_468 ?_
        refine va_sld hx hb hX hbl hbA hS hj1 dL_law_469 ?_
        refine z_cV_i hx hb hml hown hU hK hN hP hS 1 (p_0 hW) rfl rfl (zU_V uL_L_49 uI_X7_down uS_X7_down uN_X7 uC_X7_down) yd_X7_down ⟨rfl, rfl⟩ ⟨(Nat.le_of_ble_eq_true rfl), (Nat.le_of_ble_eq_true rfl)⟩ (As := [.int (xs (nI (7 * k) + 1).toNatClampNeg)]) hF1 (fun o h9 => ctX7_down hq hW h9) rfl hl.1 rfl (Nat.le_of_ble_eq_true rfl) dL_law_470 ⟨(Nat.le_of_ble_eq_true rfl), (Nat.le_of_ble_eq_true rfl)⟩ (fun H locs hP hS => ?_)
        refine lv_aload_n hx hb dL_law_473 rfl (lv_at hl 2 rfl) ?_
        refine lv_aload_n hx hb dL_law_474 rfl (lv_at hl 0 rfl) ?_
        refine lv_iload_n hx hb dL_law_475 rfl (lv_at hl 3 rfl) ?_
        refine lv_iconst (v := 1) hx hb dL_law_476 rfl ?_
        refine lv_iadd hx hb dL_law_477 ?_
        refine va_sld hx hb hX hbl hbA hS hj1 dL_law_478 ?_
        refine z_cV_i hx hb hml hown hU hK hN hP hS 1 (p_101 hW) rfl rfl (zU_V uL_L_52 uI_X8_down uS_X8_down uN_X8 uC_X8_down) yd_X8_down ⟨rfl, rfl⟩ ⟨(Nat.le_of_ble_eq_true rfl), (Nat.le_of_ble_eq_true rfl)⟩ (As := [.int (xs (nI (7 * k) + 1).toNatClampNeg)]) hF2 (fun o h9 => ctX8_down hq hW h9) rfl hl.1 rfl (Nat.le_of_ble_eq_true rfl) dL_law_479 ⟨(Nat.le_of_ble_eq_true rfl), (Nat.le_of_ble_eq_true rfl)⟩ (fun H locs hP hS => ?_)
        refine lv_icmp_eq (tgt := 947) hx hb dL_law_482 (by decide) (fun _ => ?_) (fun c9 => absurd rfl c9)
        exact K947 S2 _ _ hI2 hP hS
      by_cases cs9 : op = 9
      · refine z_tblIn (v := 9) (off := 454) (tgt := 487) hx hb dL_law_33 cs9 (by decide) (by decide) (by decide) (by decide) ?_
        obtain ⟨r, S1, S2, hF1, hF2, hI2⟩ := hk_foot (xs (nI (7 * k) + 1).toNatClampNeg) (xs (nI (7 * k) + 2).toNatClampNeg) (xs (nI (7 * k) + 3).toNatClampNeg) S hI
        refine lv_aload_n hx hb dL_law_487 rfl (lv_at hl 1 rfl) ?_
        refine lv_aload_n hx hb dL_law_488 rfl (lv_at hl 0 rfl) ?_
        refine lv_iload_n hx hb dL_law_489 rfl (lv_at hl 3 rfl) ?_
        refine lv_iconst (v := 1) hx hb dL_law_490 rfl ?_
        refine lv_iadd hx hb dL_law_491 ?_
        refine va_sld hx hb hX hbl hbA hS hj1 dL_law_492 ?_
        refine lv_aload_n hx hb dL_law_493 rfl (lv_at hl 0 rfl) ?_
        refine lv_iload_n hx hb dL_law_494 rfl (lv_at hl 3 rfl) ?_
        refine lv_iconst (v := 2) hx hb dL_law_495 rfl ?_
        refine lv_iadd hx hb dL_law_496 ?_
        refine va_sld hx hb hX hbl hbA hS hj2 dL_law_497 ?_
        refine lv_aload_n hx hb dL_law_498 rfl (lv_at hl 0 rfl) ?_
        refine lv_iload_n hx hb dL_law_499 rfl (lv_at hl 3 rfl) ?_
        refine lv_iconst (v := 3) hx hb dL_law_500 rfl ?_
        refine lv_iadd hx hb dL_law_501 ?_
        refine va_sld hx hb hX hbl hbA hS hj3 dL_law_502 ?_
        refine z_cV_i hx hb hml hown hU hK hN hP hS 3 (p_0 hW) rfl rfl (zU_V uL_L_53 uI_X7_foot uS_X7_foot uN_X7 uC_X7_foot) yd_X7_foot ⟨rfl, rfl⟩ ⟨(Nat.le_of_ble_eq_true rfl), (Nat.le_of_ble_eq_true rfl)⟩ (As := [.int (xs (nI (7 * k) + 1).toNatClampNeg), .int (xs (nI (7 * k) + 2).toNatClampNeg), .int (xs (nI (7 * k) + 3).toNatClampNeg)]) hF1 (fun o h9 => ctX7_foot hq hW h9) rfl hl.1 rfl (Nat.le_of_ble_eq_true rfl) dL_law_503 ⟨(Nat.le_of_ble_eq_true rfl), (Nat.le_of_ble_eq_true rfl)⟩ (fun H locs hP hS => ?_)
        refine lv_aload_n hx hb dL_law_506 rfl (lv_at hl 2 rfl) ?_
        refine lv_aload_n hx hb dL_law_507 rfl (lv_at hl 0 rfl) ?_
        refine lv_iload_n hx hb dL_law_508 rfl (lv_at hl 3 rfl) ?_
        refine lv_iconst (v := 1) hx hb dL_law_509 rfl ?_
        refine lv_iadd hx hb dL_law_510 ?_
        refine va_sld hx hb hX hbl hbA hS hj1 dL_law_511 ?_
        refine lv_aload_n hx hb dL_law_512 rfl (lv_at hl 0 rfl) ?_
        refine lv_iload_n hx hb dL_law_513 rfl (lv_at hl 3 rfl) ?_
        refine lv_iconst (v := 2) hx hb dL_law_514 rfl ?_
        refine lv_iadd hx hb dL_law_515 ?_
        refine va_sld hx hb hX hbl hbA hS hj2 dL_law_516 ?_
        refine lv_aload_n hx hb dL_law_517 rfl (lv_at hl 0 rfl) ?_
        refine lv_iload_n hx hb dL_law_518 rfl (lv_at hl 3 rfl) ?_
        refine lv_iconst (v := 3) hx hb dL_law_519 rfl ?_
        refine lv_iadd hx hb dL_law_520 ?_
        refine va_sld hx hb hX hbl hbA hS hj3 dL_law_521 ?_
        refine z_cV_i hx hb hml hown hU hK hN hP hS 3 (p_101 hW) rfl rfl (zU_V uL_L_57 uI_X8_foot uS_X8_foot uN_X8 uC_X8_foot) yd_X8_foot ⟨rfl, rfl⟩ ⟨(Nat.le_of_ble_eq_true rfl), (Nat.le_of_ble_eq_true rfl)⟩ (As := [.int (xs (nI (7 * k) + 1).toNatClampNeg), .int (xs (nI (7 * k) + 2).toNatClampNeg), .int (xs (nI (7 * k) + 3).toNatClampNeg)]) hF2 (fun o h9 => ctX8_foot hq hW h9) rfl hl.1 rfl (Nat.le_of_ble_eq_true rfl) dL_law_522 ⟨(Nat.le_of_ble_eq_true rfl), (Nat.le_of_ble_eq_true rfl)⟩ (fun H locs hP hS => ?_)
        refine lv_icmp_eq (tgt := 947) hx hb dL_law_525 (by decide) (fun _ => ?_) (fun c9 => absurd rfl c9)
        exact K947 S2 _ _ hI2 hP hS
      by_cases cs10 : op = 10
      · refine z_tblIn (v := 10) (off := 497) (tgt := 530) hx hb dL_law_33 cs10 (by decide) (by decide) (by decide) (by decide) ?_
        obtain ⟨r, S1, S2, hF1, hF2, hI2⟩ := hk_stands (xs (nI (7 * k) + 1).toNatClampNeg) S hI
        refine lv_aload_n hx hb dL_law_530 rfl (lv_at hl 1 rfl) ?_
        refine lv_aload_n hx hb dL_law_531 rfl (lv_at hl 0 rfl) ?_
        refine lv_iload_n hx hb dL_law_532 rfl (lv_at hl 3 rfl) ?_
        refine lv_iconst (v := 1) hx hb dL_law_533 rfl ?_
        refine lv_iadd hx hb dL_law_534 ?_
        refine va_sld hx hb hX hbl hbA hS hj1 dL_law_535 ?_
        refine z_cV_i hx hb hml hown hU hK hN hP hS 1 (p_0 hW) rfl rfl (zU_V uL_L_58 uI_X7_stands uS_X7_stands uN_X7 uC_X7_stands) yd_X7_stands ⟨rfl, rfl⟩ ⟨(Nat.le_of_ble_eq_true rfl), (Nat.le_of_ble_eq_true rfl)⟩ (As := [.int (xs (nI (7 * k) + 1).toNatClampNeg)]) hF1 (fun o h9 => ctX7_stands hq hW h9) rfl hl.1 rfl (Nat.le_of_ble_eq_true rfl) dL_law_536 ⟨(Nat.le_of_ble_eq_true rfl), (Nat.le_of_ble_eq_true rfl)⟩ (fun H locs hP hS => ?_)
        refine lv_aload_n hx hb dL_law_539 rfl (lv_at hl 2 rfl) ?_
        refine lv_aload_n hx hb dL_law_540 rfl (lv_at hl 0 rfl) ?_
        refine lv_iload_n hx hb dL_law_541 rfl (lv_at hl 3 rfl) ?_
        refine lv_iconst (v := 1) hx hb dL_law_542 rfl ?_
        refine lv_iadd hx hb dL_law_543 ?_
        refine va_sld hx hb hX hbl hbA hS hj1 dL_law_544 ?_
        refine z_cV_i hx hb hml hown hU hK hN hP hS 1 (p_101 hW) rfl rfl (zU_V uL_L_61 uI_X8_stands uS_X8_stands uN_X8 uC_X8_stands) yd_X8_stands ⟨rfl, rfl⟩ ⟨(Nat.le_of_ble_eq_true rfl), (Nat.le_of_ble_eq_true rfl)⟩ (As := [.int (xs (nI (7 * k) + 1).toNatClampNeg)]) hF2 (fun o h9 => ctX8_stands hq hW h9) rfl hl.1 rfl (Nat.le_of_ble_eq_true rfl) dL_law_545 ⟨(Nat.le_of_ble_eq_true rfl), (Nat.le_of_ble_eq_true rfl)⟩ (fun H locs hP hS => ?_)
        refine lv_icmp_eq (tgt := 947) hx hb dL_law_548 (by decide) (fun _ => ?_) (fun c9 => absurd rfl c9)
        exact K947 S2 _ _ hI2 hP hS
      by_cases cs11 : op = 11
      · refine z_tblIn (v := 11) (off := 520) (tgt := 553) hx hb dL_law_33 cs11 (by decide) (by decide) (by decide) (by decide) ?_
        obtain ⟨r, S1, S2, hF1, hF2, hI2⟩ := hk_walks  S hI
        refine lv_aload_n hx hb dL_law_553 rfl (lv_at hl 1 rfl) ?_
        refine z_cV_i hx hb hml hown hU hK hN hP hS 0 (p_0 hW) rfl rfl (zU_V uL_L_62 uI_X7_walks uS_X7_walks uN_X7 uC_X7_walks) yd_X7_walks ⟨rfl, rfl⟩ ⟨(Nat.le_of_ble_eq_true rfl), (Nat.le_of_ble_eq_true rfl)⟩ (As := []) hF1 (fun o h9 => ctX7_walks hq hW h9) rfl hl.1 rfl (Nat.le_of_ble_eq_true rfl) dL_law_554 ⟨(Nat.le_of_ble_eq_true rfl), (Nat.le_of_ble_eq_true rfl)⟩ (fun H locs hP hS => ?_)
        refine lv_aload_n hx hb dL_law_557 rfl (lv_at hl 2 rfl) ?_
        refine z_cV_i hx hb hml hown hU hK hN hP hS 0 (p_101 hW) rfl rfl (zU_V uL_L_66 uI_X8_walks uS_X8_walks uN_X8 uC_X8_walks) yd_X8_walks ⟨rfl, rfl⟩ ⟨(Nat.le_of_ble_eq_true rfl), (Nat.le_of_ble_eq_true rfl)⟩ (As := []) hF2 (fun o h9 => ctX8_walks hq hW h9) rfl hl.1 rfl (Nat.le_of_ble_eq_true rfl) dL_law_558 ⟨(Nat.le_of_ble_eq_true rfl), (Nat.le_of_ble_eq_true rfl)⟩ (fun H locs hP hS => ?_)
        refine lv_icmp_eq (tgt := 947) hx hb dL_law_561 (by decide) (fun _ => ?_) (fun c9 => absurd rfl c9)
        exact K947 S2 _ _ hI2 hP hS
      by_cases cs12 : op = 12
      · refine z_tblIn (v := 12) (off := 533) (tgt := 566) hx hb dL_law_33 cs12 (by decide) (by decide) (by decide) (by decide) ?_
        obtain ⟨r, S1, S2, hF1, hF2, hI2⟩ := hk_why  S hI
        refine lv_aload_n hx hb dL_law_566 rfl (lv_at hl 1 rfl) ?_
        refine z_cV_i hx hb hml hown hU hK hN hP hS 0 (p_0 hW) rfl rfl (zU_V uL_L_67 uI_X7_why uS_X7_why uN_X7 uC_X7_why) yd_X7_why ⟨rfl, rfl⟩ ⟨(Nat.le_of_ble_eq_true rfl), (Nat.le_of_ble_eq_true rfl)⟩ (As := []) hF1 (fun o h9 => ctX7_why hq hW h9) rfl hl.1 rfl (Nat.le_of_ble_eq_true rfl) dL_law_567 ⟨(Nat.le_of_ble_eq_true rfl), (Nat.le_of_ble_eq_true rfl)⟩ (fun H locs hP hS => ?_)
        refine lv_aload_n hx hb dL_law_570 rfl (lv_at hl 2 rfl) ?_
        refine z_cV_i hx hb hml hown hU hK hN hP hS 0 (p_101 hW) rfl rfl (zU_V uL_L_71 uI_X8_why uS_X8_why uN_X8 uC_X8_why) yd_X8_why ⟨rfl, rfl⟩ ⟨(Nat.le_of_ble_eq_true rfl), (Nat.le_of_ble_eq_true rfl)⟩ (As := []) hF2 (fun o h9 => ctX8_why hq hW h9) rfl hl.1 rfl (Nat.le_of_ble_eq_true rfl) dL_law_571 ⟨(Nat.le_of_ble_eq_true rfl), (Nat.le_of_ble_eq_true rfl)⟩ (fun H locs hP hS => ?_)
        refine lv_icmp_eq (tgt := 947) hx hb dL_law_574 (by decide) (fun _ => ?_) (fun c9 => absurd rfl c9)
        exact K947 S2 _ _ hI2 hP hS
      by_cases cs13 : op = 13
      · refine z_tblIn (v := 13) (off := 546) (tgt := 579) hx hb dL_law_33 cs13 (by decide) (by decide) (by decide) (by decide) ?_
        obtain ⟨r, S1, S2, hF1, hF2, hI2⟩ := hk_margin (xs (nI (7 * k) + 1).toNatClampNeg) (xs (nI (7 * k) + 2).toNatClampNeg) S hI
        refine lv_aload_n hx hb dL_law_579 rfl (lv_at hl 1 rfl) ?_
        refine lv_aload_n hx hb dL_law_580 rfl (lv_at hl 0 rfl) ?_
        refine lv_iload_n hx hb dL_law_581 rfl (lv_at hl 3 rfl) ?_
        refine lv_iconst (v := 1) hx hb dL_law_582 rfl ?_
        refine lv_iadd hx hb dL_law_583 ?_
        refine va_sld hx hb hX hbl hbA hS hj1 dL_law_584 ?_
        refine lv_aload_n hx hb dL_law_585 rfl (lv_at hl 0 rfl) ?_
        refine lv_iload_n hx hb dL_law_586 rfl (lv_at hl 3 rfl) ?_
        refine lv_iconst (v := 2) hx hb dL_law_587 rfl ?_
        refine lv_iadd hx hb dL_law_588 ?_
        refine va_sld hx hb hX hbl hbA hS hj2 dL_law_589 ?_
        refine z_cV_l hx hb hml hown hU hK hN hP hS 2 (p_0 hW) rfl rfl (zU_V uL_L_72 uI_X7_margin uS_X7_margin uN_X7 uC_X7_margin) yd_X7_margin ⟨rfl, rfl⟩ ⟨(Nat.le_of_ble_eq_true rfl), (Nat.le_of_ble_eq_true rfl)⟩ (As := [.int (xs (nI (7 * k) + 1).toNatClampNeg), .int (xs (nI (7 * k) + 2).toNatClampNeg)]) hF1 (fun o h9 => ctX7_margin hq hW h9) rfl hl.1 rfl (Nat.le_of_ble_eq_true rfl) dL_law_590 ⟨(Nat.le_of_ble_eq_true rfl), (Nat.le_of_ble_eq_true rfl)⟩ (fun H locs hP hS => ?_)
        refine lv_aload_n hx hb dL_law_593 rfl (lv_at hl 2 rfl) ?_
        refine lv_aload_n hx hb dL_law_594 rfl (lv_at hl 0 rfl) ?_
        refine lv_iload_n hx hb dL_law_595 rfl (lv_at hl 3 rfl) ?_
        refine lv_iconst (v := 1) hx hb dL_law_596 rfl ?_
        refine lv_iadd hx hb dL_law_597 ?_
        refine va_sld hx hb hX hbl hbA hS hj1 dL_law_598 ?_
        refine lv_aload_n hx hb dL_law_599 rfl (lv_at hl 0 rfl) ?_
        refine lv_iload_n hx hb dL_law_600 rfl (lv_at hl 3 rfl) ?_
        refine lv_iconst (v := 2) hx hb dL_law_601 rfl ?_
        refine lv_iadd hx hb dL_law_602 ?_
        refine va_sld hx hb hX hbl hbA hS hj2 dL_law_603 ?_
        refine z_cV_l hx hb hml hown hU hK hN hP hS 2 (p_101 hW) rfl rfl (zU_V uL_L_76 uI_X8_margin uS_X8_margin uN_X8 uC_X8_margin) yd_X8_margin ⟨rfl, rfl⟩ ⟨(Nat.le_of_ble_eq_true rfl), (Nat.le_of_ble_eq_true rfl)⟩ (As := [.int (xs (nI (7 * k) + 1).toNatClampNeg), .int (xs (nI (7 * k) + 2).toNatClampNeg)]) hF2 (fun o h9 => ctX8_margin hq hW h9) rfl hl.1 rfl (Nat.le_of_ble_eq_true rfl) dL_law_604 ⟨(Nat.le_of_ble_eq_true rfl), (Nat.le_of_ble_eq_true rfl)⟩ (fun H locs hP hS => ?_)
        refine W.lcmp hx hb dL_law_607 ?_
        refine lv_if_eq (tgt := 947) hx hb dL_law_608 (by decide) (fun _ => ?_) (fun c9 => absurd (lg_cmp_self r) c9)
        exact K947 S2 _ _ hI2 hP hS
      by_cases cs14 : op = 14
      · refine z_tblIn (v := 14) (off := 580) (tgt := 613) hx hb dL_law_33 cs14 (by decide) (by decide) (by decide) (by decide) ?_
        obtain ⟨r, S1, S2, hF1, hF2, hI2⟩ := hk_worst (xs (nI (7 * k) + 1).toNatClampNeg) S hI
        refine lv_aload_n hx hb dL_law_613 rfl (lv_at hl 1 rfl) ?_
        refine lv_aload_n hx hb dL_law_614 rfl (lv_at hl 0 rfl) ?_
        refine lv_iload_n hx hb dL_law_615 rfl (lv_at hl 3 rfl) ?_
        refine lv_iconst (v := 1) hx hb dL_law_616 rfl ?_
        refine lv_iadd hx hb dL_law_617 ?_
        refine va_sld hx hb hX hbl hbA hS hj1 dL_law_618 ?_
        refine z_cV_l hx hb hml hown hU hK hN hP hS 1 (p_0 hW) rfl rfl (zU_V uL_L_77 uI_X7_worst uS_X7_worst uN_X7 uC_X7_worst) yd_X7_worst ⟨rfl, rfl⟩ ⟨(Nat.le_of_ble_eq_true rfl), (Nat.le_of_ble_eq_true rfl)⟩ (As := [.int (xs (nI (7 * k) + 1).toNatClampNeg)]) hF1 (fun o h9 => ctX7_worst hq hW h9) rfl hl.1 rfl (Nat.le_of_ble_eq_true rfl) dL_law_619 ⟨(Nat.le_of_ble_eq_true rfl), (Nat.le_of_ble_eq_true rfl)⟩ (fun H locs hP hS => ?_)
        refine lv_aload_n hx hb dL_law_622 rfl (lv_at hl 2 rfl) ?_
        refine lv_aload_n hx hb dL_law_623 rfl (lv_at hl 0 rfl) ?_
        refine lv_iload_n hx hb dL_law_624 rfl (lv_at hl 3 rfl) ?_
        refine lv_iconst (v := 1) hx hb dL_law_625 rfl ?_
        refine lv_iadd hx hb dL_law_626 ?_
        refine va_sld hx hb hX hbl hbA hS hj1 dL_law_627 ?_
        refine z_cV_l hx hb hml hown hU hK hN hP hS 1 (p_101 hW) rfl rfl (zU_V uL_L_81 uI_X8_worst uS_X8_worst uN_X8 uC_X8_worst) yd_X8_worst ⟨rfl, rfl⟩ ⟨(Nat.le_of_ble_eq_true rfl), (Nat.le_of_ble_eq_true rfl)⟩ (As := [.int (xs (nI (7 * k) + 1).toNatClampNeg)]) hF2 (fun o h9 => ctX8_worst hq hW h9) rfl hl.1 rfl (Nat.le_of_ble_eq_true rfl) dL_law_628 ⟨(Nat.le_of_ble_eq_true rfl), (Nat.le_of_ble_eq_true rfl)⟩ (fun H locs hP hS => ?_)
        refine W.lcmp hx hb dL_law_631 ?_
        refine lv_if_eq (tgt := 947) hx hb dL_law_632 (by decide) (fun _ => ?_) (fun c9 => absurd (lg_cmp_self r) c9)
        exact K947 S2 _ _ hI2 hP hS
      by_cases cs15 : op = 15
      · refine z_tblIn (v := 15) (off := 604) (tgt := 637) hx hb dL_law_33 cs15 (by decide) (by decide) (by decide) (by decide) ?_
        obtain ⟨r, S1, S2, hF1, hF2, hI2⟩ := hk_fastest  S hI
        refine lv_aload_n hx hb dL_law_637 rfl (lv_at hl 1 rfl) ?_
        refine z_cV_i hx hb hml hown hU hK hN hP hS 0 (p_0 hW) rfl rfl (zU_V uL_L_82 uI_X7_fastest uS_X7_fastest uN_X7 uC_X7_fastest) yd_X7_fastest ⟨rfl, rfl⟩ ⟨(Nat.le_of_ble_eq_true rfl), (Nat.le_of_ble_eq_true rfl)⟩ (As := []) hF1 (fun o h9 => ctX7_fastest hq hW h9) rfl hl.1 rfl (Nat.le_of_ble_eq_true rfl) dL_law_638 ⟨(Nat.le_of_ble_eq_true rfl), (Nat.le_of_ble_eq_true rfl)⟩ (fun H locs hP hS => ?_)
        refine lv_aload_n hx hb dL_law_641 rfl (lv_at hl 2 rfl) ?_
        refine z_cV_i hx hb hml hown hU hK hN hP hS 0 (p_101 hW) rfl rfl (zU_V uL_L_85 uI_X8_fastest uS_X8_fastest uN_X8 uC_X8_fastest) yd_X8_fastest ⟨rfl, rfl⟩ ⟨(Nat.le_of_ble_eq_true rfl), (Nat.le_of_ble_eq_true rfl)⟩ (As := []) hF2 (fun o h9 => ctX8_fastest hq hW h9) rfl hl.1 rfl (Nat.le_of_ble_eq_true rfl) dL_law_642 ⟨(Nat.le_of_ble_eq_true rfl), (Nat.le_of_ble_eq_true rfl)⟩ (fun H locs hP hS => ?_)
        refine lv_icmp_eq (tgt := 947) hx hb dL_law_645 (by decide) (fun _ => ?_) (fun c9 => absurd rfl c9)
        exact K947 S2 _ _ hI2 hP hS
      by_cases cs16 : op = 16
      · refine z_tblIn (v := 16) (off := 617) (tgt := 650) hx hb dL_law_33 cs16 (by decide) (by decide) (by decide) (by decide) ?_
        obtain ⟨r, S1, S2, hF1, hF2, hI2⟩ := hk_many (xs (nI (7 * k) + 1).toNatClampNeg) (xs (nI (7 * k) + 2).toNatClampNeg) S hI
        refine lv_aload_n hx hb dL_law_650 rfl (lv_at hl 1 rfl) ?_
        refine lv_aload_n hx hb dL_law_651 rfl (lv_at hl 0 rfl) ?_
        refine lv_iload_n hx hb dL_law_652 rfl (lv_at hl 3 rfl) ?_
        refine lv_iconst (v := 1) hx hb dL_law_653 rfl ?_
        refine lv_iadd hx hb dL_law_654 ?_
        refine va_sld hx hb hX hbl hbA hS hj1 dL_law_655 ?_
        refine lv_aload_n hx hb dL_law_656 rfl (lv_at hl 0 rfl) ?_
        refine lv_iload_n hx hb dL_law_657 rfl (lv_at hl 3 rfl) ?_
        refine lv_iconst (v := 2) hx hb dL_law_658 rfl ?_
        refine lv_iadd hx hb dL_law_659 ?_
        refine va_sld hx hb hX hbl hbA hS hj2 dL_law_660 ?_
        refine z_cV_i hx hb hml hown hU hK hN hP hS 2 (p_0 hW) rfl rfl (zU_V uL_L_86 uI_X7_many uS_X7_many uN_X7 uC_X7_many) yd_X7_many ⟨rfl, rfl⟩ ⟨(Nat.le_of_ble_eq_true rfl), (Nat.le_of_ble_eq_true rfl)⟩ (As := [.int (xs (nI (7 * k) + 1).toNatClampNeg), .int (xs (nI (7 * k) + 2).toNatClampNeg)]) hF1 (fun o h9 => ctX7_many hq hW h9) rfl hl.1 rfl (Nat.le_of_ble_eq_true rfl) dL_law_661 ⟨(Nat.le_of_ble_eq_true rfl), (Nat.le_of_ble_eq_true rfl)⟩ (fun H locs hP hS => ?_)
        refine lv_aload_n hx hb dL_law_664 rfl (lv_at hl 2 rfl) ?_
        refine lv_aload_n hx hb dL_law_665 rfl (lv_at hl 0 rfl) ?_
        refine lv_iload_n hx hb dL_law_666 rfl (lv_at hl 3 rfl) ?_
        refine lv_iconst (v := 1) hx hb dL_law_667 rfl ?_
        refine lv_iadd hx hb dL_law_668 ?_
        refine va_sld hx hb hX hbl hbA hS hj1 dL_law_669 ?_
        refine lv_aload_n hx hb dL_law_670 rfl (lv_at hl 0 rfl) ?_
        refine lv_iload_n hx hb dL_law_671 rfl (lv_at hl 3 rfl) ?_
        refine lv_iconst (v := 2) hx hb dL_law_672 rfl ?_
        refine lv_iadd hx hb dL_law_673 ?_
        refine va_sld hx hb hX hbl hbA hS hj2 dL_law_674 ?_
        refine z_cV_i hx hb hml hown hU hK hN hP hS 2 (p_101 hW) rfl rfl (zU_V uL_L_90 uI_X8_many uS_X8_many uN_X8 uC_X8_many) yd_X8_many ⟨rfl, rfl⟩ ⟨(Nat.le_of_ble_eq_true rfl), (Nat.le_of_ble_eq_true rfl)⟩ (As := [.int (xs (nI (7 * k) + 1).toNatClampNeg), .int (xs (nI (7 * k) + 2).toNatClampNeg)]) hF2 (fun o h9 => ctX8_many hq hW h9) rfl hl.1 rfl (Nat.le_of_ble_eq_true rfl) dL_law_675 ⟨(Nat.le_of_ble_eq_true rfl), (Nat.le_of_ble_eq_true rfl)⟩ (fun H locs hP hS => ?_)
        refine lv_icmp_eq (tgt := 947) hx hb dL_law_678 (by decide) (fun _ => ?_) (fun c9 => absurd rfl c9)
        exact K947 S2 _ _ hI2 hP hS
      by_cases cs17 : op = 17
      · refine z_tblIn (v := 17) (off := 650) (tgt := 683) hx hb dL_law_33 cs17 (by decide) (by decide) (by decide) (by decide) ?_
        obtain ⟨r, S1, S2, hF1, hF2, hI2⟩ := hk_pick (xs (nI (7 * k) + 1).toNatClampNeg) (xs (nI (7 * k) + 2).toNatClampNeg) (xs (nI (7 * k) + 3).toNatClampNeg) S hI
        refine lv_aload_n hx hb dL_law_683 rfl (lv_at hl 1 rfl) ?_
        refine lv_aload_n hx hb dL_law_684 rfl (lv_at hl 0 rfl) ?_
        refine lv_iload_n hx hb dL_law_685 rfl (lv_at hl 3 rfl) ?_
        refine lv_iconst (v := 1) hx hb dL_law_686 rfl ?_
        refine lv_iadd hx hb dL_law_687 ?_
        refine va_sld hx hb hX hbl hbA hS hj1 dL_law_688 ?_
        refine lv_aload_n hx hb dL_law_689 rfl (lv_at hl 0 rfl) ?_
        refine lv_iload_n hx hb dL_law_690 rfl (lv_at hl 3 rfl) ?_
        refine lv_iconst (v := 2) hx hb dL_law_691 rfl ?_
        refine lv_iadd hx hb dL_law_692 ?_
        refine va_sld hx hb hX hbl hbA hS hj2 dL_law_693 ?_
        refine lv_aload_n hx hb dL_law_694 rfl (lv_at hl 0 rfl) ?_
        refine lv_iload_n hx hb dL_law_695 rfl (lv_at hl 3 rfl) ?_
        refine lv_iconst (v := 3) hx hb dL_law_696 rfl ?_
        refine lv_iadd hx hb dL_law_697 ?_
        refine va_sld hx hb hX hbl hbA hS hj3 dL_law_698 ?_
        refine z_cV_i hx hb hml hown hU hK hN hP hS 3 (p_0 hW) rfl rfl (zU_V uL_L_91 uI_X7_pick uS_X7_pick uN_X7 uC_X7_pick) yd_X7_pick ⟨rfl, rfl⟩ ⟨(Nat.le_of_ble_eq_true rfl), (Nat.le_of_ble_eq_true rfl)⟩ (As := [.int (xs (nI (7 * k) + 1).toNatClampNeg), .int (xs (nI (7 * k) + 2).toNatClampNeg), .int (xs (nI (7 * k) + 3).toNatClampNeg)]) hF1 (fun o h9 => ctX7_pick hq hW h9) rfl hl.1 rfl (Nat.le_of_ble_eq_true rfl) dL_law_699 ⟨(Nat.le_of_ble_eq_true rfl), (Nat.le_of_ble_eq_true rfl)⟩ (fun H locs hP hS => ?_)
        refine lv_aload_n hx hb dL_law_702 rfl (lv_at hl 2 rfl) ?_
        refine lv_aload_n hx hb dL_law_703 rfl (lv_at hl 0 rfl) ?_
        refine lv_iload_n hx hb dL_law_704 rfl (lv_at hl 3 rfl) ?_
        refine lv_iconst (v := 1) hx hb dL_law_705 rfl ?_
        refine lv_iadd hx hb dL_law_706 ?_
        refine va_sld hx hb hX hbl hbA hS hj1 dL_law_707 ?_
        refine lv_aload_n hx hb dL_law_708 rfl (lv_at hl 0 rfl) ?_
        refine lv_iload_n hx hb dL_law_709 rfl (lv_at hl 3 rfl) ?_
        refine lv_iconst (v := 2) hx hb dL_law_710 rfl ?_
        refine lv_iadd hx hb dL_law_711 ?_
        refine va_sld hx hb hX hbl hbA hS hj2 dL_law_712 ?_
        refine lv_aload_n hx hb dL_law_713 rfl (lv_at hl 0 rfl) ?_
        refine lv_iload_n hx hb dL_law_714 rfl (lv_at hl 3 rfl) ?_
        refine lv_iconst (v := 3) hx hb dL_law_715 rfl ?_
        refine lv_iadd hx hb dL_law_716 ?_
        refine va_sld hx hb hX hbl hbA hS hj3 dL_law_717 ?_
        refine z_cV_i hx hb hml hown hU hK hN hP hS 3 (p_101 hW) rfl rfl (zU_V uL_L_94 uI_X8_pick uS_X8_pick uN_X8 uC_X8_pick) yd_X8_pick ⟨rfl, rfl⟩ ⟨(Nat.le_of_ble_eq_true rfl), (Nat.le_of_ble_eq_true rfl)⟩ (As := [.int (xs (nI (7 * k) + 1).toNatClampNeg), .int (xs (nI (7 * k) + 2).toNatClampNeg), .int (xs (nI (7 * k) + 3).toNatClampNeg)]) hF2 (fun o h9 => ctX8_pick hq hW h9) rfl hl.1 rfl (Nat.le_of_ble_eq_true rfl) dL_law_718 ⟨(Nat.le_of_ble_eq_true rfl), (Nat.le_of_ble_eq_true rfl)⟩ (fun H locs hP hS => ?_)
        refine lv_icmp_eq (tgt := 947) hx hb dL_law_721 (by decide) (fun _ => ?_) (fun c9 => absurd rfl c9)
        exact K947 S2 _ _ hI2 hP hS
      by_cases cs18 : op = 18
      · refine z_tblIn (v := 18) (off := 693) (tgt := 726) hx hb dL_law_33 cs18 (by decide) (by decide) (by decide) (by decide) ?_
        obtain ⟨r, S1, S2, hF1, hF2, hI2⟩ := hk_rank (xs (nI (7 * k) + 1).toNatClampNeg) (xs (nI (7 * k) + 2).toNatClampNeg) S hI
        refine lv_aload_n hx hb dL_law_726 rfl (lv_at hl 1 rfl) ?_
        refine lv_aload_n hx hb dL_law_727 rfl (lv_at hl 0 rfl) ?_
        refine lv_iload_n hx hb dL_law_728 rfl (lv_at hl 3 rfl) ?_
        refine lv_iconst (v := 1) hx hb dL_law_729 rfl ?_
        refine lv_iadd hx hb dL_law_730 ?_
        refine va_sld hx hb hX hbl hbA hS hj1 dL_law_731 ?_
        refine lv_aload_n hx hb dL_law_732 rfl (lv_at hl 0 rfl) ?_
        refine lv_iload_n hx hb dL_law_733 rfl (lv_at hl 3 rfl) ?_
        refine lv_iconst (v := 2) hx hb dL_law_734 rfl ?_
        refine lv_iadd hx hb dL_law_735 ?_
        refine va_sld hx hb hX hbl hbA hS hj2 dL_law_736 ?_
        refine z_cV_i hx hb hml hown hU hK hN hP hS 2 (p_0 hW) rfl rfl (zU_V uL_L_95 uI_X7_rank uS_X7_rank uN_X7 uC_X7_rank) yd_X7_rank ⟨rfl, rfl⟩ ⟨(Nat.le_of_ble_eq_true rfl), (Nat.le_of_ble_eq_true rfl)⟩ (As := [.int (xs (nI (7 * k) + 1).toNatClampNeg), .int (xs (nI (7 * k) + 2).toNatClampNeg)]) hF1 (fun o h9 => ctX7_rank hq hW h9) rfl hl.1 rfl (Nat.le_of_ble_eq_true rfl) dL_law_737 ⟨(Nat.le_of_ble_eq_true rfl), (Nat.le_of_ble_eq_true rfl)⟩ (fun H locs hP hS => ?_)
        refine lv_aload_n hx hb dL_law_740 rfl (lv_at hl 2 rfl) ?_
        refine lv_aload_n hx hb dL_law_741 rfl (lv_at hl 0 rfl) ?_
        refine lv_iload_n hx hb dL_law_742 rfl (lv_at hl 3 rfl) ?_
        refine lv_iconst (v := 1) hx hb dL_law_743 rfl ?_
        refine lv_iadd hx hb dL_law_744 ?_
        refine va_sld hx hb hX hbl hbA hS hj1 dL_law_745 ?_
        refine lv_aload_n hx hb dL_law_746 rfl (lv_at hl 0 rfl) ?_
        refine lv_iload_n hx hb dL_law_747 rfl (lv_at hl 3 rfl) ?_
        refine lv_iconst (v := 2) hx hb dL_law_748 rfl ?_
        refine lv_iadd hx hb dL_law_749 ?_
        refine va_sld hx hb hX hbl hbA hS hj2 dL_law_750 ?_
        refine z_cV_i hx hb hml hown hU hK hN hP hS 2 (p_101 hW) rfl rfl (zU_V uL_L_98 uI_X8_rank uS_X8_rank uN_X8 uC_X8_rank) yd_X8_rank ⟨rfl, rfl⟩ ⟨(Nat.le_of_ble_eq_true rfl), (Nat.le_of_ble_eq_true rfl)⟩ (As := [.int (xs (nI (7 * k) + 1).toNatClampNeg), .int (xs (nI (7 * k) + 2).toNatClampNeg)]) hF2 (fun o h9 => ctX8_rank hq hW h9) rfl hl.1 rfl (Nat.le_of_ble_eq_true rfl) dL_law_751 ⟨(Nat.le_of_ble_eq_true rfl), (Nat.le_of_ble_eq_true rfl)⟩ (fun H locs hP hS => ?_)
        refine lv_icmp_eq (tgt := 947) hx hb dL_law_754 (by decide) (fun _ => ?_) (fun c9 => absurd rfl c9)
        exact K947 S2 _ _ hI2 hP hS
      by_cases cs19 : op = 19
      · refine z_tblIn (v := 19) (off := 726) (tgt := 759) hx hb dL_law_33 cs19 (by decide) (by decide) (by decide) (by decide) ?_
        obtain ⟨r, S1, S2, hF1, hF2, hI2⟩ := hk_unlike (xs (nI (7 * k) + 1).toNatClampNeg) (xs (nI (7 * k) + 2).toNatClampNeg) S hI
        refine lv_aload_n hx hb dL_law_759 rfl (lv_at hl 1 rfl) ?_
        refine lv_aload_n hx hb dL_law_760 rfl (lv_at hl 0 rfl) ?_
        refine lv_iload_n hx hb dL_law_761 rfl (lv_at hl 3 rfl) ?_
        refine lv_iconst (v := 1) hx hb dL_law_762 rfl ?_
        refine lv_iadd hx hb dL_law_763 ?_
        refine va_sld hx hb hX hbl hbA hS hj1 dL_law_764 ?_
        refine lv_aload_n hx hb dL_law_765 rfl (lv_at hl 0 rfl) ?_
        refine lv_iload_n hx hb dL_law_766 rfl (lv_at hl 3 rfl) ?_
        refine lv_iconst (v := 2) hx hb dL_law_767 rfl ?_
        refine lv_iadd hx hb dL_law_768 ?_
        refine va_sld hx hb hX hbl hbA hS hj2 dL_law_769 ?_
        refine z_cV_i hx hb hml hown hU hK hN hP hS 2 (p_0 hW) rfl rfl (zU_V uL_L_99 uI_X7_unlike uS_X7_unlike uN_X7 uC_X7_unlike) yd_X7_unlike ⟨rfl, rfl⟩ ⟨(Nat.le_of_ble_eq_true rfl), (Nat.le_of_ble_eq_true rfl)⟩ (As := [.int (xs (nI (7 * k) + 1).toNatClampNeg), .int (xs (nI (7 * k) + 2).toNatClampNeg)]) hF1 (fun o h9 => ctX7_unlike hq hW h9) rfl hl.1 rfl (Nat.le_of_ble_eq_true rfl) dL_law_770 ⟨(Nat.le_of_ble_eq_true rfl), (Nat.le_of_ble_eq_true rfl)⟩ (fun H locs hP hS => ?_)
        refine lv_aload_n hx hb dL_law_773 rfl (lv_at hl 2 rfl) ?_
        refine lv_aload_n hx hb dL_law_774 rfl (lv_at hl 0 rfl) ?_
        refine lv_iload_n hx hb dL_law_775 rfl (lv_at hl 3 rfl) ?_
        refine lv_iconst (v := 1) hx hb dL_law_776 rfl ?_
        refine lv_iadd hx hb dL_law_777 ?_
        refine va_sld hx hb hX hbl hbA hS hj1 dL_law_778 ?_
        refine lv_aload_n hx hb dL_law_779 rfl (lv_at hl 0 rfl) ?_
        refine lv_iload_n hx hb dL_law_780 rfl (lv_at hl 3 rfl) ?_
        refine lv_iconst (v := 2) hx hb dL_law_781 rfl ?_
        refine lv_iadd hx hb dL_law_782 ?_
        refine va_sld hx hb hX hbl hbA hS hj2 dL_law_783 ?_
        refine z_cV_i hx hb hml hown hU hK hN hP hS 2 (p_101 hW) rfl rfl (zU_V uL_L_102 uI_X8_unlike uS_X8_unlike uN_X8 uC_X8_unlike) yd_X8_unlike ⟨rfl, rfl⟩ ⟨(Nat.le_of_ble_eq_true rfl), (Nat.le_of_ble_eq_true rfl)⟩ (As := [.int (xs (nI (7 * k) + 1).toNatClampNeg), .int (xs (nI (7 * k) + 2).toNatClampNeg)]) hF2 (fun o h9 => ctX8_unlike hq hW h9) rfl hl.1 rfl (Nat.le_of_ble_eq_true rfl) dL_law_784 ⟨(Nat.le_of_ble_eq_true rfl), (Nat.le_of_ble_eq_true rfl)⟩ (fun H locs hP hS => ?_)
        refine lv_icmp_eq (tgt := 947) hx hb dL_law_787 (by decide) (fun _ => ?_) (fun c9 => absurd rfl c9)
        exact K947 S2 _ _ hI2 hP hS
      by_cases cs20 : op = 20
      · refine z_tblIn (v := 20) (off := 759) (tgt := 792) hx hb dL_law_33 cs20 (by decide) (by decide) (by decide) (by decide) ?_
        obtain ⟨r, S1, S2, hF1, hF2, hI2⟩ := hk_best (xs (nI (7 * k) + 1).toNatClampNeg) (xs (nI (7 * k) + 2).toNatClampNeg) S hI
        refine lv_aload_n hx hb dL_law_792 rfl (lv_at hl 1 rfl) ?_
        refine lv_aload_n hx hb dL_law_793 rfl (lv_at hl 0 rfl) ?_
        refine lv_iload_n hx hb dL_law_794 rfl (lv_at hl 3 rfl) ?_
        refine lv_iconst (v := 1) hx hb dL_law_795 rfl ?_
        refine lv_iadd hx hb dL_law_796 ?_
        refine va_sld hx hb hX hbl hbA hS hj1 dL_law_797 ?_
        refine lv_aload_n hx hb dL_law_798 rfl (lv_at hl 0 rfl) ?_
        refine lv_iload_n hx hb dL_law_799 rfl (lv_at hl 3 rfl) ?_
        refine lv_iconst (v := 2) hx hb dL_law_800 rfl ?_
        refine lv_iadd hx hb dL_law_801 ?_
        refine va_sld hx hb hX hbl hbA hS hj2 dL_law_802 ?_
        refine z_cV_i hx hb hml hown hU hK hN hP hS 2 (p_0 hW) rfl rfl (zU_V uL_L_103 uI_X7_best uS_X7_best uN_X7 uC_X7_best) yd_X7_best ⟨rfl, rfl⟩ ⟨(Nat.le_of_ble_eq_true rfl), (Nat.le_of_ble_eq_true rfl)⟩ (As := [.int (xs (nI (7 * k) + 1).toNatClampNeg), .int (xs (nI (7 * k) + 2).toNatClampNeg)]) hF1 (fun o h9 => ctX7_best hq hW h9) rfl hl.1 rfl (Nat.le_of_ble_eq_true rfl) dL_law_803 ⟨(Nat.le_of_ble_eq_true rfl), (Nat.le_of_ble_eq_true rfl)⟩ (fun H locs hP hS => ?_)
        refine lv_aload_n hx hb dL_law_806 rfl (lv_at hl 2 rfl) ?_
        refine lv_aload_n hx hb dL_law_807 rfl (lv_at hl 0 rfl) ?_
        refine lv_iload_n hx hb dL_law_808 rfl (lv_at hl 3 rfl) ?_
        refine lv_iconst (v := 1) hx hb dL_law_809 rfl ?_
        refine lv_iadd hx hb dL_law_810 ?_
        refine va_sld hx hb hX hbl hbA hS hj1 dL_law_811 ?_
        refine lv_aload_n hx hb dL_law_812 rfl (lv_at hl 0 rfl) ?_
        refine lv_iload_n hx hb dL_law_813 rfl (lv_at hl 3 rfl) ?_
        refine lv_iconst (v := 2) hx hb dL_law_814 rfl ?_
        refine lv_iadd hx hb dL_law_815 ?_
        refine va_sld hx hb hX hbl hbA hS hj2 dL_law_816 ?_
        refine z_cV_i hx hb hml hown hU hK hN hP hS 2 (p_101 hW) rfl rfl (zU_V uL_L_106 uI_X8_best uS_X8_best uN_X8 uC_X8_best) yd_X8_best ⟨rfl, rfl⟩ ⟨(Nat.le_of_ble_eq_true rfl), (Nat.le_of_ble_eq_true rfl)⟩ (As := [.int (xs (nI (7 * k) + 1).toNatClampNeg), .int (xs (nI (7 * k) + 2).toNatClampNeg)]) hF2 (fun o h9 => ctX8_best hq hW h9) rfl hl.1 rfl (Nat.le_of_ble_eq_true rfl) dL_law_817 ⟨(Nat.le_of_ble_eq_true rfl), (Nat.le_of_ble_eq_true rfl)⟩ (fun H locs hP hS => ?_)
        refine lv_icmp_eq (tgt := 947) hx hb dL_law_820 (by decide) (fun _ => ?_) (fun c9 => absurd rfl c9)
        exact K947 S2 _ _ hI2 hP hS
      by_cases cs21 : op = 21
      · refine z_tblIn (v := 21) (off := 792) (tgt := 825) hx hb dL_law_33 cs21 (by decide) (by decide) (by decide) (by decide) ?_
        obtain ⟨r, S1, S2, hF1, hF2, hI2⟩ := hk_without (xs (nI (7 * k) + 1).toNatClampNeg) (xs (nI (7 * k) + 2).toNatClampNeg) (xs (nI (7 * k) + 3).toNatClampNeg) S hI
        refine lv_aload_n hx hb dL_law_825 rfl (lv_at hl 1 rfl) ?_
        refine lv_aload_n hx hb dL_law_826 rfl (lv_at hl 0 rfl) ?_
        refine lv_iload_n hx hb dL_law_827 rfl (lv_at hl 3 rfl) ?_
        refine lv_iconst (v := 1) hx hb dL_law_828 rfl ?_
        refine lv_iadd hx hb dL_law_829 ?_
        refine va_sld hx hb hX hbl hbA hS hj1 dL_law_830 ?_
        refine lv_aload_n hx hb dL_law_831 rfl (lv_at hl 0 rfl) ?_
        refine lv_iload_n hx hb dL_law_832 rfl (lv_at hl 3 rfl) ?_
        refine lv_iconst (v := 2) hx hb dL_law_833 rfl ?_
        refine lv_iadd hx hb dL_law_834 ?_
        refine va_sld hx hb hX hbl hbA hS hj2 dL_law_835 ?_
        refine lv_aload_n hx hb dL_law_836 rfl (lv_at hl 0 rfl) ?_
        refine lv_iload_n hx hb dL_law_837 rfl (lv_at hl 3 rfl) ?_
        refine lv_iconst (v := 3) hx hb dL_law_838 rfl ?_
        refine lv_iadd hx hb dL_law_839 ?_
        refine va_sld hx hb hX hbl hbA hS hj3 dL_law_840 ?_
        refine z_cV_i hx hb hml hown hU hK hN hP hS 3 (p_0 hW) rfl rfl (zU_V uL_L_107 uI_X7_without uS_X7_without uN_X7 uC_X7_without) yd_X7_without ⟨rfl, rfl⟩ ⟨(Nat.le_of_ble_eq_true rfl), (Nat.le_of_ble_eq_true rfl)⟩ (As := [.int (xs (nI (7 * k) + 1).toNatClampNeg), .int (xs (nI (7 * k) + 2).toNatClampNeg), .int (xs (nI (7 * k) + 3).toNatClampNeg)]) hF1 (fun o h9 => ctX7_without hq hW h9) rfl hl.1 rfl (Nat.le_of_ble_eq_true rfl) dL_law_841 ⟨(Nat.le_of_ble_eq_true rfl), (Nat.le_of_ble_eq_true rfl)⟩ (fun H locs hP hS => ?_)
        refine lv_aload_n hx hb dL_law_844 rfl (lv_at hl 2 rfl) ?_
        refine lv_aload_n hx hb dL_law_845 rfl (lv_at hl 0 rfl) ?_
        refine lv_iload_n hx hb dL_law_846 rfl (lv_at hl 3 rfl) ?_
        refine lv_iconst (v := 1) hx hb dL_law_847 rfl ?_
        refine lv_iadd hx hb dL_law_848 ?_
        refine va_sld hx hb hX hbl hbA hS hj1 dL_law_849 ?_
        refine lv_aload_n hx hb dL_law_850 rfl (lv_at hl 0 rfl) ?_
        refine lv_iload_n hx hb dL_law_851 rfl (lv_at hl 3 rfl) ?_
        refine lv_iconst (v := 2) hx hb dL_law_852 rfl ?_
        refine lv_iadd hx hb dL_law_853 ?_
        refine va_sld hx hb hX hbl hbA hS hj2 dL_law_854 ?_
        refine lv_aload_n hx hb dL_law_855 rfl (lv_at hl 0 rfl) ?_
        refine lv_iload_n hx hb dL_law_856 rfl (lv_at hl 3 rfl) ?_
        refine lv_iconst (v := 3) hx hb dL_law_857 rfl ?_
        refine lv_iadd hx hb dL_law_858 ?_
        refine va_sld hx hb hX hbl hbA hS hj3 dL_law_859 ?_
        refine z_cV_i hx hb hml hown hU hK hN hP hS 3 (p_101 hW) rfl rfl (zU_V uL_L_110 uI_X8_without uS_X8_without uN_X8 uC_X8_without) yd_X8_without ⟨rfl, rfl⟩ ⟨(Nat.le_of_ble_eq_true rfl), (Nat.le_of_ble_eq_true rfl)⟩ (As := [.int (xs (nI (7 * k) + 1).toNatClampNeg), .int (xs (nI (7 * k) + 2).toNatClampNeg), .int (xs (nI (7 * k) + 3).toNatClampNeg)]) hF2 (fun o h9 => ctX8_without hq hW h9) rfl hl.1 rfl (Nat.le_of_ble_eq_true rfl) dL_law_860 ⟨(Nat.le_of_ble_eq_true rfl), (Nat.le_of_ble_eq_true rfl)⟩ (fun H locs hP hS => ?_)
        refine lv_icmp_eq (tgt := 947) hx hb dL_law_863 (by decide) (fun _ => ?_) (fun c9 => absurd rfl c9)
        exact K947 S2 _ _ hI2 hP hS
      by_cases cs22 : op = 22
      · refine z_tblIn (v := 22) (off := 835) (tgt := 868) hx hb dL_law_33 cs22 (by decide) (by decide) (by decide) (by decide) ?_
        obtain ⟨r, S1, S2, hF1, hF2, hI2⟩ := hk_loads (xs (nI (7 * k) + 1).toNatClampNeg) S hI
        refine lv_aload_n hx hb dL_law_868 rfl (lv_at hl 1 rfl) ?_
        refine lv_aload_n hx hb dL_law_869 rfl (lv_at hl 0 rfl) ?_
        refine lv_iload_n hx hb dL_law_870 rfl (lv_at hl 3 rfl) ?_
        refine lv_iconst (v := 1) hx hb dL_law_871 rfl ?_
        refine lv_iadd hx hb dL_law_872 ?_
        refine va_sld hx hb hX hbl hbA hS hj1 dL_law_873 ?_
        refine z_cV_i hx hb hml hown hU hK hN hP hS 1 (p_0 hW) rfl rfl (zU_V uL_L_111 uI_X7_loads uS_X7_loads uN_X7 uC_X7_loads) yd_X7_loads ⟨rfl, rfl⟩ ⟨(Nat.le_of_ble_eq_true rfl), (Nat.le_of_ble_eq_true rfl)⟩ (As := [.int (xs (nI (7 * k) + 1).toNatClampNeg)]) hF1 (fun o h9 => ctX7_loads hq hW h9) rfl hl.1 rfl (Nat.le_of_ble_eq_true rfl) dL_law_874 ⟨(Nat.le_of_ble_eq_true rfl), (Nat.le_of_ble_eq_true rfl)⟩ (fun H locs hP hS => ?_)
        refine lv_aload_n hx hb dL_law_877 rfl (lv_at hl 2 rfl) ?_
        refine lv_aload_n hx hb dL_law_878 rfl (lv_at hl 0 rfl) ?_
        refine lv_iload_n hx hb dL_law_879 rfl (lv_at hl 3 rfl) ?_
        refine lv_iconst (v := 1) hx hb dL_law_880 rfl ?_
        refine lv_iadd hx hb dL_law_881 ?_
        refine va_sld hx hb hX hbl hbA hS hj1 dL_law_882 ?_
        refine z_cV_i hx hb hml hown hU hK hN hP hS 1 (p_101 hW) rfl rfl (zU_V uL_L_114 uI_X8_loads uS_X8_loads uN_X8 uC_X8_loads) yd_X8_loads ⟨rfl, rfl⟩ ⟨(Nat.le_of_ble_eq_true rfl), (Nat.le_of_ble_eq_true rfl)⟩ (As := [.int (xs (nI (7 * k) + 1).toNatClampNeg)]) hF2 (fun o h9 => ctX8_loads hq hW h9) rfl hl.1 rfl (Nat.le_of_ble_eq_true rfl) dL_law_883 ⟨(Nat.le_of_ble_eq_true rfl), (Nat.le_of_ble_eq_true rfl)⟩ (fun H locs hP hS => ?_)
        refine lv_icmp_eq (tgt := 947) hx hb dL_law_886 (by decide) (fun _ => ?_) (fun c9 => absurd rfl c9)
        exact K947 S2 _ _ hI2 hP hS
      by_cases cs23 : op = 23
      · refine z_tblIn (v := 23) (off := 858) (tgt := 891) hx hb dL_law_33 cs23 (by decide) (by decide) (by decide) (by decide) ?_
        obtain ⟨r, S1, S2, hF1, hF2, hI2⟩ := hk_way (xs (nI (7 * k) + 1).toNatClampNeg) (xs (nI (7 * k) + 2).toNatClampNeg) (xs (nI (7 * k) + 3).toNatClampNeg) S hI
        refine lv_aload_n hx hb dL_law_891 rfl (lv_at hl 1 rfl) ?_
        refine lv_aload_n hx hb dL_law_892 rfl (lv_at hl 0 rfl) ?_
        refine lv_iload_n hx hb dL_law_893 rfl (lv_at hl 3 rfl) ?_
        refine lv_iconst (v := 1) hx hb dL_law_894 rfl ?_
        refine lv_iadd hx hb dL_law_895 ?_
        refine va_sld hx hb hX hbl hbA hS hj1 dL_law_896 ?_
        refine lv_aload_n hx hb dL_law_897 rfl (lv_at hl 0 rfl) ?_
        refine lv_iload_n hx hb dL_law_898 rfl (lv_at hl 3 rfl) ?_
        refine lv_iconst (v := 2) hx hb dL_law_899 rfl ?_
        refine lv_iadd hx hb dL_law_900 ?_
        refine va_sld hx hb hX hbl hbA hS hj2 dL_law_901 ?_
        refine lv_aload_n hx hb dL_law_902 rfl (lv_at hl 0 rfl) ?_
        refine lv_iload_n hx hb dL_law_903 rfl (lv_at hl 3 rfl) ?_
        refine lv_iconst (v := 3) hx hb dL_law_904 rfl ?_
        refine lv_iadd hx hb dL_law_905 ?_
        refine va_sld hx hb hX hbl hbA hS hj3 dL_law_906 ?_
        refine z_cV_i hx hb hml hown hU hK hN hP hS 3 (p_0 hW) rfl rfl (zU_V uL_L_115 uI_X7_way uS_X7_way uN_X7 uC_X7_way) yd_X7_way ⟨rfl, rfl⟩ ⟨(Nat.le_of_ble_eq_true rfl), (Nat.le_of_ble_eq_true rfl)⟩ (As := [.int (xs (nI (7 * k) + 1).toNatClampNeg), .int (xs (nI (7 * k) + 2).toNatClampNeg), .int (xs (nI (7 * k) + 3).toNatClampNeg)]) hF1 (fun o h9 => ctX7_way hq hW h9) rfl hl.1 rfl (Nat.le_of_ble_eq_true rfl) dL_law_907 ⟨(Nat.le_of_ble_eq_true rfl), (Nat.le_of_ble_eq_true rfl)⟩ (fun H locs hP hS => ?_)
        refine lv_aload_n hx hb dL_law_910 rfl (lv_at hl 2 rfl) ?_
        refine lv_aload_n hx hb dL_law_911 rfl (lv_at hl 0 rfl) ?_
        refine lv_iload_n hx hb dL_law_912 rfl (lv_at hl 3 rfl) ?_
        refine lv_iconst (v := 1) hx hb dL_law_913 rfl ?_
        refine lv_iadd hx hb dL_law_914 ?_
        refine va_sld hx hb hX hbl hbA hS hj1 dL_law_915 ?_
        refine lv_aload_n hx hb dL_law_916 rfl (lv_at hl 0 rfl) ?_
        refine lv_iload_n hx hb dL_law_917 rfl (lv_at hl 3 rfl) ?_
        refine lv_iconst (v := 2) hx hb dL_law_918 rfl ?_
        refine lv_iadd hx hb dL_law_919 ?_
        refine va_sld hx hb hX hbl hbA hS hj2 dL_law_920 ?_
        refine lv_aload_n hx hb dL_law_921 rfl (lv_at hl 0 rfl) ?_
        refine lv_iload_n hx hb dL_law_922 rfl (lv_at hl 3 rfl) ?_
        refine lv_iconst (v := 3) hx hb dL_law_923 rfl ?_
        refine lv_iadd hx hb dL_law_924 ?_
        refine va_sld hx hb hX hbl hbA hS hj3 dL_law_925 ?_
        refine z_cV_i hx hb hml hown hU hK hN hP hS 3 (p_101 hW) rfl rfl (zU_V uL_L_118 uI_X8_way uS_X8_way uN_X8 uC_X8_way) yd_X8_way ⟨rfl, rfl⟩ ⟨(Nat.le_of_ble_eq_true rfl), (Nat.le_of_ble_eq_true rfl)⟩ (As := [.int (xs (nI (7 * k) + 1).toNatClampNeg), .int (xs (nI (7 * k) + 2).toNatClampNeg), .int (xs (nI (7 * k) + 3).toNatClampNeg)]) hF2 (fun o h9 => ctX8_way hq hW h9) rfl hl.1 rfl (Nat.le_of_ble_eq_true rfl) dL_law_926 ⟨(Nat.le_of_ble_eq_true rfl), (Nat.le_of_ble_eq_true rfl)⟩ (fun H locs hP hS => ?_)
        refine lv_icmp_eq (tgt := 947) hx hb dL_law_929 (by decide) (fun _ => ?_) (fun c9 => absurd rfl c9)
        exact K947 S2 _ _ hI2 hP hS
      by_cases cs24 : op = 24
      · refine z_tblIn (v := 24) (off := 901) (tgt := 934) hx hb dL_law_33 cs24 (by decide) (by decide) (by decide) (by decide) ?_
        obtain ⟨r, S1, S2, hF1, hF2, hI2⟩ := hk_undo  S hI
        refine lv_aload_n hx hb dL_law_934 rfl (lv_at hl 1 rfl) ?_
        refine z_cV_i hx hb hml hown hU hK hN hP hS 0 (p_0 hW) rfl rfl (zU_V uL_L_119 uI_X7_undo uS_X7_undo uN_X7 uC_X7_undo) yd_X7_undo ⟨rfl, rfl⟩ ⟨(Nat.le_of_ble_eq_true rfl), (Nat.le_of_ble_eq_true rfl)⟩ (As := []) hF1 (fun o h9 => ctX7_undo hq hW h9) rfl hl.1 rfl (Nat.le_of_ble_eq_true rfl) dL_law_935 ⟨(Nat.le_of_ble_eq_true rfl), (Nat.le_of_ble_eq_true rfl)⟩ (fun H locs hP hS => ?_)
        refine lv_aload_n hx hb dL_law_938 rfl (lv_at hl 2 rfl) ?_
        refine z_cV_i hx hb hml hown hU hK hN hP hS 0 (p_101 hW) rfl rfl (zU_V uL_L_122 uI_X8_undo uS_X8_undo uN_X8 uC_X8_undo) yd_X8_undo ⟨rfl, rfl⟩ ⟨(Nat.le_of_ble_eq_true rfl), (Nat.le_of_ble_eq_true rfl)⟩ (As := []) hF2 (fun o h9 => ctX8_undo hq hW h9) rfl hl.1 rfl (Nat.le_of_ble_eq_true rfl) dL_law_939 ⟨(Nat.le_of_ble_eq_true rfl), (Nat.le_of_ble_eq_true rfl)⟩ (fun H locs hP hS => ?_)
        refine lv_icmp_eq (tgt := 947) hx hb dL_law_942 (by decide) (fun _ => ?_) (fun c9 => absurd rfl c9)
        exact K947 S2 _ _ hI2 hP hS
      refine lv_tableOut (tgt := 947) hx hb dL_law_33 (z_out25 cs0 cs1 cs2 cs3 cs4 cs5 cs6 cs7 cs8 cs9 cs10 cs11 cs12 cs13 cs14 cs15 cs16 cs17 cs18 cs19 cs20 cs21 cs22 cs23 cs24) (by decide) ?_
      exact K947 S _ _ hI hP hS
