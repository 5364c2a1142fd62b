/-! ===== the law's body (by program) ===== -/
def Fc_200 (o L : Nat) (S : Nat → Int32) (i : Int32) (M : z_Mem) (c : z_Mem → Option (Int32 × z_Mem)) : Option (Int32 × z_Mem) :=
  (if z_inb (i + (1 : Int32)) L then (if z_inb (i + (2 : Int32)) L then (if z_inb (i + (3 : Int32)) L then (if z_inb (i + (4 : Int32)) L then (if z_inb (i + (5 : Int32)) L then (zb2 (F_Sys_feed o (S ((i + (1 : Int32))).toNatClampNeg) (S ((i + (2 : Int32))).toNatClampNeg) (S ((i + (3 : Int32))).toNatClampNeg) (S ((i + (4 : Int32))).toNatClampNeg) (S ((i + (5 : Int32))).toNatClampNeg) M) fun r1 M2 => (if z_inb (i + (1 : Int32)) L then (if z_inb (i + (2 : Int32)) L then (if z_inb (i + (3 : Int32)) L then (if z_inb (i + (4 : Int32)) L then (if z_inb (i + (5 : Int32)) L then (zb2 (F_Model_feed (o + 548) (S ((i + (1 : Int32))).toNatClampNeg) (S ((i + (2 : Int32))).toNatClampNeg) (S ((i + (3 : Int32))).toNatClampNeg) (S ((i + (4 : Int32))).toNatClampNeg) (S ((i + (5 : Int32))).toNatClampNeg) M2) fun r3 M4 => (if r1 = r3 then c M4 else some ((0 : Int32), M4))) else none) else none) else none) else none) else none)) else none) else none) else none) else none) else none)
set_option maxHeartbeats 4000000 in
set_option maxRecDepth 100000 in
theorem t_200 {X : z_X} (hX : z_ok X) (hN : z_okN X) {G : z_Gr} {o : Nat} (hG : g_Sys G o) (hm : g_Model G (o + 548)) (ha : G.1 (o + 573) = some (.inr (2, 1))) {F : z_F} (B : z_B X F RL cL_law 9 (some .boolean)) (hR : F.2.2.1 = ({ frames := 2048, cells := 601024, slots := 7293034, locals := 84000 } : Room)) {b L : Nat} {S : Nat → Int32} (hx : va_X b L S X.2.1 X.2.1.heap) (hb : b < z_o X) {k n : Nat} (hk : k + 6 ≤ 601024) (hn : n + 36 ≤ 7293034) {b0 : Int32 × z_Mem} {c : z_Mem → Option (Int32 × z_Mem)} (i : Int32) (M : z_Mem) (kk : ∀ M1, z_K X F 9 601024 7293034 G z_cim b0 (k + 6) (n + 36) 2156 [(4, .int i), (3, .ref (o + 573)), (2, .ref (o + 548)), (1, .ref o), (0, .ref b)] [] M1 (c M1)) : z_K X F 9 601024 7293034 G z_cim b0 k n 200 [(4, .int i), (3, .ref (o + 573)), (2, .ref (o + 548)), (1, .ref o), (0, .ref b)] [] M (Fc_200 o L S i M c) := by
  unfold Fc_200
  refine zk_aload_n (pc := 200) B dL_law_200 3 rfl rfl ?_
  refine zk_aload_n (pc := 201) B dL_law_201 4 rfl rfl ?_
  refine zk_iload (pc := 202) B dL_law_202 0 rfl ?_
  refine zk_iconst (v := 1) (pc := 204) B dL_law_204 (by decide) ?_
  refine zk_iadd (pc := 205) B dL_law_205 ?_
  refine zk_sld (pc := 206) B hx hb dL_law_206 ?_
  refine zk_aload_n (pc := 207) B dL_law_207 4 rfl rfl ?_
  refine zk_iload (pc := 208) B dL_law_208 0 rfl ?_
  refine zk_iconst (v := 2) (pc := 210) B dL_law_210 (by decide) ?_
  refine zk_iadd (pc := 211) B dL_law_211 ?_
  refine zk_sld (pc := 212) B hx hb dL_law_212 ?_
  refine zk_aload_n (pc := 213) B dL_law_213 4 rfl rfl ?_
  refine zk_iload (pc := 214) B dL_law_214 0 rfl ?_
  refine zk_iconst (v := 3) (pc := 216) B dL_law_216 (by decide) ?_
  refine zk_iadd (pc := 217) B dL_law_217 ?_
  refine zk_sld (pc := 218) B hx hb dL_law_218 ?_
  refine zk_aload_n (pc := 219) B dL_law_219 4 rfl rfl ?_
  refine zk_iload (pc := 220) B dL_law_220 0 rfl ?_
  refine zk_iconst (v := 4) (pc := 222) B dL_law_222 (by decide) ?_
  refine zk_iadd (pc := 223) B dL_law_223 ?_
  refine zk_sld (pc := 224) B hx hb dL_law_224 ?_
  refine zk_aload_n (pc := 225) B dL_law_225 4 rfl rfl ?_
  refine zk_iload (pc := 226) B dL_law_226 0 rfl ?_
  refine zk_iconst (v := 5) (pc := 228) B dL_law_228 (by decide) ?_
  refine zk_iadd (pc := 229) B dL_law_229 ?_
  refine zk_sld (pc := 230) B hx hb dL_law_230 ?_
  refine zk_cim (pc := 231) (k' := k) (n' := n) B (by show _ + 0 = _; omega) (by show _ + 0 = _; omega) (by omega) (by omega) (fun b9 hb9 => zr_V B hR kV_yX11_feed km_L_103 kx_11 (gSys_s hG) [.int (S ((i + (1 : Int32))).toNatClampNeg), .int (S ((i + (2 : Int32))).toNatClampNeg), .int (S ((i + (3 : Int32))).toNatClampNeg), .int (S ((i + (4 : Int32))).toNatClampNeg), .int (S ((i + (5 : Int32))).toNatClampNeg)] rfl rfl (Nat.le_of_ble_eq_true rfl) dL_law_231 (m_Sys_feed hX hG (S ((i + (1 : Int32))).toNatClampNeg) (S ((i + (2 : Int32))).toNatClampNeg) (S ((i + (3 : Int32))).toNatClampNeg) (S ((i + (4 : Int32))).toNatClampNeg) (S ((i + (5 : Int32))).toNatClampNeg) M b9 hb9) ⟨(Nat.le_of_ble_eq_true rfl), (Nat.le_of_ble_eq_true rfl)⟩ ⟨by show k + 0 ≤ 601024; omega, by show n + 0 ≤ 7293034; omega⟩) (fun r1 M2 => ?_)
  refine zk_aload_n (pc := 234) B dL_law_234 2 rfl rfl ?_
  refine zk_aload_n (pc := 235) B dL_law_235 4 rfl rfl ?_
  refine zk_iload (pc := 236) B dL_law_236 0 rfl ?_
  refine zk_iconst (v := 1) (pc := 238) B dL_law_238 (by decide) ?_
  refine zk_iadd (pc := 239) B dL_law_239 ?_
  refine zk_sld (pc := 240) B hx hb dL_law_240 ?_
  refine zk_aload_n (pc := 241) B dL_law_241 4 rfl rfl ?_
  refine zk_iload (pc := 242) B dL_law_242 0 rfl ?_
  refine zk_iconst (v := 2) (pc := 244) B dL_law_244 (by decide) ?_
  refine zk_iadd (pc := 245) B dL_law_245 ?_
  refine zk_sld (pc := 246) B hx hb dL_law_246 ?_
  refine zk_aload_n (pc := 247) B dL_law_247 4 rfl rfl ?_
  refine zk_iload (pc := 248) B dL_law_248 0 rfl ?_
  refine zk_iconst (v := 3) (pc := 250) B dL_law_250 (by decide) ?_
  refine zk_iadd (pc := 251) B dL_law_251 ?_
  refine zk_sld (pc := 252) B hx hb dL_law_252 ?_
  refine zk_aload_n (pc := 253) B dL_law_253 4 rfl rfl ?_
  refine zk_iload (pc := 254) B dL_law_254 0 rfl ?_
  refine zk_iconst (v := 4) (pc := 256) B dL_law_256 (by decide) ?_
  refine zk_iadd (pc := 257) B dL_law_257 ?_
  refine zk_sld (pc := 258) B hx hb dL_law_258 ?_
  refine zk_aload_n (pc := 259) B dL_law_259 4 rfl rfl ?_
  refine zk_iload (pc := 260) B dL_law_260 0 rfl ?_
  refine zk_iconst (v := 5) (pc := 262) B dL_law_262 (by decide) ?_
  refine zk_iadd (pc := 263) B dL_law_263 ?_
  refine zk_sld (pc := 264) B hx hb dL_law_264 ?_
  refine zk_cim (pc := 265) (k' := k) (n' := n) B (by show _ + 0 = _; omega) (by show _ + 0 = _; omega) (by omega) (by omega) (fun b9 hb9 => zr_V B hR kV_yX12_feed km_L_106 kx_12 (gModel_s hm) [.int (S ((i + (1 : Int32))).toNatClampNeg), .int (S ((i + (2 : Int32))).toNatClampNeg), .int (S ((i + (3 : Int32))).toNatClampNeg), .int (S ((i + (4 : Int32))).toNatClampNeg), .int (S ((i + (5 : Int32))).toNatClampNeg)] rfl rfl (Nat.le_of_ble_eq_true rfl) dL_law_265 (m_Model_feed hX hm (S ((i + (1 : Int32))).toNatClampNeg) (S ((i + (2 : Int32))).toNatClampNeg) (S ((i + (3 : Int32))).toNatClampNeg) (S ((i + (4 : Int32))).toNatClampNeg) (S ((i + (5 : Int32))).toNatClampNeg) M2 b9 hb9) ⟨(Nat.le_of_ble_eq_true rfl), (Nat.le_of_ble_eq_true rfl)⟩ ⟨by show k + 0 ≤ 601024; omega, by show n + 0 ≤ 7293034; omega⟩) (fun r3 M4 => ?_)
  refine zk_icmp_eq (tgt := 2156) (pc := 268) B dL_law_268 (by decide) (fun _ => ?_) (fun _ => ?_)
  · exact (zk_widen (by omega) (by omega) (kk M4))
  · refine zk_iconst (v := 0) (pc := 271) B dL_law_271 (by decide) ?_
    exact zk_iret (pc := 272) B dL_law_272 rfl rfl (by omega) (by omega) rfl
def Fc_273 (o L : Nat) (S : Nat → Int32) (i : Int32) (M : z_Mem) (c : z_Mem → Option (Int32 × z_Mem)) : Option (Int32 × z_Mem) :=
  (if z_inb (i + (1 : Int32)) L then (zb2 (F_LW_load o (o + 573) (S ((i + (1 : Int32))).toNatClampNeg) M) fun r1 M2 => (if z_inb (i + (1 : Int32)) L then (zb2 (F_Model_load (o + 548) (S ((i + (1 : Int32))).toNatClampNeg) M2) fun r3 M4 => (zb (F_Model_thrown (o + 548) M4) fun r5 => (if r5 = r1 then (if r1 = 0 then (if z_inb (0 : Int32) 1 then (if (lg_cmp (M4.2 (o + 573) ((0 : Int32)).toNatClampNeg) (r3).toInt64) = 0 then c M4 else some ((0 : Int32), M4)) else none) else c M4) else some ((0 : Int32), M4)))) else none)) else none)
set_option maxHeartbeats 4000000 in
set_option maxRecDepth 100000 in
theorem t_273 {X : z_X} (hX : z_ok X) (hN : z_okN X) {G : z_Gr} {o : Nat} (hG : g_Sys G o) (hm : g_Model G (o + 548)) (ha : G.1 (o + 573) = some (.inr (2, 1))) {F : z_F} (B : z_B X F RL cL_law 9 (some .boolean)) (hR : F.2.2.1 = ({ frames := 2048, cells := 601024, slots := 7293034, locals := 84000 } : Room)) {b L : Nat} {S : Nat → Int32} (hx : va_X b L S X.2.1 X.2.1.heap) (hb : b < z_o X) {k n : Nat} (hk : k + 6 ≤ 601024) (hn : n + 36 ≤ 7293034) {b0 : Int32 × z_Mem} {c : z_Mem → Option (Int32 × z_Mem)} (i : Int32) (M : z_Mem) (kk : ∀ M1, z_K X F 9 601024 7293034 G z_cim b0 (k + 6) (n + 36) 2156 [(4, .int i), (3, .ref (o + 573)), (2, .ref (o + 548)), (1, .ref o), (0, .ref b)] [] M1 (c M1)) : z_K X F 9 601024 7293034 G z_cim b0 k n 273 [(4, .int i), (3, .ref (o + 573)), (2, .ref (o + 548)), (1, .ref o), (0, .ref b)] [] M (Fc_273 o L S i M c) := by
  unfold Fc_273
  refine zk_aload_n (pc := 273) B dL_law_273 3 rfl rfl ?_
  refine zk_aload_n (pc := 274) B dL_law_274 4 rfl rfl ?_
  refine zk_iload (pc := 275) B dL_law_275 0 rfl ?_
  refine zk_iconst (v := 1) (pc := 277) B dL_law_277 (by decide) ?_
  refine zk_iadd (pc := 278) B dL_law_278 ?_
  refine zk_sld (pc := 279) B hx hb dL_law_279 ?_
  refine zk_aload_n (pc := 280) B dL_law_280 1 rfl rfl ?_
  refine zk_cim (pc := 281) (k' := k + 1) (n' := n + 6) B (by show _ + 1 = _; omega) (by show _ + 6 = _; omega) (by omega) (by omega) (fun b9 hb9 => zr_W B hR kW_load km_L_107 [.ref o, .int (S ((i + (1 : Int32))).toNatClampNeg), .ref (o + 573)] rfl rfl (Nat.le_of_ble_eq_true rfl) dL_law_281 (w_load hX hN hG ha (S ((i + (1 : Int32))).toNatClampNeg) M b9 hb9) ⟨(Nat.le_of_ble_eq_true rfl), (Nat.le_of_ble_eq_true rfl)⟩ ⟨by show k + 1 ≤ 601024; omega, by show n + 6 ≤ 7293034; omega⟩) (fun r1 M2 => ?_)
  refine zk_istore (pc := 284) B dL_law_284 (by decide) rfl ?_
  refine zk_aload_n (pc := 286) B dL_law_286 3 rfl rfl ?_
  refine zk_aload_n (pc := 287) B dL_law_287 5 rfl rfl ?_
  refine zk_iload (pc := 288) B dL_law_288 1 rfl ?_
  refine zk_iconst (v := 1) (pc := 290) B dL_law_290 (by decide) ?_
  refine zk_iadd (pc := 291) B dL_law_291 ?_
  refine zk_sld (pc := 292) B hx hb dL_law_292 ?_
  refine zk_cim (pc := 293) (k' := k + 1) (n' := n + 6) B (by show _ + 0 = _; omega) (by show _ + 0 = _; omega) (by omega) (by omega) (fun b9 hb9 => zr_V B hR kV_yX12_load km_L_112 kx_12 (gModel_s hm) [.int (S ((i + (1 : Int32))).toNatClampNeg)] rfl rfl (Nat.le_of_ble_eq_true rfl) dL_law_293 (m_Model_load hX hm (S ((i + (1 : Int32))).toNatClampNeg) M2 b9 hb9) ⟨(Nat.le_of_ble_eq_true rfl), (Nat.le_of_ble_eq_true rfl)⟩ ⟨by show k + 1 + 0 ≤ 601024; omega, by show n + 6 + 0 ≤ 7293034; omega⟩) (fun r3 M4 => ?_)
  refine zk_istore (pc := 296) B dL_law_296 (by decide) rfl ?_
  refine zk_aload_n (pc := 298) B dL_law_298 4 rfl rfl ?_
  refine zk_cpi (pc := 299) (k' := k + 1) (n' := n + 6) B (by show _ + 0 = _; omega) (by show _ + 0 = _; omega) (by omega) (by omega) (fun b9 hb9 => zr_V B hR kV_yX12_thrown km_L_113 kx_12 (gModel_s hm) [] rfl rfl (Nat.le_of_ble_eq_true rfl) dL_law_299 (m_Model_thrown hX hm M4 b9 hb9) ⟨(Nat.le_of_ble_eq_true rfl), (Nat.le_of_ble_eq_true rfl)⟩ ⟨by show k + 1 + 0 ≤ 601024; omega, by show n + 6 + 0 ≤ 7293034; omega⟩) (fun r5 _ => ?_)
  refine zk_iload (pc := 302) B dL_law_302 1 rfl ?_
  refine zk_icmp_eq (tgt := 309) (pc := 304) B dL_law_304 (by decide) (fun _ => ?_) (fun _ => ?_)
  · refine zk_iload (pc := 309) B dL_law_309 1 rfl ?_
    refine zk_if_ne (tgt := 326) (pc := 311) B dL_law_311 (by decide) (fun _ => ?_) (fun _ => ?_)
    · refine zk_goto (tgt := 2156) (pc := 326) B dL_law_326 (by decide) ?_
      exact zk_sub [2, 3, 4, 5, 6] rfl (zk_widen (by omega) (by omega) (kk M4))
    · refine zk_aload_n (pc := 314) B dL_law_314 3 rfl rfl ?_
      refine zk_iconst (v := 0) (pc := 315) B dL_law_315 (by decide) ?_
      refine zk_lald (pc := 316) B ha dL_law_316 ?_
      refine zk_iload (pc := 317) B dL_law_317 0 rfl ?_
      refine zk_i2l (pc := 319) B dL_law_319 ?_
      refine zk_lcmp (pc := 320) B dL_law_320 ?_
      refine zk_if_eq (tgt := 326) (pc := 321) B dL_law_321 (by decide) (fun _ => ?_) (fun _ => ?_)
      · refine zk_goto (tgt := 2156) (pc := 326) B dL_law_326 (by decide) ?_
        exact zk_sub [2, 3, 4, 5, 6] rfl (zk_widen (by omega) (by omega) (kk M4))
      · refine zk_iconst (v := 0) (pc := 324) B dL_law_324 (by decide) ?_
        exact zk_iret (pc := 325) B dL_law_325 rfl rfl (by omega) (by omega) rfl
  · refine zk_iconst (v := 0) (pc := 307) B dL_law_307 (by decide) ?_
    exact zk_iret (pc := 308) B dL_law_308 rfl rfl (by omega) (by omega) rfl
def Fc_329 (o L : Nat) (S : Nat → Int32) (i : Int32) (M : z_Mem) (c : z_Mem → Option (Int32 × z_Mem)) : Option (Int32 × z_Mem) :=
  (zb (F_Sys_errorPosition o M) fun r1 => (zb2 (F_Model_errorPosition (o + 548) M) fun r2 M3 => (if r1 = r2 then c M3 else some ((0 : Int32), M3))))
set_option maxHeartbeats 4000000 in
set_option maxRecDepth 100000 in
theorem t_329 {X : z_X} (hX : z_ok X) (hN : z_okN X) {G : z_Gr} {o : Nat} (hG : g_Sys G o) (hm : g_Model G (o + 548)) (ha : G.1 (o + 573) = some (.inr (2, 1))) {F : z_F} (B : z_B X F RL cL_law 9 (some .boolean)) (hR : F.2.2.1 = ({ frames := 2048, cells := 601024, slots := 7293034, locals := 84000 } : Room)) {b L : Nat} {S : Nat → Int32} (hx : va_X b L S X.2.1 X.2.1.heap) (hb : b < z_o X) {k n : Nat} (hk : k + 6 ≤ 601024) (hn : n + 36 ≤ 7293034) {b0 : Int32 × z_Mem} {c : z_Mem → Option (Int32 × z_Mem)} (i : Int32) (M : z_Mem) (kk : ∀ M1, z_K X F 9 601024 7293034 G z_cim b0 (k + 6) (n + 36) 2156 [(4, .int i), (3, .ref (o + 573)), (2, .ref (o + 548)), (1, .ref o), (0, .ref b)] [] M1 (c M1)) : z_K X F 9 601024 7293034 G z_cim b0 k n 329 [(4, .int i), (3, .ref (o + 573)), (2, .ref (o + 548)), (1, .ref o), (0, .ref b)] [] M (Fc_329 o L S i M c) := by
  unfold Fc_329
  refine zk_aload_n (pc := 329) B dL_law_329 3 rfl rfl ?_
  refine zk_cpi (pc := 330) (k' := k) (n' := n) B (by show _ + 0 = _; omega) (by show _ + 0 = _; omega) (by omega) (by omega) (fun b9 hb9 => zr_V B hR kV_yX11_errorPosition km_L_117 kx_11 (gSys_s hG) [] rfl rfl (Nat.le_of_ble_eq_true rfl) dL_law_330 (m_Sys_errorPosition hX hG M b9 hb9) ⟨(Nat.le_of_ble_eq_true rfl), (Nat.le_of_ble_eq_true rfl)⟩ ⟨by show k + 0 ≤ 601024; omega, by show n + 0 ≤ 7293034; omega⟩) (fun r1 _ => ?_)
  refine zk_aload_n (pc := 333) B dL_law_333 2 rfl rfl ?_
  refine zk_cim (pc := 334) (k' := k) (n' := n) B (by show _ + 0 = _; omega) (by show _ + 0 = _; omega) (by omega) (by omega) (fun b9 hb9 => zr_V B hR kV_yX12_errorPosition km_L_120 kx_12 (gModel_s hm) [] rfl rfl (Nat.le_of_ble_eq_true rfl) dL_law_334 (m_Model_errorPosition hX hm M b9 hb9) ⟨(Nat.le_of_ble_eq_true rfl), (Nat.le_of_ble_eq_true rfl)⟩ ⟨by show k + 0 ≤ 601024; omega, by show n + 0 ≤ 7293034; omega⟩) (fun r2 M3 => ?_)
  refine zk_icmp_eq (tgt := 2156) (pc := 337) B dL_law_337 (by decide) (fun _ => ?_) (fun _ => ?_)
  · exact (zk_widen (by omega) (by omega) (kk M3))
  · refine zk_iconst (v := 0) (pc := 340) B dL_law_340 (by decide) ?_
    exact zk_iret (pc := 341) B dL_law_341 rfl rfl (by omega) (by omega) rfl
def Fc_342 (o L : Nat) (S : Nat → Int32) (i : Int32) (M : z_Mem) (c : z_Mem → Option (Int32 × z_Mem)) : Option (Int32 × z_Mem) :=
  (if z_inb (i + (1 : Int32)) L then (zb2 (F_LW_size o (o + 573) (S ((i + (1 : Int32))).toNatClampNeg) M) fun r1 M2 => (if z_inb (i + (1 : Int32)) L then (zb2 (F_Model_size (o + 548) (S ((i + (1 : Int32))).toNatClampNeg) M2) fun r3 M4 => (zb (F_Model_thrown (o + 548) M4) fun r5 => (if r5 = r1 then (if r1 = 0 then (if z_inb (0 : Int32) 1 then (if (lg_cmp (M4.2 (o + 573) ((0 : Int32)).toNatClampNeg) (r3).toInt64) = 0 then c M4 else some ((0 : Int32), M4)) else none) else c M4) else some ((0 : Int32), M4)))) else none)) else none)
set_option maxHeartbeats 4000000 in
set_option maxRecDepth 100000 in
theorem t_342 {X : z_X} (hX : z_ok X) (hN : z_okN X) {G : z_Gr} {o : Nat} (hG : g_Sys G o) (hm : g_Model G (o + 548)) (ha : G.1 (o + 573) = some (.inr (2, 1))) {F : z_F} (B : z_B X F RL cL_law 9 (some .boolean)) (hR : F.2.2.1 = ({ frames := 2048, cells := 601024, slots := 7293034, locals := 84000 } : Room)) {b L : Nat} {S : Nat → Int32} (hx : va_X b L S X.2.1 X.2.1.heap) (hb : b < z_o X) {k n : Nat} (hk : k + 6 ≤ 601024) (hn : n + 36 ≤ 7293034) {b0 : Int32 × z_Mem} {c : z_Mem → Option (Int32 × z_Mem)} (i : Int32) (M : z_Mem) (kk : ∀ M1, z_K X F 9 601024 7293034 G z_cim b0 (k + 6) (n + 36) 2156 [(4, .int i), (3, .ref (o + 573)), (2, .ref (o + 548)), (1, .ref o), (0, .ref b)] [] M1 (c M1)) : z_K X F 9 601024 7293034 G z_cim b0 k n 342 [(4, .int i), (3, .ref (o + 573)), (2, .ref (o + 548)), (1, .ref o), (0, .ref b)] [] M (Fc_342 o L S i M c) := by
  unfold Fc_342
  refine zk_aload_n (pc := 342) B dL_law_342 3 rfl rfl ?_
  refine zk_aload_n (pc := 343) B dL_law_343 4 rfl rfl ?_
  refine zk_iload (pc := 344) B dL_law_344 0 rfl ?_
  refine zk_iconst (v := 1) (pc := 346) B dL_law_346 (by decide) ?_
  refine zk_iadd (pc := 347) B dL_law_347 ?_
  refine zk_sld (pc := 348) B hx hb dL_law_348 ?_
  refine zk_aload_n (pc := 349) B dL_law_349 1 rfl rfl ?_
  refine zk_cim (pc := 350) (k' := k + 1) (n' := n + 6) B (by show _ + 1 = _; omega) (by show _ + 6 = _; omega) (by omega) (by omega) (fun b9 hb9 => zr_W B hR kW_size km_L_121 [.ref o, .int (S ((i + (1 : Int32))).toNatClampNeg), .ref (o + 573)] rfl rfl (Nat.le_of_ble_eq_true rfl) dL_law_350 (w_size hX hN hG ha (S ((i + (1 : Int32))).toNatClampNeg) M b9 hb9) ⟨(Nat.le_of_ble_eq_true rfl), (Nat.le_of_ble_eq_true rfl)⟩ ⟨by show k + 1 ≤ 601024; omega, by show n + 6 ≤ 7293034; omega⟩) (fun r1 M2 => ?_)
  refine zk_istore (pc := 353) B dL_law_353 (by decide) rfl ?_
  refine zk_aload_n (pc := 355) B dL_law_355 3 rfl rfl ?_
  refine zk_aload_n (pc := 356) B dL_law_356 5 rfl rfl ?_
  refine zk_iload (pc := 357) B dL_law_357 1 rfl ?_
  refine zk_iconst (v := 1) (pc := 359) B dL_law_359 (by decide) ?_
  refine zk_iadd (pc := 360) B dL_law_360 ?_
  refine zk_sld (pc := 361) B hx hb dL_law_361 ?_
  refine zk_cim (pc := 362) (k' := k + 1) (n' := n + 6) B (by show _ + 0 = _; omega) (by show _ + 0 = _; omega) (by omega) (by omega) (fun b9 hb9 => zr_V B hR kV_yX12_size km_L_123 kx_12 (gModel_s hm) [.int (S ((i + (1 : Int32))).toNatClampNeg)] rfl rfl (Nat.le_of_ble_eq_true rfl) dL_law_362 (m_Model_size hX hm (S ((i + (1 : Int32))).toNatClampNeg) M2 b9 hb9) ⟨(Nat.le_of_ble_eq_true rfl), (Nat.le_of_ble_eq_true rfl)⟩ ⟨by show k + 1 + 0 ≤ 601024; omega, by show n + 6 + 0 ≤ 7293034; omega⟩) (fun r3 M4 => ?_)
  refine zk_istore (pc := 365) B dL_law_365 (by decide) rfl ?_
  refine zk_aload_n (pc := 367) B dL_law_367 4 rfl rfl ?_
  refine zk_cpi (pc := 368) (k' := k + 1) (n' := n + 6) B (by show _ + 0 = _; omega) (by show _ + 0 = _; omega) (by omega) (by omega) (fun b9 hb9 => zr_V B hR kV_yX12_thrown km_L_113 kx_12 (gModel_s hm) [] rfl rfl (Nat.le_of_ble_eq_true rfl) dL_law_368 (m_Model_thrown hX hm M4 b9 hb9) ⟨(Nat.le_of_ble_eq_true rfl), (Nat.le_of_ble_eq_true rfl)⟩ ⟨by show k + 1 + 0 ≤ 601024; omega, by show n + 6 + 0 ≤ 7293034; omega⟩) (fun r5 _ => ?_)
  refine zk_iload (pc := 371) B dL_law_371 1 rfl ?_
  refine zk_icmp_eq (tgt := 378) (pc := 373) B dL_law_373 (by decide) (fun _ => ?_) (fun _ => ?_)
  · refine zk_iload (pc := 378) B dL_law_378 1 rfl ?_
    refine zk_if_ne (tgt := 395) (pc := 380) B dL_law_380 (by decide) (fun _ => ?_) (fun _ => ?_)
    · refine zk_goto (tgt := 2156) (pc := 395) B dL_law_395 (by decide) ?_
      exact zk_sub [2, 3, 4, 5, 6] rfl (zk_widen (by omega) (by omega) (kk M4))
    · refine zk_aload_n (pc := 383) B dL_law_383 3 rfl rfl ?_
      refine zk_iconst (v := 0) (pc := 384) B dL_law_384 (by decide) ?_
      refine zk_lald (pc := 385) B ha dL_law_385 ?_
      refine zk_iload (pc := 386) B dL_law_386 0 rfl ?_
      refine zk_i2l (pc := 388) B dL_law_388 ?_
      refine zk_lcmp (pc := 389) B dL_law_389 ?_
      refine zk_if_eq (tgt := 395) (pc := 390) B dL_law_390 (by decide) (fun _ => ?_) (fun _ => ?_)
      · refine zk_goto (tgt := 2156) (pc := 395) B dL_law_395 (by decide) ?_
        exact zk_sub [2, 3, 4, 5, 6] rfl (zk_widen (by omega) (by omega) (kk M4))
      · refine zk_iconst (v := 0) (pc := 393) B dL_law_393 (by decide) ?_
        exact zk_iret (pc := 394) B dL_law_394 rfl rfl (by omega) (by omega) rfl
  · refine zk_iconst (v := 0) (pc := 376) B dL_law_376 (by decide) ?_
    exact zk_iret (pc := 377) B dL_law_377 rfl rfl (by omega) (by omega) rfl
def Fc_398 (o L : Nat) (S : Nat → Int32) (i : Int32) (M : z_Mem) (c : z_Mem → Option (Int32 × z_Mem)) : Option (Int32 × z_Mem) :=
  (if z_inb (i + (1 : Int32)) L then (zb2 (F_LW_rule o (o + 573) (S ((i + (1 : Int32))).toNatClampNeg) M) fun r1 M2 => (if z_inb (i + (1 : Int32)) L then (zb2 (F_Model_rule (o + 548) (S ((i + (1 : Int32))).toNatClampNeg) M2) fun r3 M4 => (zb (F_Model_thrown (o + 548) M4) fun r5 => (if r5 = r1 then (if r1 = 0 then (if z_inb (0 : Int32) 1 then (if (lg_cmp (M4.2 (o + 573) ((0 : Int32)).toNatClampNeg) (r3).toInt64) = 0 then c M4 else some ((0 : Int32), M4)) else none) else c M4) else some ((0 : Int32), M4)))) else none)) else none)
set_option maxHeartbeats 4000000 in
set_option maxRecDepth 100000 in
theorem t_398 {X : z_X} (hX : z_ok X) (hN : z_okN X) {G : z_Gr} {o : Nat} (hG : g_Sys G o) (hm : g_Model G (o + 548)) (ha : G.1 (o + 573) = some (.inr (2, 1))) {F : z_F} (B : z_B X F RL cL_law 9 (some .boolean)) (hR : F.2.2.1 = ({ frames := 2048, cells := 601024, slots := 7293034, locals := 84000 } : Room)) {b L : Nat} {S : Nat → Int32} (hx : va_X b L S X.2.1 X.2.1.heap) (hb : b < z_o X) {k n : Nat} (hk : k + 6 ≤ 601024) (hn : n + 36 ≤ 7293034) {b0 : Int32 × z_Mem} {c : z_Mem → Option (Int32 × z_Mem)} (i : Int32) (M : z_Mem) (kk : ∀ M1, z_K X F 9 601024 7293034 G z_cim b0 (k + 6) (n + 36) 2156 [(4, .int i), (3, .ref (o + 573)), (2, .ref (o + 548)), (1, .ref o), (0, .ref b)] [] M1 (c M1)) : z_K X F 9 601024 7293034 G z_cim b0 k n 398 [(4, .int i), (3, .ref (o + 573)), (2, .ref (o + 548)), (1, .ref o), (0, .ref b)] [] M (Fc_398 o L S i M c) := by
  unfold Fc_398
  refine zk_aload_n (pc := 398) B dL_law_398 3 rfl rfl ?_
  refine zk_aload_n (pc := 399) B dL_law_399 4 rfl rfl ?_
  refine zk_iload (pc := 400) B dL_law_400 0 rfl ?_
  refine zk_iconst (v := 1) (pc := 402) B dL_law_402 (by decide) ?_
  refine zk_iadd (pc := 403) B dL_law_403 ?_
  refine zk_sld (pc := 404) B hx hb dL_law_404 ?_
  refine zk_aload_n (pc := 405) B dL_law_405 1 rfl rfl ?_
  refine zk_cim (pc := 406) (k' := k + 1) (n' := n + 6) B (by show _ + 1 = _; omega) (by show _ + 6 = _; omega) (by omega) (by omega) (fun b9 hb9 => zr_W B hR kW_rule km_L_124 [.ref o, .int (S ((i + (1 : Int32))).toNatClampNeg), .ref (o + 573)] rfl rfl (Nat.le_of_ble_eq_true rfl) dL_law_406 (w_rule hX hN hG ha (S ((i + (1 : Int32))).toNatClampNeg) M b9 hb9) ⟨(Nat.le_of_ble_eq_true rfl), (Nat.le_of_ble_eq_true rfl)⟩ ⟨by show k + 1 ≤ 601024; omega, by show n + 6 ≤ 7293034; omega⟩) (fun r1 M2 => ?_)
  refine zk_istore (pc := 409) B dL_law_409 (by decide) rfl ?_
  refine zk_aload_n (pc := 411) B dL_law_411 3 rfl rfl ?_
  refine zk_aload_n (pc := 412) B dL_law_412 5 rfl rfl ?_
  refine zk_iload (pc := 413) B dL_law_413 1 rfl ?_
  refine zk_iconst (v := 1) (pc := 415) B dL_law_415 (by decide) ?_
  refine zk_iadd (pc := 416) B dL_law_416 ?_
  refine zk_sld (pc := 417) B hx hb dL_law_417 ?_
  refine zk_cim (pc := 418) (k' := k + 1) (n' := n + 6) B (by show _ + 0 = _; omega) (by show _ + 0 = _; omega) (by omega) (by omega) (fun b9 hb9 => zr_V B hR kV_yX12_rule km_L_126 kx_12 (gModel_s hm) [.int (S ((i + (1 : Int32))).toNatClampNeg)] rfl rfl (Nat.le_of_ble_eq_true rfl) dL_law_418 (m_Model_rule hX hm (S ((i + (1 : Int32))).toNatClampNeg) M2 b9 hb9) ⟨(Nat.le_of_ble_eq_true rfl), (Nat.le_of_ble_eq_true rfl)⟩ ⟨by show k + 1 + 0 ≤ 601024; omega, by show n + 6 + 0 ≤ 7293034; omega⟩) (fun r3 M4 => ?_)
  refine zk_istore (pc := 421) B dL_law_421 (by decide) rfl ?_
  refine zk_aload_n (pc := 423) B dL_law_423 4 rfl rfl ?_
  refine zk_cpi (pc := 424) (k' := k + 1) (n' := n + 6) B (by show _ + 0 = _; omega) (by show _ + 0 = _; omega) (by omega) (by omega) (fun b9 hb9 => zr_V B hR kV_yX12_thrown km_L_113 kx_12 (gModel_s hm) [] rfl rfl (Nat.le_of_ble_eq_true rfl) dL_law_424 (m_Model_thrown hX hm M4 b9 hb9) ⟨(Nat.le_of_ble_eq_true rfl), (Nat.le_of_ble_eq_true rfl)⟩ ⟨by show k + 1 + 0 ≤ 601024; omega, by show n + 6 + 0 ≤ 7293034; omega⟩) (fun r5 _ => ?_)
  refine zk_iload (pc := 427) B dL_law_427 1 rfl ?_
  refine zk_icmp_eq (tgt := 434) (pc := 429) B dL_law_429 (by decide) (fun _ => ?_) (fun _ => ?_)
  · refine zk_iload (pc := 434) B dL_law_434 1 rfl ?_
    refine zk_if_ne (tgt := 451) (pc := 436) B dL_law_436 (by decide) (fun _ => ?_) (fun _ => ?_)
    · refine zk_goto (tgt := 2156) (pc := 451) B dL_law_451 (by decide) ?_
      exact zk_sub [2, 3, 4, 5, 6] rfl (zk_widen (by omega) (by omega) (kk M4))
    · refine zk_aload_n (pc := 439) B dL_law_439 3 rfl rfl ?_
      refine zk_iconst (v := 0) (pc := 440) B dL_law_440 (by decide) ?_
      refine zk_lald (pc := 441) B ha dL_law_441 ?_
      refine zk_iload (pc := 442) B dL_law_442 0 rfl ?_
      refine zk_i2l (pc := 444) B dL_law_444 ?_
      refine zk_lcmp (pc := 445) B dL_law_445 ?_
      refine zk_if_eq (tgt := 451) (pc := 446) B dL_law_446 (by decide) (fun _ => ?_) (fun _ => ?_)
      · refine zk_goto (tgt := 2156) (pc := 451) B dL_law_451 (by decide) ?_
        exact zk_sub [2, 3, 4, 5, 6] rfl (zk_widen (by omega) (by omega) (kk M4))
      · refine zk_iconst (v := 0) (pc := 449) B dL_law_449 (by decide) ?_
        exact zk_iret (pc := 450) B dL_law_450 rfl rfl (by omega) (by omega) rfl
  · refine zk_iconst (v := 0) (pc := 432) B dL_law_432 (by decide) ?_
    exact zk_iret (pc := 433) B dL_law_433 rfl rfl (by omega) (by omega) rfl
def Fc_454 (o L : Nat) (S : Nat → Int32) (i : Int32) (M : z_Mem) (c : z_Mem → Option (Int32 × z_Mem)) : Option (Int32 × z_Mem) :=
  (if z_inb (i + (1 : Int32)) L then (if z_inb (i + (2 : Int32)) L then (zb2 (F_LW_minutes o (o + 573) (S ((i + (1 : Int32))).toNatClampNeg) (S ((i + (2 : Int32))).toNatClampNeg) M) fun r1 M2 => (if z_inb (i + (1 : Int32)) L then (if z_inb (i + (2 : Int32)) L then (zb2 (F_Model_minutes (o + 548) (S ((i + (1 : Int32))).toNatClampNeg) (S ((i + (2 : Int32))).toNatClampNeg) M2) fun r3 M4 => (zb (F_Model_thrown (o + 548) M4) fun r5 => (if r5 = r1 then (if r1 = 0 then (if z_inb (0 : Int32) 1 then (if (lg_cmp (M4.2 (o + 573) ((0 : Int32)).toNatClampNeg) (r3).toInt64) = 0 then c M4 else some ((0 : Int32), M4)) else none) else c M4) else some ((0 : Int32), M4)))) else none) else none)) else none) else none)
set_option maxHeartbeats 4000000 in
set_option maxRecDepth 100000 in
theorem t_454 {X : z_X} (hX : z_ok X) (hN : z_okN X) {G : z_Gr} {o : Nat} (hG : g_Sys G o) (hm : g_Model G (o + 548)) (ha : G.1 (o + 573) = some (.inr (2, 1))) {F : z_F} (B : z_B X F RL cL_law 9 (some .boolean)) (hR : F.2.2.1 = ({ frames := 2048, cells := 601024, slots := 7293034, locals := 84000 } : Room)) {b L : Nat} {S : Nat → Int32} (hx : va_X b L S X.2.1 X.2.1.heap) (hb : b < z_o X) {k n : Nat} (hk : k + 6 ≤ 601024) (hn : n + 36 ≤ 7293034) {b0 : Int32 × z_Mem} {c : z_Mem → Option (Int32 × z_Mem)} (i : Int32) (M : z_Mem) (kk : ∀ M1, z_K X F 9 601024 7293034 G z_cim b0 (k + 6) (n + 36) 2156 [(4, .int i), (3, .ref (o + 573)), (2, .ref (o + 548)), (1, .ref o), (0, .ref b)] [] M1 (c M1)) : z_K X F 9 601024 7293034 G z_cim b0 k n 454 [(4, .int i), (3, .ref (o + 573)), (2, .ref (o + 548)), (1, .ref o), (0, .ref b)] [] M (Fc_454 o L S i M c) := by
  unfold Fc_454
  refine zk_aload_n (pc := 454) B dL_law_454 3 rfl rfl ?_
  refine zk_aload_n (pc := 455) B dL_law_455 4 rfl rfl ?_
  refine zk_iload (pc := 456) B dL_law_456 0 rfl ?_
  refine zk_iconst (v := 1) (pc := 458) B dL_law_458 (by decide) ?_
  refine zk_iadd (pc := 459) B dL_law_459 ?_
  refine zk_sld (pc := 460) B hx hb dL_law_460 ?_
  refine zk_aload_n (pc := 461) B dL_law_461 4 rfl rfl ?_
  refine zk_iload (pc := 462) B dL_law_462 0 rfl ?_
  refine zk_iconst (v := 2) (pc := 464) B dL_law_464 (by decide) ?_
  refine zk_iadd (pc := 465) B dL_law_465 ?_
  refine zk_sld (pc := 466) B hx hb dL_law_466 ?_
  refine zk_aload_n (pc := 467) B dL_law_467 1 rfl rfl ?_
  refine zk_cim (pc := 468) (k' := k + 2) (n' := n + 12) B (by show _ + 2 = _; omega) (by show _ + 12 = _; omega) (by omega) (by omega) (fun b9 hb9 => zr_W B hR kW_minutes km_L_127 [.ref o, .int (S ((i + (1 : Int32))).toNatClampNeg), .int (S ((i + (2 : Int32))).toNatClampNeg), .ref (o + 573)] rfl rfl (Nat.le_of_ble_eq_true rfl) dL_law_468 (w_minutes hX hN hG ha (S ((i + (1 : Int32))).toNatClampNeg) (S ((i + (2 : Int32))).toNatClampNeg) M b9 hb9) ⟨(Nat.le_of_ble_eq_true rfl), (Nat.le_of_ble_eq_true rfl)⟩ ⟨by show k + 2 ≤ 601024; omega, by show n + 12 ≤ 7293034; omega⟩) (fun r1 M2 => ?_)
  refine zk_istore (pc := 471) B dL_law_471 (by decide) rfl ?_
  refine zk_aload_n (pc := 473) B dL_law_473 3 rfl rfl ?_
  refine zk_aload_n (pc := 474) B dL_law_474 5 rfl rfl ?_
  refine zk_iload (pc := 475) B dL_law_475 1 rfl ?_
  refine zk_iconst (v := 1) (pc := 477) B dL_law_477 (by decide) ?_
  refine zk_iadd (pc := 478) B dL_law_478 ?_
  refine zk_sld (pc := 479) B hx hb dL_law_479 ?_
  refine zk_aload_n (pc := 480) B dL_law_480 5 rfl rfl ?_
  refine zk_iload (pc := 481) B dL_law_481 1 rfl ?_
  refine zk_iconst (v := 2) (pc := 483) B dL_law_483 (by decide) ?_
  refine zk_iadd (pc := 484) B dL_law_484 ?_
  refine zk_sld (pc := 485) B hx hb dL_law_485 ?_
  refine zk_cim (pc := 486) (k' := k + 2) (n' := n + 12) B (by show _ + 0 = _; omega) (by show _ + 0 = _; omega) (by omega) (by omega) (fun b9 hb9 => zr_V B hR kV_yX12_minutes km_L_130 kx_12 (gModel_s hm) [.int (S ((i + (1 : Int32))).toNatClampNeg), .int (S ((i + (2 : Int32))).toNatClampNeg)] rfl rfl (Nat.le_of_ble_eq_true rfl) dL_law_486 (m_Model_minutes hX hm (S ((i + (1 : Int32))).toNatClampNeg) (S ((i + (2 : Int32))).toNatClampNeg) M2 b9 hb9) ⟨(Nat.le_of_ble_eq_true rfl), (Nat.le_of_ble_eq_true rfl)⟩ ⟨by show k + 2 + 0 ≤ 601024; omega, by show n + 12 + 0 ≤ 7293034; omega⟩) (fun r3 M4 => ?_)
  refine zk_istore (pc := 489) B dL_law_489 (by decide) rfl ?_
  refine zk_aload_n (pc := 491) B dL_law_491 4 rfl rfl ?_
  refine zk_cpi (pc := 492) (k' := k + 2) (n' := n + 12) B (by show _ + 0 = _; omega) (by show _ + 0 = _; omega) (by omega) (by omega) (fun b9 hb9 => zr_V B hR kV_yX12_thrown km_L_113 kx_12 (gModel_s hm) [] rfl rfl (Nat.le_of_ble_eq_true rfl) dL_law_492 (m_Model_thrown hX hm M4 b9 hb9) ⟨(Nat.le_of_ble_eq_true rfl), (Nat.le_of_ble_eq_true rfl)⟩ ⟨by show k + 2 + 0 ≤ 601024; omega, by show n + 12 + 0 ≤ 7293034; omega⟩) (fun r5 _ => ?_)
  refine zk_iload (pc := 495) B dL_law_495 1 rfl ?_
  refine zk_icmp_eq (tgt := 502) (pc := 497) B dL_law_497 (by decide) (fun _ => ?_) (fun _ => ?_)
  · refine zk_iload (pc := 502) B dL_law_502 1 rfl ?_
    refine zk_if_ne (tgt := 519) (pc := 504) B dL_law_504 (by decide) (fun _ => ?_) (fun _ => ?_)
    · refine zk_goto (tgt := 2156) (pc := 519) B dL_law_519 (by decide) ?_
      exact zk_sub [2, 3, 4, 5, 6] rfl (zk_widen (by omega) (by omega) (kk M4))
    · refine zk_aload_n (pc := 507) B dL_law_507 3 rfl rfl ?_
      refine zk_iconst (v := 0) (pc := 508) B dL_law_508 (by decide) ?_
      refine zk_lald (pc := 509) B ha dL_law_509 ?_
      refine zk_iload (pc := 510) B dL_law_510 0 rfl ?_
      refine zk_i2l (pc := 512) B dL_law_512 ?_
      refine zk_lcmp (pc := 513) B dL_law_513 ?_
      refine zk_if_eq (tgt := 519) (pc := 514) B dL_law_514 (by decide) (fun _ => ?_) (fun _ => ?_)
      · refine zk_goto (tgt := 2156) (pc := 519) B dL_law_519 (by decide) ?_
        exact zk_sub [2, 3, 4, 5, 6] rfl (zk_widen (by omega) (by omega) (kk M4))
      · refine zk_iconst (v := 0) (pc := 517) B dL_law_517 (by decide) ?_
        exact zk_iret (pc := 518) B dL_law_518 rfl rfl (by omega) (by omega) rfl
  · refine zk_iconst (v := 0) (pc := 500) B dL_law_500 (by decide) ?_
    exact zk_iret (pc := 501) B dL_law_501 rfl rfl (by omega) (by omega) rfl
def Fc_522 (o L : Nat) (S : Nat → Int32) (i : Int32) (M : z_Mem) (c : z_Mem → Option (Int32 × z_Mem)) : Option (Int32 × z_Mem) :=
  (if z_inb (i + (1 : Int32)) L then (if z_inb (i + (2 : Int32)) L then (zb2 (F_LW_taxi o (o + 573) (S ((i + (1 : Int32))).toNatClampNeg) (S ((i + (2 : Int32))).toNatClampNeg) M) fun r1 M2 => (if z_inb (i + (1 : Int32)) L then (if z_inb (i + (2 : Int32)) L then (zb2 (F_Model_taxi (o + 548) (S ((i + (1 : Int32))).toNatClampNeg) (S ((i + (2 : Int32))).toNatClampNeg) M2) fun r3 M4 => (zb (F_Model_thrown (o + 548) M4) fun r5 => (if r5 = r1 then (if r1 = 0 then (if z_inb (0 : Int32) 1 then (if (lg_cmp (M4.2 (o + 573) ((0 : Int32)).toNatClampNeg) (r3).toInt64) = 0 then c M4 else some ((0 : Int32), M4)) else none) else c M4) else some ((0 : Int32), M4)))) else none) else none)) else none) else none)
set_option maxHeartbeats 4000000 in
set_option maxRecDepth 100000 in
theorem t_522 {X : z_X} (hX : z_ok X) (hN : z_okN X) {G : z_Gr} {o : Nat} (hG : g_Sys G o) (hm : g_Model G (o + 548)) (ha : G.1 (o + 573) = some (.inr (2, 1))) {F : z_F} (B : z_B X F RL cL_law 9 (some .boolean)) (hR : F.2.2.1 = ({ frames := 2048, cells := 601024, slots := 7293034, locals := 84000 } : Room)) {b L : Nat} {S : Nat → Int32} (hx : va_X b L S X.2.1 X.2.1.heap) (hb : b < z_o X) {k n : Nat} (hk : k + 6 ≤ 601024) (hn : n + 36 ≤ 7293034) {b0 : Int32 × z_Mem} {c : z_Mem → Option (Int32 × z_Mem)} (i : Int32) (M : z_Mem) (kk : ∀ M1, z_K X F 9 601024 7293034 G z_cim b0 (k + 6) (n + 36) 2156 [(4, .int i), (3, .ref (o + 573)), (2, .ref (o + 548)), (1, .ref o), (0, .ref b)] [] M1 (c M1)) : z_K X F 9 601024 7293034 G z_cim b0 k n 522 [(4, .int i), (3, .ref (o + 573)), (2, .ref (o + 548)), (1, .ref o), (0, .ref b)] [] M (Fc_522 o L S i M c) := by
  unfold Fc_522
  refine zk_aload_n (pc := 522) B dL_law_522 3 rfl rfl ?_
  refine zk_aload_n (pc := 523) B dL_law_523 4 rfl rfl ?_
  refine zk_iload (pc := 524) B dL_law_524 0 rfl ?_
  refine zk_iconst (v := 1) (pc := 526) B dL_law_526 (by decide) ?_
  refine zk_iadd (pc := 527) B dL_law_527 ?_
  refine zk_sld (pc := 528) B hx hb dL_law_528 ?_
  refine zk_aload_n (pc := 529) B dL_law_529 4 rfl rfl ?_
  refine zk_iload (pc := 530) B dL_law_530 0 rfl ?_
  refine zk_iconst (v := 2) (pc := 532) B dL_law_532 (by decide) ?_
  refine zk_iadd (pc := 533) B dL_law_533 ?_
  refine zk_sld (pc := 534) B hx hb dL_law_534 ?_
  refine zk_aload_n (pc := 535) B dL_law_535 1 rfl rfl ?_
  refine zk_cim (pc := 536) (k' := k + 2) (n' := n + 12) B (by show _ + 2 = _; omega) (by show _ + 12 = _; omega) (by omega) (by omega) (fun b9 hb9 => zr_W B hR kW_taxi km_L_131 [.ref o, .int (S ((i + (1 : Int32))).toNatClampNeg), .int (S ((i + (2 : Int32))).toNatClampNeg), .ref (o + 573)] rfl rfl (Nat.le_of_ble_eq_true rfl) dL_law_536 (w_taxi hX hN hG ha (S ((i + (1 : Int32))).toNatClampNeg) (S ((i + (2 : Int32))).toNatClampNeg) M b9 hb9) ⟨(Nat.le_of_ble_eq_true rfl), (Nat.le_of_ble_eq_true rfl)⟩ ⟨by show k + 2 ≤ 601024; omega, by show n + 12 ≤ 7293034; omega⟩) (fun r1 M2 => ?_)
  refine zk_istore (pc := 539) B dL_law_539 (by decide) rfl ?_
  refine zk_aload_n (pc := 541) B dL_law_541 3 rfl rfl ?_
  refine zk_aload_n (pc := 542) B dL_law_542 5 rfl rfl ?_
  refine zk_iload (pc := 543) B dL_law_543 1 rfl ?_
  refine zk_iconst (v := 1) (pc := 545) B dL_law_545 (by decide) ?_
  refine zk_iadd (pc := 546) B dL_law_546 ?_
  refine zk_sld (pc := 547) B hx hb dL_law_547 ?_
  refine zk_aload_n (pc := 548) B dL_law_548 5 rfl rfl ?_
  refine zk_iload (pc := 549) B dL_law_549 1 rfl ?_
  refine zk_iconst (v := 2) (pc := 551) B dL_law_551 (by decide) ?_
  refine zk_iadd (pc := 552) B dL_law_552 ?_
  refine zk_sld (pc := 553) B hx hb dL_law_553 ?_
  refine zk_cim (pc := 554) (k' := k + 2) (n' := n + 12) B (by show _ + 0 = _; omega) (by show _ + 0 = _; omega) (by omega) (by omega) (fun b9 hb9 => zr_V B hR kV_yX12_taxi km_L_133 kx_12 (gModel_s hm) [.int (S ((i + (1 : Int32))).toNatClampNeg), .int (S ((i + (2 : Int32))).toNatClampNeg)] rfl rfl (Nat.le_of_ble_eq_true rfl) dL_law_554 (m_Model_taxi hX hm (S ((i + (1 : Int32))).toNatClampNeg) (S ((i + (2 : Int32))).toNatClampNeg) M2 b9 hb9) ⟨(Nat.le_of_ble_eq_true rfl), (Nat.le_of_ble_eq_true rfl)⟩ ⟨by show k + 2 + 0 ≤ 601024; omega, by show n + 12 + 0 ≤ 7293034; omega⟩) (fun r3 M4 => ?_)
  refine zk_istore (pc := 557) B dL_law_557 (by decide) rfl ?_
  refine zk_aload_n (pc := 559) B dL_law_559 4 rfl rfl ?_
  refine zk_cpi (pc := 560) (k' := k + 2) (n' := n + 12) B (by show _ + 0 = _; omega) (by show _ + 0 = _; omega) (by omega) (by omega) (fun b9 hb9 => zr_V B hR kV_yX12_thrown km_L_113 kx_12 (gModel_s hm) [] rfl rfl (Nat.le_of_ble_eq_true rfl) dL_law_560 (m_Model_thrown hX hm M4 b9 hb9) ⟨(Nat.le_of_ble_eq_true rfl), (Nat.le_of_ble_eq_true rfl)⟩ ⟨by show k + 2 + 0 ≤ 601024; omega, by show n + 12 + 0 ≤ 7293034; omega⟩) (fun r5 _ => ?_)
  refine zk_iload (pc := 563) B dL_law_563 1 rfl ?_
  refine zk_icmp_eq (tgt := 570) (pc := 565) B dL_law_565 (by decide) (fun _ => ?_) (fun _ => ?_)
  · refine zk_iload (pc := 570) B dL_law_570 1 rfl ?_
    refine zk_if_ne (tgt := 587) (pc := 572) B dL_law_572 (by decide) (fun _ => ?_) (fun _ => ?_)
    · refine zk_goto (tgt := 2156) (pc := 587) B dL_law_587 (by decide) ?_
      exact zk_sub [2, 3, 4, 5, 6] rfl (zk_widen (by omega) (by omega) (kk M4))
    · refine zk_aload_n (pc := 575) B dL_law_575 3 rfl rfl ?_
      refine zk_iconst (v := 0) (pc := 576) B dL_law_576 (by decide) ?_
      refine zk_lald (pc := 577) B ha dL_law_577 ?_
      refine zk_iload (pc := 578) B dL_law_578 0 rfl ?_
      refine zk_i2l (pc := 580) B dL_law_580 ?_
      refine zk_lcmp (pc := 581) B dL_law_581 ?_
      refine zk_if_eq (tgt := 587) (pc := 582) B dL_law_582 (by decide) (fun _ => ?_) (fun _ => ?_)
      · refine zk_goto (tgt := 2156) (pc := 587) B dL_law_587 (by decide) ?_
        exact zk_sub [2, 3, 4, 5, 6] rfl (zk_widen (by omega) (by omega) (kk M4))
      · refine zk_iconst (v := 0) (pc := 585) B dL_law_585 (by decide) ?_
        exact zk_iret (pc := 586) B dL_law_586 rfl rfl (by omega) (by omega) rfl
  · refine zk_iconst (v := 0) (pc := 568) B dL_law_568 (by decide) ?_
    exact zk_iret (pc := 569) B dL_law_569 rfl rfl (by omega) (by omega) rfl
def Fc_590 (o L : Nat) (S : Nat → Int32) (i : Int32) (M : z_Mem) (c : z_Mem → Option (Int32 × z_Mem)) : Option (Int32 × z_Mem) :=
  (if z_inb (i + (1 : Int32)) L then (if z_inb (i + (2 : Int32)) L then (zb2 (F_LW_account o (o + 573) (S ((i + (1 : Int32))).toNatClampNeg) (S ((i + (2 : Int32))).toNatClampNeg) M) fun r1 M2 => (if z_inb (i + (1 : Int32)) L then (if z_inb (i + (2 : Int32)) L then (zb2 (F_Model_account (o + 548) (S ((i + (1 : Int32))).toNatClampNeg) (S ((i + (2 : Int32))).toNatClampNeg) M2) fun r3 M4 => (zb (F_Model_thrown (o + 548) M4) fun r5 => (if r5 = r1 then (if r1 = 0 then (if z_inb (0 : Int32) 1 then (if (lg_cmp (M4.2 (o + 573) ((0 : Int32)).toNatClampNeg) (r3).toInt64) = 0 then c M4 else some ((0 : Int32), M4)) else none) else c M4) else some ((0 : Int32), M4)))) else none) else none)) else none) else none)
set_option maxHeartbeats 4000000 in
set_option maxRecDepth 100000 in
theorem t_590 {X : z_X} (hX : z_ok X) (hN : z_okN X) {G : z_Gr} {o : Nat} (hG : g_Sys G o) (hm : g_Model G (o + 548)) (ha : G.1 (o + 573) = some (.inr (2, 1))) {F : z_F} (B : z_B X F RL cL_law 9 (some .boolean)) (hR : F.2.2.1 = ({ frames := 2048, cells := 601024, slots := 7293034, locals := 84000 } : Room)) {b L : Nat} {S : Nat → Int32} (hx : va_X b L S X.2.1 X.2.1.heap) (hb : b < z_o X) {k n : Nat} (hk : k + 6 ≤ 601024) (hn : n + 36 ≤ 7293034) {b0 : Int32 × z_Mem} {c : z_Mem → Option (Int32 × z_Mem)} (i : Int32) (M : z_Mem) (kk : ∀ M1, z_K X F 9 601024 7293034 G z_cim b0 (k + 6) (n + 36) 2156 [(4, .int i), (3, .ref (o + 573)), (2, .ref (o + 548)), (1, .ref o), (0, .ref b)] [] M1 (c M1)) : z_K X F 9 601024 7293034 G z_cim b0 k n 590 [(4, .int i), (3, .ref (o + 573)), (2, .ref (o + 548)), (1, .ref o), (0, .ref b)] [] M (Fc_590 o L S i M c) := by
  unfold Fc_590
  refine zk_aload_n (pc := 590) B dL_law_590 3 rfl rfl ?_
  refine zk_aload_n (pc := 591) B dL_law_591 4 rfl rfl ?_
  refine zk_iload (pc := 592) B dL_law_592 0 rfl ?_
  refine zk_iconst (v := 1) (pc := 594) B dL_law_594 (by decide) ?_
  refine zk_iadd (pc := 595) B dL_law_595 ?_
  refine zk_sld (pc := 596) B hx hb dL_law_596 ?_
  refine zk_aload_n (pc := 597) B dL_law_597 4 rfl rfl ?_
  refine zk_iload (pc := 598) B dL_law_598 0 rfl ?_
  refine zk_iconst (v := 2) (pc := 600) B dL_law_600 (by decide) ?_
  refine zk_iadd (pc := 601) B dL_law_601 ?_
  refine zk_sld (pc := 602) B hx hb dL_law_602 ?_
  refine zk_aload_n (pc := 603) B dL_law_603 1 rfl rfl ?_
  refine zk_cim (pc := 604) (k' := k + 2) (n' := n + 12) B (by show _ + 2 = _; omega) (by show _ + 12 = _; omega) (by omega) (by omega) (fun b9 hb9 => zr_W B hR kW_account km_L_134 [.ref o, .int (S ((i + (1 : Int32))).toNatClampNeg), .int (S ((i + (2 : Int32))).toNatClampNeg), .ref (o + 573)] rfl rfl (Nat.le_of_ble_eq_true rfl) dL_law_604 (w_account hX hN hG ha (S ((i + (1 : Int32))).toNatClampNeg) (S ((i + (2 : Int32))).toNatClampNeg) M b9 hb9) ⟨(Nat.le_of_ble_eq_true rfl), (Nat.le_of_ble_eq_true rfl)⟩ ⟨by show k + 2 ≤ 601024; omega, by show n + 12 ≤ 7293034; omega⟩) (fun r1 M2 => ?_)
  refine zk_istore (pc := 607) B dL_law_607 (by decide) rfl ?_
  refine zk_aload_n (pc := 609) B dL_law_609 3 rfl rfl ?_
  refine zk_aload_n (pc := 610) B dL_law_610 5 rfl rfl ?_
  refine zk_iload (pc := 611) B dL_law_611 1 rfl ?_
  refine zk_iconst (v := 1) (pc := 613) B dL_law_613 (by decide) ?_
  refine zk_iadd (pc := 614) B dL_law_614 ?_
  refine zk_sld (pc := 615) B hx hb dL_law_615 ?_
  refine zk_aload_n (pc := 616) B dL_law_616 5 rfl rfl ?_
  refine zk_iload (pc := 617) B dL_law_617 1 rfl ?_
  refine zk_iconst (v := 2) (pc := 619) B dL_law_619 (by decide) ?_
  refine zk_iadd (pc := 620) B dL_law_620 ?_
  refine zk_sld (pc := 621) B hx hb dL_law_621 ?_
  refine zk_cim (pc := 622) (k' := k + 2) (n' := n + 12) B (by show _ + 0 = _; omega) (by show _ + 0 = _; omega) (by omega) (by omega) (fun b9 hb9 => zr_V B hR kV_yX12_account km_L_136 kx_12 (gModel_s hm) [.int (S ((i + (1 : Int32))).toNatClampNeg), .int (S ((i + (2 : Int32))).toNatClampNeg)] rfl rfl (Nat.le_of_ble_eq_true rfl) dL_law_622 (m_Model_account hX hm (S ((i + (1 : Int32))).toNatClampNeg) (S ((i + (2 : Int32))).toNatClampNeg) M2 b9 hb9) ⟨(Nat.le_of_ble_eq_true rfl), (Nat.le_of_ble_eq_true rfl)⟩ ⟨by show k + 2 + 0 ≤ 601024; omega, by show n + 12 + 0 ≤ 7293034; omega⟩) (fun r3 M4 => ?_)
  refine zk_istore (pc := 625) B dL_law_625 (by decide) rfl ?_
  refine zk_aload_n (pc := 627) B dL_law_627 4 rfl rfl ?_
  refine zk_cpi (pc := 628) (k' := k + 2) (n' := n + 12) B (by show _ + 0 = _; omega) (by show _ + 0 = _; omega) (by omega) (by omega) (fun b9 hb9 => zr_V B hR kV_yX12_thrown km_L_113 kx_12 (gModel_s hm) [] rfl rfl (Nat.le_of_ble_eq_true rfl) dL_law_628 (m_Model_thrown hX hm M4 b9 hb9) ⟨(Nat.le_of_ble_eq_true rfl), (Nat.le_of_ble_eq_true rfl)⟩ ⟨by show k + 2 + 0 ≤ 601024; omega, by show n + 12 + 0 ≤ 7293034; omega⟩) (fun r5 _ => ?_)
  refine zk_iload (pc := 631) B dL_law_631 1 rfl ?_
  refine zk_icmp_eq (tgt := 638) (pc := 633) B dL_law_633 (by decide) (fun _ => ?_) (fun _ => ?_)
  · refine zk_iload (pc := 638) B dL_law_638 1 rfl ?_
    refine zk_if_ne (tgt := 655) (pc := 640) B dL_law_640 (by decide) (fun _ => ?_) (fun _ => ?_)
    · refine zk_goto (tgt := 2156) (pc := 655) B dL_law_655 (by decide) ?_
      exact zk_sub [2, 3, 4, 5, 6] rfl (zk_widen (by omega) (by omega) (kk M4))
    · refine zk_aload_n (pc := 643) B dL_law_643 3 rfl rfl ?_
      refine zk_iconst (v := 0) (pc := 644) B dL_law_644 (by decide) ?_
      refine zk_lald (pc := 645) B ha dL_law_645 ?_
      refine zk_iload (pc := 646) B dL_law_646 0 rfl ?_
      refine zk_i2l (pc := 648) B dL_law_648 ?_
      refine zk_lcmp (pc := 649) B dL_law_649 ?_
      refine zk_if_eq (tgt := 655) (pc := 650) B dL_law_650 (by decide) (fun _ => ?_) (fun _ => ?_)
      · refine zk_goto (tgt := 2156) (pc := 655) B dL_law_655 (by decide) ?_
        exact zk_sub [2, 3, 4, 5, 6] rfl (zk_widen (by omega) (by omega) (kk M4))
      · refine zk_iconst (v := 0) (pc := 653) B dL_law_653 (by decide) ?_
        exact zk_iret (pc := 654) B dL_law_654 rfl rfl (by omega) (by omega) rfl
  · refine zk_iconst (v := 0) (pc := 636) B dL_law_636 (by decide) ?_
    exact zk_iret (pc := 637) B dL_law_637 rfl rfl (by omega) (by omega) rfl
def Fc_658 (o L : Nat) (S : Nat → Int32) (i : Int32) (M : z_Mem) (c : z_Mem → Option (Int32 × z_Mem)) : Option (Int32 × z_Mem) :=
  (if z_inb (i + (1 : Int32)) L then (if z_inb (i + (2 : Int32)) L then (if z_inb (i + (3 : Int32)) L then (zb2 (F_LW_stop o (o + 573) (S ((i + (1 : Int32))).toNatClampNeg) (S ((i + (2 : Int32))).toNatClampNeg) (S ((i + (3 : Int32))).toNatClampNeg) M) fun r1 M2 => (if z_inb (i + (1 : Int32)) L then (if z_inb (i + (2 : Int32)) L then (if z_inb (i + (3 : Int32)) L then (zb2 (F_Model_stop (o + 548) (S ((i + (1 : Int32))).toNatClampNeg) (S ((i + (2 : Int32))).toNatClampNeg) (S ((i + (3 : Int32))).toNatClampNeg) M2) fun r3 M4 => (zb (F_Model_thrown (o + 548) M4) fun r5 => (if r5 = r1 then (if r1 = 0 then (if z_inb (0 : Int32) 1 then (if (lg_cmp (M4.2 (o + 573) ((0 : Int32)).toNatClampNeg) (r3).toInt64) = 0 then c M4 else some ((0 : Int32), M4)) else none) else c M4) else some ((0 : Int32), M4)))) else none) else none) else none)) else none) else none) else none)
set_option maxHeartbeats 4000000 in
set_option maxRecDepth 100000 in
theorem t_658 {X : z_X} (hX : z_ok X) (hN : z_okN X) {G : z_Gr} {o : Nat} (hG : g_Sys G o) (hm : g_Model G (o + 548)) (ha : G.1 (o + 573) = some (.inr (2, 1))) {F : z_F} (B : z_B X F RL cL_law 9 (some .boolean)) (hR : F.2.2.1 = ({ frames := 2048, cells := 601024, slots := 7293034, locals := 84000 } : Room)) {b L : Nat} {S : Nat → Int32} (hx : va_X b L S X.2.1 X.2.1.heap) (hb : b < z_o X) {k n : Nat} (hk : k + 6 ≤ 601024) (hn : n + 36 ≤ 7293034) {b0 : Int32 × z_Mem} {c : z_Mem → Option (Int32 × z_Mem)} (i : Int32) (M : z_Mem) (kk : ∀ M1, z_K X F 9 601024 7293034 G z_cim b0 (k + 6) (n + 36) 2156 [(4, .int i), (3, .ref (o + 573)), (2, .ref (o + 548)), (1, .ref o), (0, .ref b)] [] M1 (c M1)) : z_K X F 9 601024 7293034 G z_cim b0 k n 658 [(4, .int i), (3, .ref (o + 573)), (2, .ref (o + 548)), (1, .ref o), (0, .ref b)] [] M (Fc_658 o L S i M c) := by
  unfold Fc_658
  refine zk_aload_n (pc := 658) B dL_law_658 3 rfl rfl ?_
  refine zk_aload_n (pc := 659) B dL_law_659 4 rfl rfl ?_
  refine zk_iload (pc := 660) B dL_law_660 0 rfl ?_
  refine zk_iconst (v := 1) (pc := 662) B dL_law_662 (by decide) ?_
  refine zk_iadd (pc := 663) B dL_law_663 ?_
  refine zk_sld (pc := 664) B hx hb dL_law_664 ?_
  refine zk_aload_n (pc := 665) B dL_law_665 4 rfl rfl ?_
  refine zk_iload (pc := 666) B dL_law_666 0 rfl ?_
  refine zk_iconst (v := 2) (pc := 668) B dL_law_668 (by decide) ?_
  refine zk_iadd (pc := 669) B dL_law_669 ?_
  refine zk_sld (pc := 670) B hx hb dL_law_670 ?_
  refine zk_aload_n (pc := 671) B dL_law_671 4 rfl rfl ?_
  refine zk_iload (pc := 672) B dL_law_672 0 rfl ?_
  refine zk_iconst (v := 3) (pc := 674) B dL_law_674 (by decide) ?_
  refine zk_iadd (pc := 675) B dL_law_675 ?_
  refine zk_sld (pc := 676) B hx hb dL_law_676 ?_
  refine zk_aload_n (pc := 677) B dL_law_677 1 rfl rfl ?_
  refine zk_cim (pc := 678) (k' := k + 2) (n' := n + 12) B (by show _ + 2 = _; omega) (by show _ + 12 = _; omega) (by omega) (by omega) (fun b9 hb9 => zr_W B hR kW_stop km_L_137 [.ref o, .int (S ((i + (1 : Int32))).toNatClampNeg), .int (S ((i + (2 : Int32))).toNatClampNeg), .int (S ((i + (3 : Int32))).toNatClampNeg), .ref (o + 573)] rfl rfl (Nat.le_of_ble_eq_true rfl) dL_law_678 (w_stop hX hN hG ha (S ((i + (1 : Int32))).toNatClampNeg) (S ((i + (2 : Int32))).toNatClampNeg) (S ((i + (3 : Int32))).toNatClampNeg) M b9 hb9) ⟨(Nat.le_of_ble_eq_true rfl), (Nat.le_of_ble_eq_true rfl)⟩ ⟨by show k + 2 ≤ 601024; omega, by show n + 12 ≤ 7293034; omega⟩) (fun r1 M2 => ?_)
  refine zk_istore (pc := 681) B dL_law_681 (by decide) rfl ?_
  refine zk_aload_n (pc := 683) B dL_law_683 3 rfl rfl ?_
  refine zk_aload_n (pc := 684) B dL_law_684 5 rfl rfl ?_
  refine zk_iload (pc := 685) B dL_law_685 1 rfl ?_
  refine zk_iconst (v := 1) (pc := 687) B dL_law_687 (by decide) ?_
  refine zk_iadd (pc := 688) B dL_law_688 ?_
  refine zk_sld (pc := 689) B hx hb dL_law_689 ?_
  refine zk_aload_n (pc := 690) B dL_law_690 5 rfl rfl ?_
  refine zk_iload (pc := 691) B dL_law_691 1 rfl ?_
  refine zk_iconst (v := 2) (pc := 693) B dL_law_693 (by decide) ?_
  refine zk_iadd (pc := 694) B dL_law_694 ?_
  refine zk_sld (pc := 695) B hx hb dL_law_695 ?_
  refine zk_aload_n (pc := 696) B dL_law_696 5 rfl rfl ?_
  refine zk_iload (pc := 697) B dL_law_697 1 rfl ?_
  refine zk_iconst (v := 3) (pc := 699) B dL_law_699 (by decide) ?_
  refine zk_iadd (pc := 700) B dL_law_700 ?_
  refine zk_sld (pc := 701) B hx hb dL_law_701 ?_
  refine zk_cim (pc := 702) (k' := k + 2) (n' := n + 12) B (by show _ + 0 = _; omega) (by show _ + 0 = _; omega) (by omega) (by omega) (fun b9 hb9 => zr_V B hR kV_yX12_stop km_L_140 kx_12 (gModel_s hm) [.int (S ((i + (1 : Int32))).toNatClampNeg), .int (S ((i + (2 : Int32))).toNatClampNeg), .int (S ((i + (3 : Int32))).toNatClampNeg)] rfl rfl (Nat.le_of_ble_eq_true rfl) dL_law_702 (m_Model_stop hX hm (S ((i + (1 : Int32))).toNatClampNeg) (S ((i + (2 : Int32))).toNatClampNeg) (S ((i + (3 : Int32))).toNatClampNeg) M2 b9 hb9) ⟨(Nat.le_of_ble_eq_true rfl), (Nat.le_of_ble_eq_true rfl)⟩ ⟨by show k + 2 + 0 ≤ 601024; omega, by show n + 12 + 0 ≤ 7293034; omega⟩) (fun r3 M4 => ?_)
  refine zk_istore (pc := 705) B dL_law_705 (by decide) rfl ?_
  refine zk_aload_n (pc := 707) B dL_law_707 4 rfl rfl ?_
  refine zk_cpi (pc := 708) (k' := k + 2) (n' := n + 12) B (by show _ + 0 = _; omega) (by show _ + 0 = _; omega) (by omega) (by omega) (fun b9 hb9 => zr_V B hR kV_yX12_thrown km_L_113 kx_12 (gModel_s hm) [] rfl rfl (Nat.le_of_ble_eq_true rfl) dL_law_708 (m_Model_thrown hX hm M4 b9 hb9) ⟨(Nat.le_of_ble_eq_true rfl), (Nat.le_of_ble_eq_true rfl)⟩ ⟨by show k + 2 + 0 ≤ 601024; omega, by show n + 12 + 0 ≤ 7293034; omega⟩) (fun r5 _ => ?_)
  refine zk_iload (pc := 711) B dL_law_711 1 rfl ?_
  refine zk_icmp_eq (tgt := 718) (pc := 713) B dL_law_713 (by decide) (fun _ => ?_) (fun _ => ?_)
  · refine zk_iload (pc := 718) B dL_law_718 1 rfl ?_
    refine zk_if_ne (tgt := 735) (pc := 720) B dL_law_720 (by decide) (fun _ => ?_) (fun _ => ?_)
    · refine zk_goto (tgt := 2156) (pc := 735) B dL_law_735 (by decide) ?_
      exact zk_sub [2, 3, 4, 5, 6] rfl (zk_widen (by omega) (by omega) (kk M4))
    · refine zk_aload_n (pc := 723) B dL_law_723 3 rfl rfl ?_
      refine zk_iconst (v := 0) (pc := 724) B dL_law_724 (by decide) ?_
      refine zk_lald (pc := 725) B ha dL_law_725 ?_
      refine zk_iload (pc := 726) B dL_law_726 0 rfl ?_
      refine zk_i2l (pc := 728) B dL_law_728 ?_
      refine zk_lcmp (pc := 729) B dL_law_729 ?_
      refine zk_if_eq (tgt := 735) (pc := 730) B dL_law_730 (by decide) (fun _ => ?_) (fun _ => ?_)
      · refine zk_goto (tgt := 2156) (pc := 735) B dL_law_735 (by decide) ?_
        exact zk_sub [2, 3, 4, 5, 6] rfl (zk_widen (by omega) (by omega) (kk M4))
      · refine zk_iconst (v := 0) (pc := 733) B dL_law_733 (by decide) ?_
        exact zk_iret (pc := 734) B dL_law_734 rfl rfl (by omega) (by omega) rfl
  · refine zk_iconst (v := 0) (pc := 716) B dL_law_716 (by decide) ?_
    exact zk_iret (pc := 717) B dL_law_717 rfl rfl (by omega) (by omega) rfl
def Fc_738 (o L : Nat) (S : Nat → Int32) (i : Int32) (M : z_Mem) (c : z_Mem → Option (Int32 × z_Mem)) : Option (Int32 × z_Mem) :=
  (if z_inb (i + (1 : Int32)) L then (if z_inb (i + (2 : Int32)) L then (zb2 (F_LW_ride o (o + 573) (S ((i + (1 : Int32))).toNatClampNeg) (S ((i + (2 : Int32))).toNatClampNeg) M) fun r1 M2 => (if z_inb (i + (1 : Int32)) L then (if z_inb (i + (2 : Int32)) L then (zb2 (F_Model_ride (o + 548) (S ((i + (1 : Int32))).toNatClampNeg) (S ((i + (2 : Int32))).toNatClampNeg) M2) fun r3 M4 => (zb (F_Model_thrown (o + 548) M4) fun r5 => (if r5 = r1 then (if r1 = 0 then (if z_inb (0 : Int32) 1 then (if (lg_cmp (M4.2 (o + 573) ((0 : Int32)).toNatClampNeg) (r3).toInt64) = 0 then c M4 else some ((0 : Int32), M4)) else none) else c M4) else some ((0 : Int32), M4)))) else none) else none)) else none) else none)
set_option maxHeartbeats 4000000 in
set_option maxRecDepth 100000 in
theorem t_738 {X : z_X} (hX : z_ok X) (hN : z_okN X) {G : z_Gr} {o : Nat} (hG : g_Sys G o) (hm : g_Model G (o + 548)) (ha : G.1 (o + 573) = some (.inr (2, 1))) {F : z_F} (B : z_B X F RL cL_law 9 (some .boolean)) (hR : F.2.2.1 = ({ frames := 2048, cells := 601024, slots := 7293034, locals := 84000 } : Room)) {b L : Nat} {S : Nat → Int32} (hx : va_X b L S X.2.1 X.2.1.heap) (hb : b < z_o X) {k n : Nat} (hk : k + 6 ≤ 601024) (hn : n + 36 ≤ 7293034) {b0 : Int32 × z_Mem} {c : z_Mem → Option (Int32 × z_Mem)} (i : Int32) (M : z_Mem) (kk : ∀ M1, z_K X F 9 601024 7293034 G z_cim b0 (k + 6) (n + 36) 2156 [(4, .int i), (3, .ref (o + 573)), (2, .ref (o + 548)), (1, .ref o), (0, .ref b)] [] M1 (c M1)) : z_K X F 9 601024 7293034 G z_cim b0 k n 738 [(4, .int i), (3, .ref (o + 573)), (2, .ref (o + 548)), (1, .ref o), (0, .ref b)] [] M (Fc_738 o L S i M c) := by
  unfold Fc_738
  refine zk_aload_n (pc := 738) B dL_law_738 3 rfl rfl ?_
  refine zk_aload_n (pc := 739) B dL_law_739 4 rfl rfl ?_
  refine zk_iload (pc := 740) B dL_law_740 0 rfl ?_
  refine zk_iconst (v := 1) (pc := 742) B dL_law_742 (by decide) ?_
  refine zk_iadd (pc := 743) B dL_law_743 ?_
  refine zk_sld (pc := 744) B hx hb dL_law_744 ?_
  refine zk_aload_n (pc := 745) B dL_law_745 4 rfl rfl ?_
  refine zk_iload (pc := 746) B dL_law_746 0 rfl ?_
  refine zk_iconst (v := 2) (pc := 748) B dL_law_748 (by decide) ?_
  refine zk_iadd (pc := 749) B dL_law_749 ?_
  refine zk_sld (pc := 750) B hx hb dL_law_750 ?_
  refine zk_aload_n (pc := 751) B dL_law_751 1 rfl rfl ?_
  refine zk_cim (pc := 752) (k' := k + 2) (n' := n + 12) B (by show _ + 2 = _; omega) (by show _ + 12 = _; omega) (by omega) (by omega) (fun b9 hb9 => zr_W B hR kW_ride km_L_141 [.ref o, .int (S ((i + (1 : Int32))).toNatClampNeg), .int (S ((i + (2 : Int32))).toNatClampNeg), .ref (o + 573)] rfl rfl (Nat.le_of_ble_eq_true rfl) dL_law_752 (w_ride hX hN hG ha (S ((i + (1 : Int32))).toNatClampNeg) (S ((i + (2 : Int32))).toNatClampNeg) M b9 hb9) ⟨(Nat.le_of_ble_eq_true rfl), (Nat.le_of_ble_eq_true rfl)⟩ ⟨by show k + 2 ≤ 601024; omega, by show n + 12 ≤ 7293034; omega⟩) (fun r1 M2 => ?_)
  refine zk_istore (pc := 755) B dL_law_755 (by decide) rfl ?_
  refine zk_aload_n (pc := 757) B dL_law_757 3 rfl rfl ?_
  refine zk_aload_n (pc := 758) B dL_law_758 5 rfl rfl ?_
  refine zk_iload (pc := 759) B dL_law_759 1 rfl ?_
  refine zk_iconst (v := 1) (pc := 761) B dL_law_761 (by decide) ?_
  refine zk_iadd (pc := 762) B dL_law_762 ?_
  refine zk_sld (pc := 763) B hx hb dL_law_763 ?_
  refine zk_aload_n (pc := 764) B dL_law_764 5 rfl rfl ?_
  refine zk_iload (pc := 765) B dL_law_765 1 rfl ?_
  refine zk_iconst (v := 2) (pc := 767) B dL_law_767 (by decide) ?_
  refine zk_iadd (pc := 768) B dL_law_768 ?_
  refine zk_sld (pc := 769) B hx hb dL_law_769 ?_
  refine zk_cim (pc := 770) (k' := k + 2) (n' := n + 12) B (by show _ + 0 = _; omega) (by show _ + 0 = _; omega) (by omega) (by omega) (fun b9 hb9 => zr_V B hR kV_yX12_ride km_L_143 kx_12 (gModel_s hm) [.int (S ((i + (1 : Int32))).toNatClampNeg), .int (S ((i + (2 : Int32))).toNatClampNeg)] rfl rfl (Nat.le_of_ble_eq_true rfl) dL_law_770 (m_Model_ride hX hm (S ((i + (1 : Int32))).toNatClampNeg) (S ((i + (2 : Int32))).toNatClampNeg) M2 b9 hb9) ⟨(Nat.le_of_ble_eq_true rfl), (Nat.le_of_ble_eq_true rfl)⟩ ⟨by show k + 2 + 0 ≤ 601024; omega, by show n + 12 + 0 ≤ 7293034; omega⟩) (fun r3 M4 => ?_)
  refine zk_istore (pc := 773) B dL_law_773 (by decide) rfl ?_
  refine zk_aload_n (pc := 775) B dL_law_775 4 rfl rfl ?_
  refine zk_cpi (pc := 776) (k' := k + 2) (n' := n + 12) B (by show _ + 0 = _; omega) (by show _ + 0 = _; omega) (by omega) (by omega) (fun b9 hb9 => zr_V B hR kV_yX12_thrown km_L_113 kx_12 (gModel_s hm) [] rfl rfl (Nat.le_of_ble_eq_true rfl) dL_law_776 (m_Model_thrown hX hm M4 b9 hb9) ⟨(Nat.le_of_ble_eq_true rfl), (Nat.le_of_ble_eq_true rfl)⟩ ⟨by show k + 2 + 0 ≤ 601024; omega, by show n + 12 + 0 ≤ 7293034; omega⟩) (fun r5 _ => ?_)
  refine zk_iload (pc := 779) B dL_law_779 1 rfl ?_
  refine zk_icmp_eq (tgt := 786) (pc := 781) B dL_law_781 (by decide) (fun _ => ?_) (fun _ => ?_)
  · refine zk_iload (pc := 786) B dL_law_786 1 rfl ?_
    refine zk_if_ne (tgt := 803) (pc := 788) B dL_law_788 (by decide) (fun _ => ?_) (fun _ => ?_)
    · refine zk_goto (tgt := 2156) (pc := 803) B dL_law_803 (by decide) ?_
      exact zk_sub [2, 3, 4, 5, 6] rfl (zk_widen (by omega) (by omega) (kk M4))
    · refine zk_aload_n (pc := 791) B dL_law_791 3 rfl rfl ?_
      refine zk_iconst (v := 0) (pc := 792) B dL_law_792 (by decide) ?_
      refine zk_lald (pc := 793) B ha dL_law_793 ?_
      refine zk_iload (pc := 794) B dL_law_794 0 rfl ?_
      refine zk_i2l (pc := 796) B dL_law_796 ?_
      refine zk_lcmp (pc := 797) B dL_law_797 ?_
      refine zk_if_eq (tgt := 803) (pc := 798) B dL_law_798 (by decide) (fun _ => ?_) (fun _ => ?_)
      · refine zk_goto (tgt := 2156) (pc := 803) B dL_law_803 (by decide) ?_
        exact zk_sub [2, 3, 4, 5, 6] rfl (zk_widen (by omega) (by omega) (kk M4))
      · refine zk_iconst (v := 0) (pc := 801) B dL_law_801 (by decide) ?_
        exact zk_iret (pc := 802) B dL_law_802 rfl rfl (by omega) (by omega) rfl
  · refine zk_iconst (v := 0) (pc := 784) B dL_law_784 (by decide) ?_
    exact zk_iret (pc := 785) B dL_law_785 rfl rfl (by omega) (by omega) rfl
def Fc_806 (o L : Nat) (S : Nat → Int32) (i : Int32) (M : z_Mem) (c : z_Mem → Option (Int32 × z_Mem)) : Option (Int32 × z_Mem) :=
  (if z_inb (i + (1 : Int32)) L then (if z_inb (i + (2 : Int32)) L then (zb2 (F_LW_offer o (o + 573) (S ((i + (1 : Int32))).toNatClampNeg) (S ((i + (2 : Int32))).toNatClampNeg) M) fun r1 M2 => (if z_inb (i + (1 : Int32)) L then (if z_inb (i + (2 : Int32)) L then (zb2 (F_Model_offer (o + 548) (S ((i + (1 : Int32))).toNatClampNeg) (S ((i + (2 : Int32))).toNatClampNeg) M2) fun r3 M4 => (zb (F_Model_thrown (o + 548) M4) fun r5 => (if r5 = r1 then (if r1 = 0 then (if z_inb (0 : Int32) 1 then (if (lg_cmp (M4.2 (o + 573) ((0 : Int32)).toNatClampNeg) (r3).toInt64) = 0 then c M4 else some ((0 : Int32), M4)) else none) else c M4) else some ((0 : Int32), M4)))) else none) else none)) else none) else none)
set_option maxHeartbeats 4000000 in
set_option maxRecDepth 100000 in
theorem t_806 {X : z_X} (hX : z_ok X) (hN : z_okN X) {G : z_Gr} {o : Nat} (hG : g_Sys G o) (hm : g_Model G (o + 548)) (ha : G.1 (o + 573) = some (.inr (2, 1))) {F : z_F} (B : z_B X F RL cL_law 9 (some .boolean)) (hR : F.2.2.1 = ({ frames := 2048, cells := 601024, slots := 7293034, locals := 84000 } : Room)) {b L : Nat} {S : Nat → Int32} (hx : va_X b L S X.2.1 X.2.1.heap) (hb : b < z_o X) {k n : Nat} (hk : k + 6 ≤ 601024) (hn : n + 36 ≤ 7293034) {b0 : Int32 × z_Mem} {c : z_Mem → Option (Int32 × z_Mem)} (i : Int32) (M : z_Mem) (kk : ∀ M1, z_K X F 9 601024 7293034 G z_cim b0 (k + 6) (n + 36) 2156 [(4, .int i), (3, .ref (o + 573)), (2, .ref (o + 548)), (1, .ref o), (0, .ref b)] [] M1 (c M1)) : z_K X F 9 601024 7293034 G z_cim b0 k n 806 [(4, .int i), (3, .ref (o + 573)), (2, .ref (o + 548)), (1, .ref o), (0, .ref b)] [] M (Fc_806 o L S i M c) := by
  unfold Fc_806
  refine zk_aload_n (pc := 806) B dL_law_806 3 rfl rfl ?_
  refine zk_aload_n (pc := 807) B dL_law_807 4 rfl rfl ?_
  refine zk_iload (pc := 808) B dL_law_808 0 rfl ?_
  refine zk_iconst (v := 1) (pc := 810) B dL_law_810 (by decide) ?_
  refine zk_iadd (pc := 811) B dL_law_811 ?_
  refine zk_sld (pc := 812) B hx hb dL_law_812 ?_
  refine zk_aload_n (pc := 813) B dL_law_813 4 rfl rfl ?_
  refine zk_iload (pc := 814) B dL_law_814 0 rfl ?_
  refine zk_iconst (v := 2) (pc := 816) B dL_law_816 (by decide) ?_
  refine zk_iadd (pc := 817) B dL_law_817 ?_
  refine zk_sld (pc := 818) B hx hb dL_law_818 ?_
  refine zk_aload_n (pc := 819) B dL_law_819 1 rfl rfl ?_
  refine zk_cim (pc := 820) (k' := k + 2) (n' := n + 12) B (by show _ + 2 = _; omega) (by show _ + 12 = _; omega) (by omega) (by omega) (fun b9 hb9 => zr_W B hR kW_offer km_L_144 [.ref o, .int (S ((i + (1 : Int32))).toNatClampNeg), .int (S ((i + (2 : Int32))).toNatClampNeg), .ref (o + 573)] rfl rfl (Nat.le_of_ble_eq_true rfl) dL_law_820 (w_offer hX hN hG ha (S ((i + (1 : Int32))).toNatClampNeg) (S ((i + (2 : Int32))).toNatClampNeg) M b9 hb9) ⟨(Nat.le_of_ble_eq_true rfl), (Nat.le_of_ble_eq_true rfl)⟩ ⟨by show k + 2 ≤ 601024; omega, by show n + 12 ≤ 7293034; omega⟩) (fun r1 M2 => ?_)
  refine zk_istore (pc := 823) B dL_law_823 (by decide) rfl ?_
  refine zk_aload_n (pc := 825) B dL_law_825 3 rfl rfl ?_
  refine zk_aload_n (pc := 826) B dL_law_826 5 rfl rfl ?_
  refine zk_iload (pc := 827) B dL_law_827 1 rfl ?_
  refine zk_iconst (v := 1) (pc := 829) B dL_law_829 (by decide) ?_
  refine zk_iadd (pc := 830) B dL_law_830 ?_
  refine zk_sld (pc := 831) B hx hb dL_law_831 ?_
  refine zk_aload_n (pc := 832) B dL_law_832 5 rfl rfl ?_
  refine zk_iload (pc := 833) B dL_law_833 1 rfl ?_
  refine zk_iconst (v := 2) (pc := 835) B dL_law_835 (by decide) ?_
  refine zk_iadd (pc := 836) B dL_law_836 ?_
  refine zk_sld (pc := 837) B hx hb dL_law_837 ?_
  refine zk_cim (pc := 838) (k' := k + 2) (n' := n + 12) B (by show _ + 0 = _; omega) (by show _ + 0 = _; omega) (by omega) (by omega) (fun b9 hb9 => zr_V B hR kV_yX12_offer km_L_146 kx_12 (gModel_s hm) [.int (S ((i + (1 : Int32))).toNatClampNeg), .int (S ((i + (2 : Int32))).toNatClampNeg)] rfl rfl (Nat.le_of_ble_eq_true rfl) dL_law_838 (m_Model_offer hX hm (S ((i + (1 : Int32))).toNatClampNeg) (S ((i + (2 : Int32))).toNatClampNeg) M2 b9 hb9) ⟨(Nat.le_of_ble_eq_true rfl), (Nat.le_of_ble_eq_true rfl)⟩ ⟨by show k + 2 + 0 ≤ 601024; omega, by show n + 12 + 0 ≤ 7293034; omega⟩) (fun r3 M4 => ?_)
  refine zk_istore (pc := 841) B dL_law_841 (by decide) rfl ?_
  refine zk_aload_n (pc := 843) B dL_law_843 4 rfl rfl ?_
  refine zk_cpi (pc := 844) (k' := k + 2) (n' := n + 12) B (by show _ + 0 = _; omega) (by show _ + 0 = _; omega) (by omega) (by omega) (fun b9 hb9 => zr_V B hR kV_yX12_thrown km_L_113 kx_12 (gModel_s hm) [] rfl rfl (Nat.le_of_ble_eq_true rfl) dL_law_844 (m_Model_thrown hX hm M4 b9 hb9) ⟨(Nat.le_of_ble_eq_true rfl), (Nat.le_of_ble_eq_true rfl)⟩ ⟨by show k + 2 + 0 ≤ 601024; omega, by show n + 12 + 0 ≤ 7293034; omega⟩) (fun r5 _ => ?_)
  refine zk_iload (pc := 847) B dL_law_847 1 rfl ?_
  refine zk_icmp_eq (tgt := 854) (pc := 849) B dL_law_849 (by decide) (fun _ => ?_) (fun _ => ?_)
  · refine zk_iload (pc := 854) B dL_law_854 1 rfl ?_
    refine zk_if_ne (tgt := 871) (pc := 856) B dL_law_856 (by decide) (fun _ => ?_) (fun _ => ?_)
    · refine zk_goto (tgt := 2156) (pc := 871) B dL_law_871 (by decide) ?_
      exact zk_sub [2, 3, 4, 5, 6] rfl (zk_widen (by omega) (by omega) (kk M4))
    · refine zk_aload_n (pc := 859) B dL_law_859 3 rfl rfl ?_
      refine zk_iconst (v := 0) (pc := 860) B dL_law_860 (by decide) ?_
      refine zk_lald (pc := 861) B ha dL_law_861 ?_
      refine zk_iload (pc := 862) B dL_law_862 0 rfl ?_
      refine zk_i2l (pc := 864) B dL_law_864 ?_
      refine zk_lcmp (pc := 865) B dL_law_865 ?_
      refine zk_if_eq (tgt := 871) (pc := 866) B dL_law_866 (by decide) (fun _ => ?_) (fun _ => ?_)
      · refine zk_goto (tgt := 2156) (pc := 871) B dL_law_871 (by decide) ?_
        exact zk_sub [2, 3, 4, 5, 6] rfl (zk_widen (by omega) (by omega) (kk M4))
      · refine zk_iconst (v := 0) (pc := 869) B dL_law_869 (by decide) ?_
        exact zk_iret (pc := 870) B dL_law_870 rfl rfl (by omega) (by omega) rfl
  · refine zk_iconst (v := 0) (pc := 852) B dL_law_852 (by decide) ?_
    exact zk_iret (pc := 853) B dL_law_853 rfl rfl (by omega) (by omega) rfl
def Fc_874 (o L : Nat) (S : Nat → Int32) (i : Int32) (M : z_Mem) (c : z_Mem → Option (Int32 × z_Mem)) : Option (Int32 × z_Mem) :=
  (if z_inb (i + (1 : Int32)) L then (if z_inb (i + (2 : Int32)) L then (zb2 (F_LW_extra o (o + 573) (S ((i + (1 : Int32))).toNatClampNeg) (S ((i + (2 : Int32))).toNatClampNeg) M) fun r1 M2 => (if z_inb (i + (1 : Int32)) L then (if z_inb (i + (2 : Int32)) L then (zb2 (F_Model_extra (o + 548) (S ((i + (1 : Int32))).toNatClampNeg) (S ((i + (2 : Int32))).toNatClampNeg) M2) fun r3 M4 => (zb (F_Model_thrown (o + 548) M4) fun r5 => (if r5 = r1 then (if r1 = 0 then (if z_inb (0 : Int32) 1 then (if (lg_cmp (M4.2 (o + 573) ((0 : Int32)).toNatClampNeg) (r3).toInt64) = 0 then c M4 else some ((0 : Int32), M4)) else none) else c M4) else some ((0 : Int32), M4)))) else none) else none)) else none) else none)
set_option maxHeartbeats 4000000 in
set_option maxRecDepth 100000 in
theorem t_874 {X : z_X} (hX : z_ok X) (hN : z_okN X) {G : z_Gr} {o : Nat} (hG : g_Sys G o) (hm : g_Model G (o + 548)) (ha : G.1 (o + 573) = some (.inr (2, 1))) {F : z_F} (B : z_B X F RL cL_law 9 (some .boolean)) (hR : F.2.2.1 = ({ frames := 2048, cells := 601024, slots := 7293034, locals := 84000 } : Room)) {b L : Nat} {S : Nat → Int32} (hx : va_X b L S X.2.1 X.2.1.heap) (hb : b < z_o X) {k n : Nat} (hk : k + 6 ≤ 601024) (hn : n + 36 ≤ 7293034) {b0 : Int32 × z_Mem} {c : z_Mem → Option (Int32 × z_Mem)} (i : Int32) (M : z_Mem) (kk : ∀ M1, z_K X F 9 601024 7293034 G z_cim b0 (k + 6) (n + 36) 2156 [(4, .int i), (3, .ref (o + 573)), (2, .ref (o + 548)), (1, .ref o), (0, .ref b)] [] M1 (c M1)) : z_K X F 9 601024 7293034 G z_cim b0 k n 874 [(4, .int i), (3, .ref (o + 573)), (2, .ref (o + 548)), (1, .ref o), (0, .ref b)] [] M (Fc_874 o L S i M c) := by
  unfold Fc_874
  refine zk_aload_n (pc := 874) B dL_law_874 3 rfl rfl ?_
  refine zk_aload_n (pc := 875) B dL_law_875 4 rfl rfl ?_
  refine zk_iload (pc := 876) B dL_law_876 0 rfl ?_
  refine zk_iconst (v := 1) (pc := 878) B dL_law_878 (by decide) ?_
  refine zk_iadd (pc := 879) B dL_law_879 ?_
  refine zk_sld (pc := 880) B hx hb dL_law_880 ?_
  refine zk_aload_n (pc := 881) B dL_law_881 4 rfl rfl ?_
  refine zk_iload (pc := 882) B dL_law_882 0 rfl ?_
  refine zk_iconst (v := 2) (pc := 884) B dL_law_884 (by decide) ?_
  refine zk_iadd (pc := 885) B dL_law_885 ?_
  refine zk_sld (pc := 886) B hx hb dL_law_886 ?_
  refine zk_aload_n (pc := 887) B dL_law_887 1 rfl rfl ?_
  refine zk_cim (pc := 888) (k' := k + 2) (n' := n + 12) B (by show _ + 2 = _; omega) (by show _ + 12 = _; omega) (by omega) (by omega) (fun b9 hb9 => zr_W B hR kW_extra km_L_147 [.ref o, .int (S ((i + (1 : Int32))).toNatClampNeg), .int (S ((i + (2 : Int32))).toNatClampNeg), .ref (o + 573)] rfl rfl (Nat.le_of_ble_eq_true rfl) dL_law_888 (w_extra hX hN hG ha (S ((i + (1 : Int32))).toNatClampNeg) (S ((i + (2 : Int32))).toNatClampNeg) M b9 hb9) ⟨(Nat.le_of_ble_eq_true rfl), (Nat.le_of_ble_eq_true rfl)⟩ ⟨by show k + 2 ≤ 601024; omega, by show n + 12 ≤ 7293034; omega⟩) (fun r1 M2 => ?_)
  refine zk_istore (pc := 891) B dL_law_891 (by decide) rfl ?_
  refine zk_aload_n (pc := 893) B dL_law_893 3 rfl rfl ?_
  refine zk_aload_n (pc := 894) B dL_law_894 5 rfl rfl ?_
  refine zk_iload (pc := 895) B dL_law_895 1 rfl ?_
  refine zk_iconst (v := 1) (pc := 897) B dL_law_897 (by decide) ?_
  refine zk_iadd (pc := 898) B dL_law_898 ?_
  refine zk_sld (pc := 899) B hx hb dL_law_899 ?_
  refine zk_aload_n (pc := 900) B dL_law_900 5 rfl rfl ?_
  refine zk_iload (pc := 901) B dL_law_901 1 rfl ?_
  refine zk_iconst (v := 2) (pc := 903) B dL_law_903 (by decide) ?_
  refine zk_iadd (pc := 904) B dL_law_904 ?_
  refine zk_sld (pc := 905) B hx hb dL_law_905 ?_
  refine zk_cim (pc := 906) (k' := k + 2) (n' := n + 12) B (by show _ + 0 = _; omega) (by show _ + 0 = _; omega) (by omega) (by omega) (fun b9 hb9 => zr_V B hR kV_yX12_extra km_L_149 kx_12 (gModel_s hm) [.int (S ((i + (1 : Int32))).toNatClampNeg), .int (S ((i + (2 : Int32))).toNatClampNeg)] rfl rfl (Nat.le_of_ble_eq_true rfl) dL_law_906 (m_Model_extra hX hm (S ((i + (1 : Int32))).toNatClampNeg) (S ((i + (2 : Int32))).toNatClampNeg) M2 b9 hb9) ⟨(Nat.le_of_ble_eq_true rfl), (Nat.le_of_ble_eq_true rfl)⟩ ⟨by show k + 2 + 0 ≤ 601024; omega, by show n + 12 + 0 ≤ 7293034; omega⟩) (fun r3 M4 => ?_)
  refine zk_istore (pc := 909) B dL_law_909 (by decide) rfl ?_
  refine zk_aload_n (pc := 911) B dL_law_911 4 rfl rfl ?_
  refine zk_cpi (pc := 912) (k' := k + 2) (n' := n + 12) B (by show _ + 0 = _; omega) (by show _ + 0 = _; omega) (by omega) (by omega) (fun b9 hb9 => zr_V B hR kV_yX12_thrown km_L_113 kx_12 (gModel_s hm) [] rfl rfl (Nat.le_of_ble_eq_true rfl) dL_law_912 (m_Model_thrown hX hm M4 b9 hb9) ⟨(Nat.le_of_ble_eq_true rfl), (Nat.le_of_ble_eq_true rfl)⟩ ⟨by show k + 2 + 0 ≤ 601024; omega, by show n + 12 + 0 ≤ 7293034; omega⟩) (fun r5 _ => ?_)
  refine zk_iload (pc := 915) B dL_law_915 1 rfl ?_
  refine zk_icmp_eq (tgt := 922) (pc := 917) B dL_law_917 (by decide) (fun _ => ?_) (fun _ => ?_)
  · refine zk_iload (pc := 922) B dL_law_922 1 rfl ?_
    refine zk_if_ne (tgt := 939) (pc := 924) B dL_law_924 (by decide) (fun _ => ?_) (fun _ => ?_)
    · refine zk_goto (tgt := 2156) (pc := 939) B dL_law_939 (by decide) ?_
      exact zk_sub [2, 3, 4, 5, 6] rfl (zk_widen (by omega) (by omega) (kk M4))
    · refine zk_aload_n (pc := 927) B dL_law_927 3 rfl rfl ?_
      refine zk_iconst (v := 0) (pc := 928) B dL_law_928 (by decide) ?_
      refine zk_lald (pc := 929) B ha dL_law_929 ?_
      refine zk_iload (pc := 930) B dL_law_930 0 rfl ?_
      refine zk_i2l (pc := 932) B dL_law_932 ?_
      refine zk_lcmp (pc := 933) B dL_law_933 ?_
      refine zk_if_eq (tgt := 939) (pc := 934) B dL_law_934 (by decide) (fun _ => ?_) (fun _ => ?_)
      · refine zk_goto (tgt := 2156) (pc := 939) B dL_law_939 (by decide) ?_
        exact zk_sub [2, 3, 4, 5, 6] rfl (zk_widen (by omega) (by omega) (kk M4))
      · refine zk_iconst (v := 0) (pc := 937) B dL_law_937 (by decide) ?_
        exact zk_iret (pc := 938) B dL_law_938 rfl rfl (by omega) (by omega) rfl
  · refine zk_iconst (v := 0) (pc := 920) B dL_law_920 (by decide) ?_
    exact zk_iret (pc := 921) B dL_law_921 rfl rfl (by omega) (by omega) rfl
def Fc_942 (o L : Nat) (S : Nat → Int32) (i : Int32) (M : z_Mem) (c : z_Mem → Option (Int32 × z_Mem)) : Option (Int32 × z_Mem) :=
  (if z_inb (i + (1 : Int32)) L then (zb2 (F_LW_fare o (o + 573) (S ((i + (1 : Int32))).toNatClampNeg) M) fun r1 M2 => (if z_inb (i + (1 : Int32)) L then (zb2 (F_Model_fare (o + 548) (S ((i + (1 : Int32))).toNatClampNeg) M2) fun r3 M4 => (zb (F_Model_thrown (o + 548) M4) fun r5 => (if r5 = r1 then (if r1 = 0 then (if z_inb (0 : Int32) 1 then (if (lg_cmp (M4.2 (o + 573) ((0 : Int32)).toNatClampNeg) (r3).toInt64) = 0 then c M4 else some ((0 : Int32), M4)) else none) else c M4) else some ((0 : Int32), M4)))) else none)) else none)
set_option maxHeartbeats 4000000 in
set_option maxRecDepth 100000 in
theorem t_942 {X : z_X} (hX : z_ok X) (hN : z_okN X) {G : z_Gr} {o : Nat} (hG : g_Sys G o) (hm : g_Model G (o + 548)) (ha : G.1 (o + 573) = some (.inr (2, 1))) {F : z_F} (B : z_B X F RL cL_law 9 (some .boolean)) (hR : F.2.2.1 = ({ frames := 2048, cells := 601024, slots := 7293034, locals := 84000 } : Room)) {b L : Nat} {S : Nat → Int32} (hx : va_X b L S X.2.1 X.2.1.heap) (hb : b < z_o X) {k n : Nat} (hk : k + 6 ≤ 601024) (hn : n + 36 ≤ 7293034) {b0 : Int32 × z_Mem} {c : z_Mem → Option (Int32 × z_Mem)} (i : Int32) (M : z_Mem) (kk : ∀ M1, z_K X F 9 601024 7293034 G z_cim b0 (k + 6) (n + 36) 2156 [(4, .int i), (3, .ref (o + 573)), (2, .ref (o + 548)), (1, .ref o), (0, .ref b)] [] M1 (c M1)) : z_K X F 9 601024 7293034 G z_cim b0 k n 942 [(4, .int i), (3, .ref (o + 573)), (2, .ref (o + 548)), (1, .ref o), (0, .ref b)] [] M (Fc_942 o L S i M c) := by
  unfold Fc_942
  refine zk_aload_n (pc := 942) B dL_law_942 3 rfl rfl ?_
  refine zk_aload_n (pc := 943) B dL_law_943 4 rfl rfl ?_
  refine zk_iload (pc := 944) B dL_law_944 0 rfl ?_
  refine zk_iconst (v := 1) (pc := 946) B dL_law_946 (by decide) ?_
  refine zk_iadd (pc := 947) B dL_law_947 ?_
  refine zk_sld (pc := 948) B hx hb dL_law_948 ?_
  refine zk_aload_n (pc := 949) B dL_law_949 1 rfl rfl ?_
  refine zk_cim (pc := 950) (k' := k + 1) (n' := n + 6) B (by show _ + 1 = _; omega) (by show _ + 6 = _; omega) (by omega) (by omega) (fun b9 hb9 => zr_W B hR kW_fare km_L_150 [.ref o, .int (S ((i + (1 : Int32))).toNatClampNeg), .ref (o + 573)] rfl rfl (Nat.le_of_ble_eq_true rfl) dL_law_950 (w_fare hX hN hG ha (S ((i + (1 : Int32))).toNatClampNeg) M b9 hb9) ⟨(Nat.le_of_ble_eq_true rfl), (Nat.le_of_ble_eq_true rfl)⟩ ⟨by show k + 1 ≤ 601024; omega, by show n + 6 ≤ 7293034; omega⟩) (fun r1 M2 => ?_)
  refine zk_istore (pc := 953) B dL_law_953 (by decide) rfl ?_
  refine zk_aload_n (pc := 955) B dL_law_955 3 rfl rfl ?_
  refine zk_aload_n (pc := 956) B dL_law_956 5 rfl rfl ?_
  refine zk_iload (pc := 957) B dL_law_957 1 rfl ?_
  refine zk_iconst (v := 1) (pc := 959) B dL_law_959 (by decide) ?_
  refine zk_iadd (pc := 960) B dL_law_960 ?_
  refine zk_sld (pc := 961) B hx hb dL_law_961 ?_
  refine zk_cim (pc := 962) (k' := k + 1) (n' := n + 6) B (by show _ + 0 = _; omega) (by show _ + 0 = _; omega) (by omega) (by omega) (fun b9 hb9 => zr_V B hR kV_yX12_fare km_L_152 kx_12 (gModel_s hm) [.int (S ((i + (1 : Int32))).toNatClampNeg)] rfl rfl (Nat.le_of_ble_eq_true rfl) dL_law_962 (m_Model_fare hX hm (S ((i + (1 : Int32))).toNatClampNeg) M2 b9 hb9) ⟨(Nat.le_of_ble_eq_true rfl), (Nat.le_of_ble_eq_true rfl)⟩ ⟨by show k + 1 + 0 ≤ 601024; omega, by show n + 6 + 0 ≤ 7293034; omega⟩) (fun r3 M4 => ?_)
  refine zk_istore (pc := 965) B dL_law_965 (by decide) rfl ?_
  refine zk_aload_n (pc := 967) B dL_law_967 4 rfl rfl ?_
  refine zk_cpi (pc := 968) (k' := k + 1) (n' := n + 6) B (by show _ + 0 = _; omega) (by show _ + 0 = _; omega) (by omega) (by omega) (fun b9 hb9 => zr_V B hR kV_yX12_thrown km_L_113 kx_12 (gModel_s hm) [] rfl rfl (Nat.le_of_ble_eq_true rfl) dL_law_968 (m_Model_thrown hX hm M4 b9 hb9) ⟨(Nat.le_of_ble_eq_true rfl), (Nat.le_of_ble_eq_true rfl)⟩ ⟨by show k + 1 + 0 ≤ 601024; omega, by show n + 6 + 0 ≤ 7293034; omega⟩) (fun r5 _ => ?_)
  refine zk_iload (pc := 971) B dL_law_971 1 rfl ?_
  refine zk_icmp_eq (tgt := 978) (pc := 973) B dL_law_973 (by decide) (fun _ => ?_) (fun _ => ?_)
  · refine zk_iload (pc := 978) B dL_law_978 1 rfl ?_
    refine zk_if_ne (tgt := 995) (pc := 980) B dL_law_980 (by decide) (fun _ => ?_) (fun _ => ?_)
    · refine zk_goto (tgt := 2156) (pc := 995) B dL_law_995 (by decide) ?_
      exact zk_sub [2, 3, 4, 5, 6] rfl (zk_widen (by omega) (by omega) (kk M4))
    · refine zk_aload_n (pc := 983) B dL_law_983 3 rfl rfl ?_
      refine zk_iconst (v := 0) (pc := 984) B dL_law_984 (by decide) ?_
      refine zk_lald (pc := 985) B ha dL_law_985 ?_
      refine zk_iload (pc := 986) B dL_law_986 0 rfl ?_
      refine zk_i2l (pc := 988) B dL_law_988 ?_
      refine zk_lcmp (pc := 989) B dL_law_989 ?_
      refine zk_if_eq (tgt := 995) (pc := 990) B dL_law_990 (by decide) (fun _ => ?_) (fun _ => ?_)
      · refine zk_goto (tgt := 2156) (pc := 995) B dL_law_995 (by decide) ?_
        exact zk_sub [2, 3, 4, 5, 6] rfl (zk_widen (by omega) (by omega) (kk M4))
      · refine zk_iconst (v := 0) (pc := 993) B dL_law_993 (by decide) ?_
        exact zk_iret (pc := 994) B dL_law_994 rfl rfl (by omega) (by omega) rfl
  · refine zk_iconst (v := 0) (pc := 976) B dL_law_976 (by decide) ?_
    exact zk_iret (pc := 977) B dL_law_977 rfl rfl (by omega) (by omega) rfl
def Fc_998 (o L : Nat) (S : Nat → Int32) (i : Int32) (M : z_Mem) (c : z_Mem → Option (Int32 × z_Mem)) : Option (Int32 × z_Mem) :=
  (if z_inb (i + (1 : Int32)) L then (if z_inb (i + (2 : Int32)) L then (zb2 (F_LW_aloneFare o (o + 573) (S ((i + (1 : Int32))).toNatClampNeg) (S ((i + (2 : Int32))).toNatClampNeg) M) fun r1 M2 => (if z_inb (i + (1 : Int32)) L then (if z_inb (i + (2 : Int32)) L then (zb2 (F_Model_aloneFare (o + 548) (S ((i + (1 : Int32))).toNatClampNeg) (S ((i + (2 : Int32))).toNatClampNeg) M2) fun r3 M4 => (zb (F_Model_thrown (o + 548) M4) fun r5 => (if r5 = r1 then (if r1 = 0 then (if z_inb (0 : Int32) 1 then (if (lg_cmp (M4.2 (o + 573) ((0 : Int32)).toNatClampNeg) (r3).toInt64) = 0 then c M4 else some ((0 : Int32), M4)) else none) else c M4) else some ((0 : Int32), M4)))) else none) else none)) else none) else none)
set_option maxHeartbeats 4000000 in
set_option maxRecDepth 100000 in
theorem t_998 {X : z_X} (hX : z_ok X) (hN : z_okN X) {G : z_Gr} {o : Nat} (hG : g_Sys G o) (hm : g_Model G (o + 548)) (ha : G.1 (o + 573) = some (.inr (2, 1))) {F : z_F} (B : z_B X F RL cL_law 9 (some .boolean)) (hR : F.2.2.1 = ({ frames := 2048, cells := 601024, slots := 7293034, locals := 84000 } : Room)) {b L : Nat} {S : Nat → Int32} (hx : va_X b L S X.2.1 X.2.1.heap) (hb : b < z_o X) {k n : Nat} (hk : k + 6 ≤ 601024) (hn : n + 36 ≤ 7293034) {b0 : Int32 × z_Mem} {c : z_Mem → Option (Int32 × z_Mem)} (i : Int32) (M : z_Mem) (kk : ∀ M1, z_K X F 9 601024 7293034 G z_cim b0 (k + 6) (n + 36) 2156 [(4, .int i), (3, .ref (o + 573)), (2, .ref (o + 548)), (1, .ref o), (0, .ref b)] [] M1 (c M1)) : z_K X F 9 601024 7293034 G z_cim b0 k n 998 [(4, .int i), (3, .ref (o + 573)), (2, .ref (o + 548)), (1, .ref o), (0, .ref b)] [] M (Fc_998 o L S i M c) := by
  unfold Fc_998
  refine zk_aload_n (pc := 998) B dL_law_998 3 rfl rfl ?_
  refine zk_aload_n (pc := 999) B dL_law_999 4 rfl rfl ?_
  refine zk_iload (pc := 1000) B dL_law_1000 0 rfl ?_
  refine zk_iconst (v := 1) (pc := 1002) B dL_law_1002 (by decide) ?_
  refine zk_iadd (pc := 1003) B dL_law_1003 ?_
  refine zk_sld (pc := 1004) B hx hb dL_law_1004 ?_
  refine zk_aload_n (pc := 1005) B dL_law_1005 4 rfl rfl ?_
  refine zk_iload (pc := 1006) B dL_law_1006 0 rfl ?_
  refine zk_iconst (v := 2) (pc := 1008) B dL_law_1008 (by decide) ?_
  refine zk_iadd (pc := 1009) B dL_law_1009 ?_
  refine zk_sld (pc := 1010) B hx hb dL_law_1010 ?_
  refine zk_aload_n (pc := 1011) B dL_law_1011 1 rfl rfl ?_
  refine zk_cim (pc := 1012) (k' := k + 2) (n' := n + 12) B (by show _ + 2 = _; omega) (by show _ + 12 = _; omega) (by omega) (by omega) (fun b9 hb9 => zr_W B hR kW_aloneFare km_L_153 [.ref o, .int (S ((i + (1 : Int32))).toNatClampNeg), .int (S ((i + (2 : Int32))).toNatClampNeg), .ref (o + 573)] rfl rfl (Nat.le_of_ble_eq_true rfl) dL_law_1012 (w_aloneFare hX hN hG ha (S ((i + (1 : Int32))).toNatClampNeg) (S ((i + (2 : Int32))).toNatClampNeg) M b9 hb9) ⟨(Nat.le_of_ble_eq_true rfl), (Nat.le_of_ble_eq_true rfl)⟩ ⟨by show k + 2 ≤ 601024; omega, by show n + 12 ≤ 7293034; omega⟩) (fun r1 M2 => ?_)
  refine zk_istore (pc := 1015) B dL_law_1015 (by decide) rfl ?_
  refine zk_aload_n (pc := 1017) B dL_law_1017 3 rfl rfl ?_
  refine zk_aload_n (pc := 1018) B dL_law_1018 5 rfl rfl ?_
  refine zk_iload (pc := 1019) B dL_law_1019 1 rfl ?_
  refine zk_iconst (v := 1) (pc := 1021) B dL_law_1021 (by decide) ?_
  refine zk_iadd (pc := 1022) B dL_law_1022 ?_
  refine zk_sld (pc := 1023) B hx hb dL_law_1023 ?_
  refine zk_aload_n (pc := 1024) B dL_law_1024 5 rfl rfl ?_
  refine zk_iload (pc := 1025) B dL_law_1025 1 rfl ?_
  refine zk_iconst (v := 2) (pc := 1027) B dL_law_1027 (by decide) ?_
  refine zk_iadd (pc := 1028) B dL_law_1028 ?_
  refine zk_sld (pc := 1029) B hx hb dL_law_1029 ?_
  refine zk_cim (pc := 1030) (k' := k + 2) (n' := n + 12) B (by show _ + 0 = _; omega) (by show _ + 0 = _; omega) (by omega) (by omega) (fun b9 hb9 => zr_V B hR kV_yX12_aloneFare km_L_155 kx_12 (gModel_s hm) [.int (S ((i + (1 : Int32))).toNatClampNeg), .int (S ((i + (2 : Int32))).toNatClampNeg)] rfl rfl (Nat.le_of_ble_eq_true rfl) dL_law_1030 (m_Model_aloneFare hX hm (S ((i + (1 : Int32))).toNatClampNeg) (S ((i + (2 : Int32))).toNatClampNeg) M2 b9 hb9) ⟨(Nat.le_of_ble_eq_true rfl), (Nat.le_of_ble_eq_true rfl)⟩ ⟨by show k + 2 + 0 ≤ 601024; omega, by show n + 12 + 0 ≤ 7293034; omega⟩) (fun r3 M4 => ?_)
  refine zk_istore (pc := 1033) B dL_law_1033 (by decide) rfl ?_
  refine zk_aload_n (pc := 1035) B dL_law_1035 4 rfl rfl ?_
  refine zk_cpi (pc := 1036) (k' := k + 2) (n' := n + 12) B (by show _ + 0 = _; omega) (by show _ + 0 = _; omega) (by omega) (by omega) (fun b9 hb9 => zr_V B hR kV_yX12_thrown km_L_113 kx_12 (gModel_s hm) [] rfl rfl (Nat.le_of_ble_eq_true rfl) dL_law_1036 (m_Model_thrown hX hm M4 b9 hb9) ⟨(Nat.le_of_ble_eq_true rfl), (Nat.le_of_ble_eq_true rfl)⟩ ⟨by show k + 2 + 0 ≤ 601024; omega, by show n + 12 + 0 ≤ 7293034; omega⟩) (fun r5 _ => ?_)
  refine zk_iload (pc := 1039) B dL_law_1039 1 rfl ?_
  refine zk_icmp_eq (tgt := 1046) (pc := 1041) B dL_law_1041 (by decide) (fun _ => ?_) (fun _ => ?_)
  · refine zk_iload (pc := 1046) B dL_law_1046 1 rfl ?_
    refine zk_if_ne (tgt := 1063) (pc := 1048) B dL_law_1048 (by decide) (fun _ => ?_) (fun _ => ?_)
    · refine zk_goto (tgt := 2156) (pc := 1063) B dL_law_1063 (by decide) ?_
      exact zk_sub [2, 3, 4, 5, 6] rfl (zk_widen (by omega) (by omega) (kk M4))
    · refine zk_aload_n (pc := 1051) B dL_law_1051 3 rfl rfl ?_
      refine zk_iconst (v := 0) (pc := 1052) B dL_law_1052 (by decide) ?_
      refine zk_lald (pc := 1053) B ha dL_law_1053 ?_
      refine zk_iload (pc := 1054) B dL_law_1054 0 rfl ?_
      refine zk_i2l (pc := 1056) B dL_law_1056 ?_
      refine zk_lcmp (pc := 1057) B dL_law_1057 ?_
      refine zk_if_eq (tgt := 1063) (pc := 1058) B dL_law_1058 (by decide) (fun _ => ?_) (fun _ => ?_)
      · refine zk_goto (tgt := 2156) (pc := 1063) B dL_law_1063 (by decide) ?_
        exact zk_sub [2, 3, 4, 5, 6] rfl (zk_widen (by omega) (by omega) (kk M4))
      · refine zk_iconst (v := 0) (pc := 1061) B dL_law_1061 (by decide) ?_
        exact zk_iret (pc := 1062) B dL_law_1062 rfl rfl (by omega) (by omega) rfl
  · refine zk_iconst (v := 0) (pc := 1044) B dL_law_1044 (by decide) ?_
    exact zk_iret (pc := 1045) B dL_law_1045 rfl rfl (by omega) (by omega) rfl
def Fc_1066 (o L : Nat) (S : Nat → Int32) (i : Int32) (M : z_Mem) (c : z_Mem → Option (Int32 × z_Mem)) : Option (Int32 × z_Mem) :=
  (if z_inb (i + (1 : Int32)) L then (zb2 (F_LW_keeps o (o + 573) (S ((i + (1 : Int32))).toNatClampNeg) M) fun r1 M2 => (if z_inb (i + (1 : Int32)) L then (zb2 (F_Model_keeps (o + 548) (S ((i + (1 : Int32))).toNatClampNeg) M2) fun r3 M4 => (zb (F_Model_thrown (o + 548) M4) fun r5 => (if r5 = r1 then (if r1 = 0 then (if z_inb (0 : Int32) 1 then (if r3 = 0 then (if (lg_cmp (M4.2 (o + 573) ((0 : Int32)).toNatClampNeg) (0 : Int64)) = 0 then c M4 else some ((0 : Int32), M4)) else (if (lg_cmp (M4.2 (o + 573) ((0 : Int32)).toNatClampNeg) (1 : Int64)) = 0 then c M4 else some ((0 : Int32), M4))) else none) else c M4) else some ((0 : Int32), M4)))) else none)) else none)
set_option maxHeartbeats 4000000 in
set_option maxRecDepth 100000 in
theorem t_1066 {X : z_X} (hX : z_ok X) (hN : z_okN X) {G : z_Gr} {o : Nat} (hG : g_Sys G o) (hm : g_Model G (o + 548)) (ha : G.1 (o + 573) = some (.inr (2, 1))) {F : z_F} (B : z_B X F RL cL_law 9 (some .boolean)) (hR : F.2.2.1 = ({ frames := 2048, cells := 601024, slots := 7293034, locals := 84000 } : Room)) {b L : Nat} {S : Nat → Int32} (hx : va_X b L S X.2.1 X.2.1.heap) (hb : b < z_o X) {k n : Nat} (hk : k + 6 ≤ 601024) (hn : n + 36 ≤ 7293034) {b0 : Int32 × z_Mem} {c : z_Mem → Option (Int32 × z_Mem)} (i : Int32) (M : z_Mem) (kk : ∀ M1, z_K X F 9 601024 7293034 G z_cim b0 (k + 6) (n + 36) 2156 [(4, .int i), (3, .ref (o + 573)), (2, .ref (o + 548)), (1, .ref o), (0, .ref b)] [] M1 (c M1)) : z_K X F 9 601024 7293034 G z_cim b0 k n 1066 [(4, .int i), (3, .ref (o + 573)), (2, .ref (o + 548)), (1, .ref o), (0, .ref b)] [] M (Fc_1066 o L S i M c) := by
  unfold Fc_1066
  refine zk_aload_n (pc := 1066) B dL_law_1066 3 rfl rfl ?_
  refine zk_aload_n (pc := 1067) B dL_law_1067 4 rfl rfl ?_
  refine zk_iload (pc := 1068) B dL_law_1068 0 rfl ?_
  refine zk_iconst (v := 1) (pc := 1070) B dL_law_1070 (by decide) ?_
  refine zk_iadd (pc := 1071) B dL_law_1071 ?_
  refine zk_sld (pc := 1072) B hx hb dL_law_1072 ?_
  refine zk_aload_n (pc := 1073) B dL_law_1073 1 rfl rfl ?_
  refine zk_cim (pc := 1074) (k' := k + 1) (n' := n + 6) B (by show _ + 1 = _; omega) (by show _ + 6 = _; omega) (by omega) (by omega) (fun b9 hb9 => zr_W B hR kW_keeps km_L_156 [.ref o, .int (S ((i + (1 : Int32))).toNatClampNeg), .ref (o + 573)] rfl rfl (Nat.le_of_ble_eq_true rfl) dL_law_1074 (w_keeps hX hN hG ha (S ((i + (1 : Int32))).toNatClampNeg) M b9 hb9) ⟨(Nat.le_of_ble_eq_true rfl), (Nat.le_of_ble_eq_true rfl)⟩ ⟨by show k + 1 ≤ 601024; omega, by show n + 6 ≤ 7293034; omega⟩) (fun r1 M2 => ?_)
  refine zk_istore (pc := 1077) B dL_law_1077 (by decide) rfl ?_
  refine zk_aload_n (pc := 1079) B dL_law_1079 3 rfl rfl ?_
  refine zk_aload_n (pc := 1080) B dL_law_1080 5 rfl rfl ?_
  refine zk_iload (pc := 1081) B dL_law_1081 1 rfl ?_
  refine zk_iconst (v := 1) (pc := 1083) B dL_law_1083 (by decide) ?_
  refine zk_iadd (pc := 1084) B dL_law_1084 ?_
  refine zk_sld (pc := 1085) B hx hb dL_law_1085 ?_
  refine zk_cim (pc := 1086) (k' := k + 1) (n' := n + 6) B (by show _ + 0 = _; omega) (by show _ + 0 = _; omega) (by omega) (by omega) (fun b9 hb9 => zr_V B hR kV_yX12_keeps km_L_158 kx_12 (gModel_s hm) [.int (S ((i + (1 : Int32))).toNatClampNeg)] rfl rfl (Nat.le_of_ble_eq_true rfl) dL_law_1086 (m_Model_keeps hX hm (S ((i + (1 : Int32))).toNatClampNeg) M2 b9 hb9) ⟨(Nat.le_of_ble_eq_true rfl), (Nat.le_of_ble_eq_true rfl)⟩ ⟨by show k + 1 + 0 ≤ 601024; omega, by show n + 6 + 0 ≤ 7293034; omega⟩) (fun r3 M4 => ?_)
  refine zk_istore (pc := 1089) B dL_law_1089 (by decide) rfl ?_
  refine zk_aload_n (pc := 1091) B dL_law_1091 4 rfl rfl ?_
  refine zk_cpi (pc := 1092) (k' := k + 1) (n' := n + 6) B (by show _ + 0 = _; omega) (by show _ + 0 = _; omega) (by omega) (by omega) (fun b9 hb9 => zr_V B hR kV_yX12_thrown km_L_113 kx_12 (gModel_s hm) [] rfl rfl (Nat.le_of_ble_eq_true rfl) dL_law_1092 (m_Model_thrown hX hm M4 b9 hb9) ⟨(Nat.le_of_ble_eq_true rfl), (Nat.le_of_ble_eq_true rfl)⟩ ⟨by show k + 1 + 0 ≤ 601024; omega, by show n + 6 + 0 ≤ 7293034; omega⟩) (fun r5 _ => ?_)
  refine zk_iload (pc := 1095) B dL_law_1095 1 rfl ?_
  refine zk_icmp_eq (tgt := 1102) (pc := 1097) B dL_law_1097 (by decide) (fun _ => ?_) (fun _ => ?_)
  · refine zk_iload (pc := 1102) B dL_law_1102 1 rfl ?_
    refine zk_if_ne (tgt := 1126) (pc := 1104) B dL_law_1104 (by decide) (fun _ => ?_) (fun _ => ?_)
    · refine zk_goto (tgt := 2156) (pc := 1126) B dL_law_1126 (by decide) ?_
      exact zk_sub [2, 3, 4, 5, 6] rfl (zk_widen (by omega) (by omega) (kk M4))
    · refine zk_aload_n (pc := 1107) B dL_law_1107 3 rfl rfl ?_
      refine zk_iconst (v := 0) (pc := 1108) B dL_law_1108 (by decide) ?_
      refine zk_lald (pc := 1109) B ha dL_law_1109 ?_
      refine zk_iload (pc := 1110) B dL_law_1110 0 rfl ?_
      refine zk_if_eq (tgt := 1119) (pc := 1112) B dL_law_1112 (by decide) (fun _ => ?_) (fun _ => ?_)
      · refine zk_lconst (v := 0) (pc := 1119) B dL_law_1119 (by decide) ?_
        refine zk_lcmp (pc := 1120) B dL_law_1120 ?_
        refine zk_if_eq (tgt := 1126) (pc := 1121) B dL_law_1121 (by decide) (fun _ => ?_) (fun _ => ?_)
        · refine zk_goto (tgt := 2156) (pc := 1126) B dL_law_1126 (by decide) ?_
          exact zk_sub [2, 3, 4, 5, 6] rfl (zk_widen (by omega) (by omega) (kk M4))
        · refine zk_iconst (v := 0) (pc := 1124) B dL_law_1124 (by decide) ?_
          exact zk_iret (pc := 1125) B dL_law_1125 rfl rfl (by omega) (by omega) rfl
      · refine zk_lconst (v := 1) (pc := 1115) B dL_law_1115 (by decide) ?_
        refine zk_goto (tgt := 1120) (pc := 1116) B dL_law_1116 (by decide) ?_
        refine zk_lcmp (pc := 1120) B dL_law_1120 ?_
        refine zk_if_eq (tgt := 1126) (pc := 1121) B dL_law_1121 (by decide) (fun _ => ?_) (fun _ => ?_)
        · refine zk_goto (tgt := 2156) (pc := 1126) B dL_law_1126 (by decide) ?_
          exact zk_sub [2, 3, 4, 5, 6] rfl (zk_widen (by omega) (by omega) (kk M4))
        · refine zk_iconst (v := 0) (pc := 1124) B dL_law_1124 (by decide) ?_
          exact zk_iret (pc := 1125) B dL_law_1125 rfl rfl (by omega) (by omega) rfl
  · refine zk_iconst (v := 0) (pc := 1100) B dL_law_1100 (by decide) ?_
    exact zk_iret (pc := 1101) B dL_law_1101 rfl rfl (by omega) (by omega) rfl
def Fc_1129 (o L : Nat) (S : Nat → Int32) (i : Int32) (M : z_Mem) (c : z_Mem → Option (Int32 × z_Mem)) : Option (Int32 × z_Mem) :=
  (if z_inb (i + (1 : Int32)) L then (zb2 (F_LW_routeMinutes o (o + 573) (S ((i + (1 : Int32))).toNatClampNeg) M) fun r1 M2 => (if z_inb (i + (1 : Int32)) L then (zb2 (F_Model_routeMinutes (o + 548) (S ((i + (1 : Int32))).toNatClampNeg) M2) fun r3 M4 => (zb (F_Model_thrown (o + 548) M4) fun r5 => (if r5 = r1 then (if r1 = 0 then (if z_inb (0 : Int32) 1 then (if (lg_cmp (M4.2 (o + 573) ((0 : Int32)).toNatClampNeg) (r3).toInt64) = 0 then c M4 else some ((0 : Int32), M4)) else none) else c M4) else some ((0 : Int32), M4)))) else none)) else none)
set_option maxHeartbeats 4000000 in
set_option maxRecDepth 100000 in
theorem t_1129 {X : z_X} (hX : z_ok X) (hN : z_okN X) {G : z_Gr} {o : Nat} (hG : g_Sys G o) (hm : g_Model G (o + 548)) (ha : G.1 (o + 573) = some (.inr (2, 1))) {F : z_F} (B : z_B X F RL cL_law 9 (some .boolean)) (hR : F.2.2.1 = ({ frames := 2048, cells := 601024, slots := 7293034, locals := 84000 } : Room)) {b L : Nat} {S : Nat → Int32} (hx : va_X b L S X.2.1 X.2.1.heap) (hb : b < z_o X) {k n : Nat} (hk : k + 6 ≤ 601024) (hn : n + 36 ≤ 7293034) {b0 : Int32 × z_Mem} {c : z_Mem → Option (Int32 × z_Mem)} (i : Int32) (M : z_Mem) (kk : ∀ M1, z_K X F 9 601024 7293034 G z_cim b0 (k + 6) (n + 36) 2156 [(4, .int i), (3, .ref (o + 573)), (2, .ref (o + 548)), (1, .ref o), (0, .ref b)] [] M1 (c M1)) : z_K X F 9 601024 7293034 G z_cim b0 k n 1129 [(4, .int i), (3, .ref (o + 573)), (2, .ref (o + 548)), (1, .ref o), (0, .ref b)] [] M (Fc_1129 o L S i M c) := by
  unfold Fc_1129
  refine zk_aload_n (pc := 1129) B dL_law_1129 3 rfl rfl ?_
  refine zk_aload_n (pc := 1130) B dL_law_1130 4 rfl rfl ?_
  refine zk_iload (pc := 1131) B dL_law_1131 0 rfl ?_
  refine zk_iconst (v := 1) (pc := 1133) B dL_law_1133 (by decide) ?_
  refine zk_iadd (pc := 1134) B dL_law_1134 ?_
  refine zk_sld (pc := 1135) B hx hb dL_law_1135 ?_
  refine zk_aload_n (pc := 1136) B dL_law_1136 1 rfl rfl ?_
  refine zk_cim (pc := 1137) (k' := k + 1) (n' := n + 6) B (by show _ + 1 = _; omega) (by show _ + 6 = _; omega) (by omega) (by omega) (fun b9 hb9 => zr_W B hR kW_routeMinutes km_L_159 [.ref o, .int (S ((i + (1 : Int32))).toNatClampNeg), .ref (o + 573)] rfl rfl (Nat.le_of_ble_eq_true rfl) dL_law_1137 (w_routeMinutes hX hN hG ha (S ((i + (1 : Int32))).toNatClampNeg) M b9 hb9) ⟨(Nat.le_of_ble_eq_true rfl), (Nat.le_of_ble_eq_true rfl)⟩ ⟨by show k + 1 ≤ 601024; omega, by show n + 6 ≤ 7293034; omega⟩) (fun r1 M2 => ?_)
  refine zk_istore (pc := 1140) B dL_law_1140 (by decide) rfl ?_
  refine zk_aload_n (pc := 1142) B dL_law_1142 3 rfl rfl ?_
  refine zk_aload_n (pc := 1143) B dL_law_1143 5 rfl rfl ?_
  refine zk_iload (pc := 1144) B dL_law_1144 1 rfl ?_
  refine zk_iconst (v := 1) (pc := 1146) B dL_law_1146 (by decide) ?_
  refine zk_iadd (pc := 1147) B dL_law_1147 ?_
  refine zk_sld (pc := 1148) B hx hb dL_law_1148 ?_
  refine zk_cim (pc := 1149) (k' := k + 1) (n' := n + 6) B (by show _ + 0 = _; omega) (by show _ + 0 = _; omega) (by omega) (by omega) (fun b9 hb9 => zr_V B hR kV_yX12_routeMinutes km_L_161 kx_12 (gModel_s hm) [.int (S ((i + (1 : Int32))).toNatClampNeg)] rfl rfl (Nat.le_of_ble_eq_true rfl) dL_law_1149 (m_Model_routeMinutes hX hm (S ((i + (1 : Int32))).toNatClampNeg) M2 b9 hb9) ⟨(Nat.le_of_ble_eq_true rfl), (Nat.le_of_ble_eq_true rfl)⟩ ⟨by show k + 1 + 0 ≤ 601024; omega, by show n + 6 + 0 ≤ 7293034; omega⟩) (fun r3 M4 => ?_)
  refine zk_istore (pc := 1152) B dL_law_1152 (by decide) rfl ?_
  refine zk_aload_n (pc := 1154) B dL_law_1154 4 rfl rfl ?_
  refine zk_cpi (pc := 1155) (k' := k + 1) (n' := n + 6) B (by show _ + 0 = _; omega) (by show _ + 0 = _; omega) (by omega) (by omega) (fun b9 hb9 => zr_V B hR kV_yX12_thrown km_L_113 kx_12 (gModel_s hm) [] rfl rfl (Nat.le_of_ble_eq_true rfl) dL_law_1155 (m_Model_thrown hX hm M4 b9 hb9) ⟨(Nat.le_of_ble_eq_true rfl), (Nat.le_of_ble_eq_true rfl)⟩ ⟨by show k + 1 + 0 ≤ 601024; omega, by show n + 6 + 0 ≤ 7293034; omega⟩) (fun r5 _ => ?_)
  refine zk_iload (pc := 1158) B dL_law_1158 1 rfl ?_
  refine zk_icmp_eq (tgt := 1165) (pc := 1160) B dL_law_1160 (by decide) (fun _ => ?_) (fun _ => ?_)
  · refine zk_iload (pc := 1165) B dL_law_1165 1 rfl ?_
    refine zk_if_ne (tgt := 1182) (pc := 1167) B dL_law_1167 (by decide) (fun _ => ?_) (fun _ => ?_)
    · refine zk_goto (tgt := 2156) (pc := 1182) B dL_law_1182 (by decide) ?_
      exact zk_sub [2, 3, 4, 5, 6] rfl (zk_widen (by omega) (by omega) (kk M4))
    · refine zk_aload_n (pc := 1170) B dL_law_1170 3 rfl rfl ?_
      refine zk_iconst (v := 0) (pc := 1171) B dL_law_1171 (by decide) ?_
      refine zk_lald (pc := 1172) B ha dL_law_1172 ?_
      refine zk_iload (pc := 1173) B dL_law_1173 0 rfl ?_
      refine zk_i2l (pc := 1175) B dL_law_1175 ?_
      refine zk_lcmp (pc := 1176) B dL_law_1176 ?_
      refine zk_if_eq (tgt := 1182) (pc := 1177) B dL_law_1177 (by decide) (fun _ => ?_) (fun _ => ?_)
      · refine zk_goto (tgt := 2156) (pc := 1182) B dL_law_1182 (by decide) ?_
        exact zk_sub [2, 3, 4, 5, 6] rfl (zk_widen (by omega) (by omega) (kk M4))
      · refine zk_iconst (v := 0) (pc := 1180) B dL_law_1180 (by decide) ?_
        exact zk_iret (pc := 1181) B dL_law_1181 rfl rfl (by omega) (by omega) rfl
  · refine zk_iconst (v := 0) (pc := 1163) B dL_law_1163 (by decide) ?_
    exact zk_iret (pc := 1164) B dL_law_1164 rfl rfl (by omega) (by omega) rfl
def Fc_1185 (o L : Nat) (S : Nat → Int32) (i : Int32) (M : z_Mem) (c : z_Mem → Option (Int32 × z_Mem)) : Option (Int32 × z_Mem) :=
  (if z_inb (i + (1 : Int32)) L then (zb2 (F_LW_rides o (o + 573) (S ((i + (1 : Int32))).toNatClampNeg) M) fun r1 M2 => (if z_inb (i + (1 : Int32)) L then (zb2 (F_Model_rides (o + 548) (S ((i + (1 : Int32))).toNatClampNeg) M2) fun r3 M4 => (zb (F_Model_thrown (o + 548) M4) fun r5 => (if r5 = r1 then (if r1 = 0 then (if z_inb (0 : Int32) 1 then (if (lg_cmp (M4.2 (o + 573) ((0 : Int32)).toNatClampNeg) (r3).toInt64) = 0 then c M4 else some ((0 : Int32), M4)) else none) else c M4) else some ((0 : Int32), M4)))) else none)) else none)
set_option maxHeartbeats 4000000 in
set_option maxRecDepth 100000 in
theorem t_1185 {X : z_X} (hX : z_ok X) (hN : z_okN X) {G : z_Gr} {o : Nat} (hG : g_Sys G o) (hm : g_Model G (o + 548)) (ha : G.1 (o + 573) = some (.inr (2, 1))) {F : z_F} (B : z_B X F RL cL_law 9 (some .boolean)) (hR : F.2.2.1 = ({ frames := 2048, cells := 601024, slots := 7293034, locals := 84000 } : Room)) {b L : Nat} {S : Nat → Int32} (hx : va_X b L S X.2.1 X.2.1.heap) (hb : b < z_o X) {k n : Nat} (hk : k + 6 ≤ 601024) (hn : n + 36 ≤ 7293034) {b0 : Int32 × z_Mem} {c : z_Mem → Option (Int32 × z_Mem)} (i : Int32) (M : z_Mem) (kk : ∀ M1, z_K X F 9 601024 7293034 G z_cim b0 (k + 6) (n + 36) 2156 [(4, .int i), (3, .ref (o + 573)), (2, .ref (o + 548)), (1, .ref o), (0, .ref b)] [] M1 (c M1)) : z_K X F 9 601024 7293034 G z_cim b0 k n 1185 [(4, .int i), (3, .ref (o + 573)), (2, .ref (o + 548)), (1, .ref o), (0, .ref b)] [] M (Fc_1185 o L S i M c) := by
  unfold Fc_1185
  refine zk_aload_n (pc := 1185) B dL_law_1185 3 rfl rfl ?_
  refine zk_aload_n (pc := 1186) B dL_law_1186 4 rfl rfl ?_
  refine zk_iload (pc := 1187) B dL_law_1187 0 rfl ?_
  refine zk_iconst (v := 1) (pc := 1189) B dL_law_1189 (by decide) ?_
  refine zk_iadd (pc := 1190) B dL_law_1190 ?_
  refine zk_sld (pc := 1191) B hx hb dL_law_1191 ?_
  refine zk_aload_n (pc := 1192) B dL_law_1192 1 rfl rfl ?_
  refine zk_cim (pc := 1193) (k' := k + 1) (n' := n + 6) B (by show _ + 1 = _; omega) (by show _ + 6 = _; omega) (by omega) (by omega) (fun b9 hb9 => zr_W B hR kW_rides km_L_162 [.ref o, .int (S ((i + (1 : Int32))).toNatClampNeg), .ref (o + 573)] rfl rfl (Nat.le_of_ble_eq_true rfl) dL_law_1193 (w_rides hX hN hG ha (S ((i + (1 : Int32))).toNatClampNeg) M b9 hb9) ⟨(Nat.le_of_ble_eq_true rfl), (Nat.le_of_ble_eq_true rfl)⟩ ⟨by show k + 1 ≤ 601024; omega, by show n + 6 ≤ 7293034; omega⟩) (fun r1 M2 => ?_)
  refine zk_istore (pc := 1196) B dL_law_1196 (by decide) rfl ?_
  refine zk_aload_n (pc := 1198) B dL_law_1198 3 rfl rfl ?_
  refine zk_aload_n (pc := 1199) B dL_law_1199 5 rfl rfl ?_
  refine zk_iload (pc := 1200) B dL_law_1200 1 rfl ?_
  refine zk_iconst (v := 1) (pc := 1202) B dL_law_1202 (by decide) ?_
  refine zk_iadd (pc := 1203) B dL_law_1203 ?_
  refine zk_sld (pc := 1204) B hx hb dL_law_1204 ?_
  refine zk_cim (pc := 1205) (k' := k + 1) (n' := n + 6) B (by show _ + 0 = _; omega) (by show _ + 0 = _; omega) (by omega) (by omega) (fun b9 hb9 => zr_V B hR kV_yX12_rides km_L_164 kx_12 (gModel_s hm) [.int (S ((i + (1 : Int32))).toNatClampNeg)] rfl rfl (Nat.le_of_ble_eq_true rfl) dL_law_1205 (m_Model_rides hX hm (S ((i + (1 : Int32))).toNatClampNeg) M2 b9 hb9) ⟨(Nat.le_of_ble_eq_true rfl), (Nat.le_of_ble_eq_true rfl)⟩ ⟨by show k + 1 + 0 ≤ 601024; omega, by show n + 6 + 0 ≤ 7293034; omega⟩) (fun r3 M4 => ?_)
  refine zk_istore (pc := 1208) B dL_law_1208 (by decide) rfl ?_
  refine zk_aload_n (pc := 1210) B dL_law_1210 4 rfl rfl ?_
  refine zk_cpi (pc := 1211) (k' := k + 1) (n' := n + 6) B (by show _ + 0 = _; omega) (by show _ + 0 = _; omega) (by omega) (by omega) (fun b9 hb9 => zr_V B hR kV_yX12_thrown km_L_113 kx_12 (gModel_s hm) [] rfl rfl (Nat.le_of_ble_eq_true rfl) dL_law_1211 (m_Model_thrown hX hm M4 b9 hb9) ⟨(Nat.le_of_ble_eq_true rfl), (Nat.le_of_ble_eq_true rfl)⟩ ⟨by show k + 1 + 0 ≤ 601024; omega, by show n + 6 + 0 ≤ 7293034; omega⟩) (fun r5 _ => ?_)
  refine zk_iload (pc := 1214) B dL_law_1214 1 rfl ?_
  refine zk_icmp_eq (tgt := 1221) (pc := 1216) B dL_law_1216 (by decide) (fun _ => ?_) (fun _ => ?_)
  · refine zk_iload (pc := 1221) B dL_law_1221 1 rfl ?_
    refine zk_if_ne (tgt := 1238) (pc := 1223) B dL_law_1223 (by decide) (fun _ => ?_) (fun _ => ?_)
    · refine zk_goto (tgt := 2156) (pc := 1238) B dL_law_1238 (by decide) ?_
      exact zk_sub [2, 3, 4, 5, 6] rfl (zk_widen (by omega) (by omega) (kk M4))
    · refine zk_aload_n (pc := 1226) B dL_law_1226 3 rfl rfl ?_
      refine zk_iconst (v := 0) (pc := 1227) B dL_law_1227 (by decide) ?_
      refine zk_lald (pc := 1228) B ha dL_law_1228 ?_
      refine zk_iload (pc := 1229) B dL_law_1229 0 rfl ?_
      refine zk_i2l (pc := 1231) B dL_law_1231 ?_
      refine zk_lcmp (pc := 1232) B dL_law_1232 ?_
      refine zk_if_eq (tgt := 1238) (pc := 1233) B dL_law_1233 (by decide) (fun _ => ?_) (fun _ => ?_)
      · refine zk_goto (tgt := 2156) (pc := 1238) B dL_law_1238 (by decide) ?_
        exact zk_sub [2, 3, 4, 5, 6] rfl (zk_widen (by omega) (by omega) (kk M4))
      · refine zk_iconst (v := 0) (pc := 1236) B dL_law_1236 (by decide) ?_
        exact zk_iret (pc := 1237) B dL_law_1237 rfl rfl (by omega) (by omega) rfl
  · refine zk_iconst (v := 0) (pc := 1219) B dL_law_1219 (by decide) ?_
    exact zk_iret (pc := 1220) B dL_law_1220 rfl rfl (by omega) (by omega) rfl
def Fc_1241 (o L : Nat) (S : Nat → Int32) (i : Int32) (M : z_Mem) (c : z_Mem → Option (Int32 × z_Mem)) : Option (Int32 × z_Mem) :=
  (zb (F_Sys_meanFare o M) fun r1 => (zb2 (F_Model_meanFare (o + 548) M) fun r2 M3 => (if (Op.cmpValue (FP.dcmp r1 r2) .l) = 0 then c M3 else (if (Op.cmpValue (FP.dcmp r1 r1) .l) = 0 then some ((0 : Int32), M3) else (if (Op.cmpValue (FP.dcmp r2 r2) .l) = 0 then some ((0 : Int32), M3) else c M3)))))
set_option maxHeartbeats 4000000 in
set_option maxRecDepth 100000 in
theorem t_1241 {X : z_X} (hX : z_ok X) (hN : z_okN X) {G : z_Gr} {o : Nat} (hG : g_Sys G o) (hm : g_Model G (o + 548)) (ha : G.1 (o + 573) = some (.inr (2, 1))) {F : z_F} (B : z_B X F RL cL_law 9 (some .boolean)) (hR : F.2.2.1 = ({ frames := 2048, cells := 601024, slots := 7293034, locals := 84000 } : Room)) {b L : Nat} {S : Nat → Int32} (hx : va_X b L S X.2.1 X.2.1.heap) (hb : b < z_o X) {k n : Nat} (hk : k + 6 ≤ 601024) (hn : n + 36 ≤ 7293034) {b0 : Int32 × z_Mem} {c : z_Mem → Option (Int32 × z_Mem)} (i : Int32) (M : z_Mem) (kk : ∀ M1, z_K X F 9 601024 7293034 G z_cim b0 (k + 6) (n + 36) 2156 [(4, .int i), (3, .ref (o + 573)), (2, .ref (o + 548)), (1, .ref o), (0, .ref b)] [] M1 (c M1)) : z_K X F 9 601024 7293034 G z_cim b0 k n 1241 [(4, .int i), (3, .ref (o + 573)), (2, .ref (o + 548)), (1, .ref o), (0, .ref b)] [] M (Fc_1241 o L S i M c) := by
  unfold Fc_1241
  refine zk_aload_n (pc := 1241) B dL_law_1241 3 rfl rfl ?_
  refine zk_cdp (pc := 1242) (k' := k) (n' := n) B (by show _ + 0 = _; omega) (by show _ + 0 = _; omega) (by omega) (by omega) (fun b9 hb9 => zr_V B hR kV_yX11_meanFare km_L_165 kx_11 (gSys_s hG) [] rfl rfl (Nat.le_of_ble_eq_true rfl) dL_law_1242 (m_Sys_meanFare hX hG M b9 hb9) ⟨(Nat.le_of_ble_eq_true rfl), (Nat.le_of_ble_eq_true rfl)⟩ ⟨by show k + 0 ≤ 601024; omega, by show n + 0 ≤ 7293034; omega⟩) (fun r1 => ?_)
  refine zk_dstore (pc := 1245) B dL_law_1245 (by decide) rfl ?_
  refine zk_aload_n (pc := 1247) B dL_law_1247 3 rfl rfl ?_
  refine zk_cdm (pc := 1248) (k' := k) (n' := n) B (by show _ + 0 = _; omega) (by show _ + 0 = _; omega) (by omega) (by omega) (fun b9 hb9 => zr_V B hR kV_yX12_meanFare km_L_169 kx_12 (gModel_s hm) [] rfl rfl (Nat.le_of_ble_eq_true rfl) dL_law_1248 (m_Model_meanFare hX hm M b9 hb9) ⟨(Nat.le_of_ble_eq_true rfl), (Nat.le_of_ble_eq_true rfl)⟩ ⟨by show k + 0 ≤ 601024; omega, by show n + 0 ≤ 7293034; omega⟩) (fun r2 M3 => ?_)
  refine zk_dstore (pc := 1251) B dL_law_1251 (by decide) rfl ?_
  refine zk_dload (pc := 1253) B dL_law_1253 1 rfl ?_
  refine zk_dload (pc := 1255) B dL_law_1255 0 rfl ?_
  refine zk_dcmp (pc := 1257) B dL_law_1257 ?_
  refine zk_if_eq (tgt := 1279) (pc := 1258) B dL_law_1258 (by decide) (fun _ => ?_) (fun _ => ?_)
  · refine zk_goto (tgt := 2156) (pc := 1279) B dL_law_1279 (by decide) ?_
    exact zk_sub [2, 3, 4, 5, 6] rfl (zk_widen (by omega) (by omega) (kk M3))
  · refine zk_dload (pc := 1261) B dL_law_1261 1 rfl ?_
    refine zk_dload (pc := 1263) B dL_law_1263 1 rfl ?_
    refine zk_dcmp (pc := 1265) B dL_law_1265 ?_
    refine zk_if_eq (tgt := 1277) (pc := 1266) B dL_law_1266 (by decide) (fun _ => ?_) (fun _ => ?_)
    · refine zk_iconst (v := 0) (pc := 1277) B dL_law_1277 (by decide) ?_
      exact zk_iret (pc := 1278) B dL_law_1278 rfl rfl (by omega) (by omega) rfl
    · refine zk_dload (pc := 1269) B dL_law_1269 0 rfl ?_
      refine zk_dload (pc := 1271) B dL_law_1271 0 rfl ?_
      refine zk_dcmp (pc := 1273) B dL_law_1273 ?_
      refine zk_if_ne (tgt := 1279) (pc := 1274) B dL_law_1274 (by decide) (fun _ => ?_) (fun _ => ?_)
      · refine zk_goto (tgt := 2156) (pc := 1279) B dL_law_1279 (by decide) ?_
        exact zk_sub [2, 3, 4, 5, 6] rfl (zk_widen (by omega) (by omega) (kk M3))
      · refine zk_iconst (v := 0) (pc := 1277) B dL_law_1277 (by decide) ?_
        exact zk_iret (pc := 1278) B dL_law_1278 rfl rfl (by omega) (by omega) rfl
def Fc_1282 (o L : Nat) (S : Nat → Int32) (i : Int32) (M : z_Mem) (c : z_Mem → Option (Int32 × z_Mem)) : Option (Int32 × z_Mem) :=
  (zb (F_Sys_sharedPart o M) fun r1 => (if FP.Core.dIsNaN (FP.f2d r1) = false then (zb2 (F_Model_sharedPart (o + 548) M) fun r2 M3 => (if FP.Core.dIsNaN (FP.f2d r2) = false then (if (Op.cmpValue (FP.dcmp (FP.f2d r1) (FP.f2d r2)) .l) = 0 then c M3 else (if (Op.cmpValue (FP.dcmp (FP.f2d r1) (FP.f2d r1)) .l) = 0 then some ((0 : Int32), M3) else (if (Op.cmpValue (FP.dcmp (FP.f2d r2) (FP.f2d r2)) .l) = 0 then some ((0 : Int32), M3) else c M3))) else none)) else none))
set_option maxHeartbeats 4000000 in
set_option maxRecDepth 100000 in
theorem t_1282 {X : z_X} (hX : z_ok X) (hN : z_okN X) {G : z_Gr} {o : Nat} (hG : g_Sys G o) (hm : g_Model G (o + 548)) (ha : G.1 (o + 573) = some (.inr (2, 1))) {F : z_F} (B : z_B X F RL cL_law 9 (some .boolean)) (hR : F.2.2.1 = ({ frames := 2048, cells := 601024, slots := 7293034, locals := 84000 } : Room)) {b L : Nat} {S : Nat → Int32} (hx : va_X b L S X.2.1 X.2.1.heap) (hb : b < z_o X) {k n : Nat} (hk : k + 6 ≤ 601024) (hn : n + 36 ≤ 7293034) {b0 : Int32 × z_Mem} {c : z_Mem → Option (Int32 × z_Mem)} (i : Int32) (M : z_Mem) (kk : ∀ M1, z_K X F 9 601024 7293034 G z_cim b0 (k + 6) (n + 36) 2156 [(4, .int i), (3, .ref (o + 573)), (2, .ref (o + 548)), (1, .ref o), (0, .ref b)] [] M1 (c M1)) : z_K X F 9 601024 7293034 G z_cim b0 k n 1282 [(4, .int i), (3, .ref (o + 573)), (2, .ref (o + 548)), (1, .ref o), (0, .ref b)] [] M (Fc_1282 o L S i M c) := by
  unfold Fc_1282
  refine zk_aload_n (pc := 1282) B dL_law_1282 3 rfl rfl ?_
  refine zk_cfp (pc := 1283) (k' := k) (n' := n) B (by show _ + 0 = _; omega) (by show _ + 0 = _; omega) (by omega) (by omega) (fun b9 hb9 => zr_V B hR kV_yX11_sharedPart km_L_170 kx_11 (gSys_s hG) [] rfl rfl (Nat.le_of_ble_eq_true rfl) dL_law_1283 (m_Sys_sharedPart hX hG M b9 hb9) ⟨(Nat.le_of_ble_eq_true rfl), (Nat.le_of_ble_eq_true rfl)⟩ ⟨by show k + 0 ≤ 601024; omega, by show n + 0 ≤ 7293034; omega⟩) (fun r1 => ?_)
  refine zk_f2d (pc := 1286) B dL_law_1286 ?_
  refine zk_dstore (pc := 1287) B dL_law_1287 (by decide) rfl ?_
  refine zk_aload_n (pc := 1289) B dL_law_1289 3 rfl rfl ?_
  refine zk_cfm (pc := 1290) (k' := k) (n' := n) B (by show _ + 0 = _; omega) (by show _ + 0 = _; omega) (by omega) (by omega) (fun b9 hb9 => zr_V B hR kV_yX12_sharedPart km_L_174 kx_12 (gModel_s hm) [] rfl rfl (Nat.le_of_ble_eq_true rfl) dL_law_1290 (m_Model_sharedPart hX hm M b9 hb9) ⟨(Nat.le_of_ble_eq_true rfl), (Nat.le_of_ble_eq_true rfl)⟩ ⟨by show k + 0 ≤ 601024; omega, by show n + 0 ≤ 7293034; omega⟩) (fun r2 M3 => ?_)
  refine zk_f2d (pc := 1293) B dL_law_1293 ?_
  refine zk_dstore (pc := 1294) B dL_law_1294 (by decide) rfl ?_
  refine zk_dload (pc := 1296) B dL_law_1296 1 rfl ?_
  refine zk_dload (pc := 1298) B dL_law_1298 0 rfl ?_
  refine zk_dcmp (pc := 1300) B dL_law_1300 ?_
  refine zk_if_eq (tgt := 1322) (pc := 1301) B dL_law_1301 (by decide) (fun _ => ?_) (fun _ => ?_)
  · refine zk_goto (tgt := 2156) (pc := 1322) B dL_law_1322 (by decide) ?_
    exact zk_sub [2, 3, 4, 5, 6] rfl (zk_widen (by omega) (by omega) (kk M3))
  · refine zk_dload (pc := 1304) B dL_law_1304 1 rfl ?_
    refine zk_dload (pc := 1306) B dL_law_1306 1 rfl ?_
    refine zk_dcmp (pc := 1308) B dL_law_1308 ?_
    refine zk_if_eq (tgt := 1320) (pc := 1309) B dL_law_1309 (by decide) (fun _ => ?_) (fun _ => ?_)
    · refine zk_iconst (v := 0) (pc := 1320) B dL_law_1320 (by decide) ?_
      exact zk_iret (pc := 1321) B dL_law_1321 rfl rfl (by omega) (by omega) rfl
    · refine zk_dload (pc := 1312) B dL_law_1312 0 rfl ?_
      refine zk_dload (pc := 1314) B dL_law_1314 0 rfl ?_
      refine zk_dcmp (pc := 1316) B dL_law_1316 ?_
      refine zk_if_ne (tgt := 1322) (pc := 1317) B dL_law_1317 (by decide) (fun _ => ?_) (fun _ => ?_)
      · refine zk_goto (tgt := 2156) (pc := 1322) B dL_law_1322 (by decide) ?_
        exact zk_sub [2, 3, 4, 5, 6] rfl (zk_widen (by omega) (by omega) (kk M3))
      · refine zk_iconst (v := 0) (pc := 1320) B dL_law_1320 (by decide) ?_
        exact zk_iret (pc := 1321) B dL_law_1321 rfl rfl (by omega) (by omega) rfl
def Fc_1325 (o L : Nat) (S : Nat → Int32) (i : Int32) (M : z_Mem) (c : z_Mem → Option (Int32 × z_Mem)) : Option (Int32 × z_Mem) :=
  (if z_inb (i + (1 : Int32)) L then (if z_inb (i + (2 : Int32)) L then (if z_inb (i + (3 : Int32)) L then (if z_inb (i + (4 : Int32)) L then (if z_inb (i + (5 : Int32)) L then (zb2 (F_LW_ask o (o + 573) (S ((i + (1 : Int32))).toNatClampNeg) (S ((i + (2 : Int32))).toNatClampNeg) (S ((i + (3 : Int32))).toNatClampNeg) (S ((i + (4 : Int32))).toNatClampNeg) (S ((i + (5 : Int32))).toNatClampNeg) M) fun r1 M2 => (if z_inb (i + (1 : Int32)) L then (if z_inb (i + (2 : Int32)) L then (if z_inb (i + (3 : Int32)) L then (if z_inb (i + (4 : Int32)) L then (if z_inb (i + (5 : Int32)) L then (zb2 (F_Model_ask (o + 548) (S ((i + (1 : Int32))).toNatClampNeg) (S ((i + (2 : Int32))).toNatClampNeg) (S ((i + (3 : Int32))).toNatClampNeg) (S ((i + (4 : Int32))).toNatClampNeg) (S ((i + (5 : Int32))).toNatClampNeg) M2) fun r3 M4 => (zb (F_Model_thrown (o + 548) M4) fun r5 => (if r5 = r1 then (if r1 = 0 then (if z_inb (0 : Int32) 1 then (if (lg_cmp (M4.2 (o + 573) ((0 : Int32)).toNatClampNeg) (r3).toInt64) = 0 then c M4 else some ((0 : Int32), M4)) else none) else c M4) else some ((0 : Int32), M4)))) else none) else none) else none) else none) else none)) else none) else none) else none) else none) else none)
set_option maxHeartbeats 4000000 in
set_option maxRecDepth 100000 in
theorem t_1325 {X : z_X} (hX : z_ok X) (hN : z_okN X) {G : z_Gr} {o : Nat} (hG : g_Sys G o) (hm : g_Model G (o + 548)) (ha : G.1 (o + 573) = some (.inr (2, 1))) {F : z_F} (B : z_B X F RL cL_law 9 (some .boolean)) (hR : F.2.2.1 = ({ frames := 2048, cells := 601024, slots := 7293034, locals := 84000 } : Room)) {b L : Nat} {S : Nat → Int32} (hx : va_X b L S X.2.1 X.2.1.heap) (hb : b < z_o X) {k n : Nat} (hk : k + 6 ≤ 601024) (hn : n + 36 ≤ 7293034) {b0 : Int32 × z_Mem} {c : z_Mem → Option (Int32 × z_Mem)} (i : Int32) (M : z_Mem) (kk : ∀ M1, z_K X F 9 601024 7293034 G z_cim b0 (k + 6) (n + 36) 2156 [(4, .int i), (3, .ref (o + 573)), (2, .ref (o + 548)), (1, .ref o), (0, .ref b)] [] M1 (c M1)) : z_K X F 9 601024 7293034 G z_cim b0 k n 1325 [(4, .int i), (3, .ref (o + 573)), (2, .ref (o + 548)), (1, .ref o), (0, .ref b)] [] M (Fc_1325 o L S i M c) := by
  unfold Fc_1325
  refine zk_aload_n (pc := 1325) B dL_law_1325 3 rfl rfl ?_
  refine zk_aload_n (pc := 1326) B dL_law_1326 4 rfl rfl ?_
  refine zk_iload (pc := 1327) B dL_law_1327 0 rfl ?_
  refine zk_iconst (v := 1) (pc := 1329) B dL_law_1329 (by decide) ?_
  refine zk_iadd (pc := 1330) B dL_law_1330 ?_
  refine zk_sld (pc := 1331) B hx hb dL_law_1331 ?_
  refine zk_aload_n (pc := 1332) B dL_law_1332 4 rfl rfl ?_
  refine zk_iload (pc := 1333) B dL_law_1333 0 rfl ?_
  refine zk_iconst (v := 2) (pc := 1335) B dL_law_1335 (by decide) ?_
  refine zk_iadd (pc := 1336) B dL_law_1336 ?_
  refine zk_sld (pc := 1337) B hx hb dL_law_1337 ?_
  refine zk_aload_n (pc := 1338) B dL_law_1338 4 rfl rfl ?_
  refine zk_iload (pc := 1339) B dL_law_1339 0 rfl ?_
  refine zk_iconst (v := 3) (pc := 1341) B dL_law_1341 (by decide) ?_
  refine zk_iadd (pc := 1342) B dL_law_1342 ?_
  refine zk_sld (pc := 1343) B hx hb dL_law_1343 ?_
  refine zk_aload_n (pc := 1344) B dL_law_1344 4 rfl rfl ?_
  refine zk_iload (pc := 1345) B dL_law_1345 0 rfl ?_
  refine zk_iconst (v := 4) (pc := 1347) B dL_law_1347 (by decide) ?_
  refine zk_iadd (pc := 1348) B dL_law_1348 ?_
  refine zk_sld (pc := 1349) B hx hb dL_law_1349 ?_
  refine zk_aload_n (pc := 1350) B dL_law_1350 4 rfl rfl ?_
  refine zk_iload (pc := 1351) B dL_law_1351 0 rfl ?_
  refine zk_iconst (v := 5) (pc := 1353) B dL_law_1353 (by decide) ?_
  refine zk_iadd (pc := 1354) B dL_law_1354 ?_
  refine zk_sld (pc := 1355) B hx hb dL_law_1355 ?_
  refine zk_aload_n (pc := 1356) B dL_law_1356 1 rfl rfl ?_
  refine zk_cim (pc := 1357) (k' := k + 6) (n' := n + 36) B (by show _ + 6 = _; omega) (by show _ + 36 = _; omega) (by omega) (by omega) (fun b9 hb9 => zr_W B hR kW_ask km_L_175 [.ref o, .int (S ((i + (1 : Int32))).toNatClampNeg), .int (S ((i + (2 : Int32))).toNatClampNeg), .int (S ((i + (3 : Int32))).toNatClampNeg), .int (S ((i + (4 : Int32))).toNatClampNeg), .int (S ((i + (5 : Int32))).toNatClampNeg), .ref (o + 573)] rfl rfl (Nat.le_of_ble_eq_true rfl) dL_law_1357 (w_ask hX hN hG ha (S ((i + (1 : Int32))).toNatClampNeg) (S ((i + (2 : Int32))).toNatClampNeg) (S ((i + (3 : Int32))).toNatClampNeg) (S ((i + (4 : Int32))).toNatClampNeg) (S ((i + (5 : Int32))).toNatClampNeg) M b9 hb9) ⟨(Nat.le_of_ble_eq_true rfl), (Nat.le_of_ble_eq_true rfl)⟩ ⟨by show k + 6 ≤ 601024; omega, by show n + 36 ≤ 7293034; omega⟩) (fun r1 M2 => ?_)
  refine zk_istore (pc := 1360) B dL_law_1360 (by decide) rfl ?_
  refine zk_aload_n (pc := 1362) B dL_law_1362 3 rfl rfl ?_
  refine zk_aload_n (pc := 1363) B dL_law_1363 5 rfl rfl ?_
  refine zk_iload (pc := 1364) B dL_law_1364 1 rfl ?_
  refine zk_iconst (v := 1) (pc := 1366) B dL_law_1366 (by decide) ?_
  refine zk_iadd (pc := 1367) B dL_law_1367 ?_
  refine zk_sld (pc := 1368) B hx hb dL_law_1368 ?_
  refine zk_aload_n (pc := 1369) B dL_law_1369 5 rfl rfl ?_
  refine zk_iload (pc := 1370) B dL_law_1370 1 rfl ?_
  refine zk_iconst (v := 2) (pc := 1372) B dL_law_1372 (by decide) ?_
  refine zk_iadd (pc := 1373) B dL_law_1373 ?_
  refine zk_sld (pc := 1374) B hx hb dL_law_1374 ?_
  refine zk_aload_n (pc := 1375) B dL_law_1375 5 rfl rfl ?_
  refine zk_iload (pc := 1376) B dL_law_1376 1 rfl ?_
  refine zk_iconst (v := 3) (pc := 1378) B dL_law_1378 (by decide) ?_
  refine zk_iadd (pc := 1379) B dL_law_1379 ?_
  refine zk_sld (pc := 1380) B hx hb dL_law_1380 ?_
  refine zk_aload_n (pc := 1381) B dL_law_1381 5 rfl rfl ?_
  refine zk_iload (pc := 1382) B dL_law_1382 1 rfl ?_
  refine zk_iconst (v := 4) (pc := 1384) B dL_law_1384 (by decide) ?_
  refine zk_iadd (pc := 1385) B dL_law_1385 ?_
  refine zk_sld (pc := 1386) B hx hb dL_law_1386 ?_
  refine zk_aload_n (pc := 1387) B dL_law_1387 5 rfl rfl ?_
  refine zk_iload (pc := 1388) B dL_law_1388 1 rfl ?_
  refine zk_iconst (v := 5) (pc := 1390) B dL_law_1390 (by decide) ?_
  refine zk_iadd (pc := 1391) B dL_law_1391 ?_
  refine zk_sld (pc := 1392) B hx hb dL_law_1392 ?_
  refine zk_cim (pc := 1393) (k' := k + 6) (n' := n + 36) B (by show _ + 0 = _; omega) (by show _ + 0 = _; omega) (by omega) (by omega) (fun b9 hb9 => zr_V B hR kV_yX12_ask km_L_178 kx_12 (gModel_s hm) [.int (S ((i + (1 : Int32))).toNatClampNeg), .int (S ((i + (2 : Int32))).toNatClampNeg), .int (S ((i + (3 : Int32))).toNatClampNeg), .int (S ((i + (4 : Int32))).toNatClampNeg), .int (S ((i + (5 : Int32))).toNatClampNeg)] rfl rfl (Nat.le_of_ble_eq_true rfl) dL_law_1393 (m_Model_ask hX hm (S ((i + (1 : Int32))).toNatClampNeg) (S ((i + (2 : Int32))).toNatClampNeg) (S ((i + (3 : Int32))).toNatClampNeg) (S ((i + (4 : Int32))).toNatClampNeg) (S ((i + (5 : Int32))).toNatClampNeg) M2 b9 hb9) ⟨(Nat.le_of_ble_eq_true rfl), (Nat.le_of_ble_eq_true rfl)⟩ ⟨by show k + 6 + 0 ≤ 601024; omega, by show n + 36 + 0 ≤ 7293034; omega⟩) (fun r3 M4 => ?_)
  refine zk_istore (pc := 1396) B dL_law_1396 (by decide) rfl ?_
  refine zk_aload_n (pc := 1398) B dL_law_1398 4 rfl rfl ?_
  refine zk_cpi (pc := 1399) (k' := k + 6) (n' := n + 36) B (by show _ + 0 = _; omega) (by show _ + 0 = _; omega) (by omega) (by omega) (fun b9 hb9 => zr_V B hR kV_yX12_thrown km_L_113 kx_12 (gModel_s hm) [] rfl rfl (Nat.le_of_ble_eq_true rfl) dL_law_1399 (m_Model_thrown hX hm M4 b9 hb9) ⟨(Nat.le_of_ble_eq_true rfl), (Nat.le_of_ble_eq_true rfl)⟩ ⟨by show k + 6 + 0 ≤ 601024; omega, by show n + 36 + 0 ≤ 7293034; omega⟩) (fun r5 _ => ?_)
  refine zk_iload (pc := 1402) B dL_law_1402 1 rfl ?_
  refine zk_icmp_eq (tgt := 1409) (pc := 1404) B dL_law_1404 (by decide) (fun _ => ?_) (fun _ => ?_)
  · refine zk_iload (pc := 1409) B dL_law_1409 1 rfl ?_
    refine zk_if_ne (tgt := 1426) (pc := 1411) B dL_law_1411 (by decide) (fun _ => ?_) (fun _ => ?_)
    · refine zk_goto (tgt := 2156) (pc := 1426) B dL_law_1426 (by decide) ?_
      exact zk_sub [2, 3, 4, 5, 6] rfl (zk_widen (by omega) (by omega) (kk M4))
    · refine zk_aload_n (pc := 1414) B dL_law_1414 3 rfl rfl ?_
      refine zk_iconst (v := 0) (pc := 1415) B dL_law_1415 (by decide) ?_
      refine zk_lald (pc := 1416) B ha dL_law_1416 ?_
      refine zk_iload (pc := 1417) B dL_law_1417 0 rfl ?_
      refine zk_i2l (pc := 1419) B dL_law_1419 ?_
      refine zk_lcmp (pc := 1420) B dL_law_1420 ?_
      refine zk_if_eq (tgt := 1426) (pc := 1421) B dL_law_1421 (by decide) (fun _ => ?_) (fun _ => ?_)
      · refine zk_goto (tgt := 2156) (pc := 1426) B dL_law_1426 (by decide) ?_
        exact zk_sub [2, 3, 4, 5, 6] rfl (zk_widen (by omega) (by omega) (kk M4))
      · refine zk_iconst (v := 0) (pc := 1424) B dL_law_1424 (by decide) ?_
        exact zk_iret (pc := 1425) B dL_law_1425 rfl rfl (by omega) (by omega) rfl
  · refine zk_iconst (v := 0) (pc := 1407) B dL_law_1407 (by decide) ?_
    exact zk_iret (pc := 1408) B dL_law_1408 rfl rfl (by omega) (by omega) rfl
def Fc_1429 (o L : Nat) (S : Nat → Int32) (i : Int32) (M : z_Mem) (c : z_Mem → Option (Int32 × z_Mem)) : Option (Int32 × z_Mem) :=
  (if z_inb (i + (1 : Int32)) L then (zb2 (F_LW_accept o (o + 573) (S ((i + (1 : Int32))).toNatClampNeg) M) fun r1 M2 => (if z_inb (i + (1 : Int32)) L then (zb2 (F_Model_accept (o + 548) (S ((i + (1 : Int32))).toNatClampNeg) M2) fun r3 M4 => (zb (F_Model_thrown (o + 548) M4) fun r5 => (if r5 = r1 then (if r1 = 0 then (if z_inb (0 : Int32) 1 then (if (lg_cmp (M4.2 (o + 573) ((0 : Int32)).toNatClampNeg) (r3).toInt64) = 0 then c M4 else some ((0 : Int32), M4)) else none) else c M4) else some ((0 : Int32), M4)))) else none)) else none)
set_option maxHeartbeats 4000000 in
set_option maxRecDepth 100000 in
theorem t_1429 {X : z_X} (hX : z_ok X) (hN : z_okN X) {G : z_Gr} {o : Nat} (hG : g_Sys G o) (hm : g_Model G (o + 548)) (ha : G.1 (o + 573) = some (.inr (2, 1))) {F : z_F} (B : z_B X F RL cL_law 9 (some .boolean)) (hR : F.2.2.1 = ({ frames := 2048, cells := 601024, slots := 7293034, locals := 84000 } : Room)) {b L : Nat} {S : Nat → Int32} (hx : va_X b L S X.2.1 X.2.1.heap) (hb : b < z_o X) {k n : Nat} (hk : k + 6 ≤ 601024) (hn : n + 36 ≤ 7293034) {b0 : Int32 × z_Mem} {c : z_Mem → Option (Int32 × z_Mem)} (i : Int32) (M : z_Mem) (kk : ∀ M1, z_K X F 9 601024 7293034 G z_cim b0 (k + 6) (n + 36) 2156 [(4, .int i), (3, .ref (o + 573)), (2, .ref (o + 548)), (1, .ref o), (0, .ref b)] [] M1 (c M1)) : z_K X F 9 601024 7293034 G z_cim b0 k n 1429 [(4, .int i), (3, .ref (o + 573)), (2, .ref (o + 548)), (1, .ref o), (0, .ref b)] [] M (Fc_1429 o L S i M c) := by
  unfold Fc_1429
  refine zk_aload_n (pc := 1429) B dL_law_1429 3 rfl rfl ?_
  refine zk_aload_n (pc := 1430) B dL_law_1430 4 rfl rfl ?_
  refine zk_iload (pc := 1431) B dL_law_1431 0 rfl ?_
  refine zk_iconst (v := 1) (pc := 1433) B dL_law_1433 (by decide) ?_
  refine zk_iadd (pc := 1434) B dL_law_1434 ?_
  refine zk_sld (pc := 1435) B hx hb dL_law_1435 ?_
  refine zk_aload_n (pc := 1436) B dL_law_1436 1 rfl rfl ?_
  refine zk_cim (pc := 1437) (k' := k + 1) (n' := n + 6) B (by show _ + 1 = _; omega) (by show _ + 6 = _; omega) (by omega) (by omega) (fun b9 hb9 => zr_W B hR kW_accept km_L_179 [.ref o, .int (S ((i + (1 : Int32))).toNatClampNeg), .ref (o + 573)] rfl rfl (Nat.le_of_ble_eq_true rfl) dL_law_1437 (w_accept hX hN hG ha (S ((i + (1 : Int32))).toNatClampNeg) M b9 hb9) ⟨(Nat.le_of_ble_eq_true rfl), (Nat.le_of_ble_eq_true rfl)⟩ ⟨by show k + 1 ≤ 601024; omega, by show n + 6 ≤ 7293034; omega⟩) (fun r1 M2 => ?_)
  refine zk_istore (pc := 1440) B dL_law_1440 (by decide) rfl ?_
  refine zk_aload_n (pc := 1442) B dL_law_1442 3 rfl rfl ?_
  refine zk_aload_n (pc := 1443) B dL_law_1443 5 rfl rfl ?_
  refine zk_iload (pc := 1444) B dL_law_1444 1 rfl ?_
  refine zk_iconst (v := 1) (pc := 1446) B dL_law_1446 (by decide) ?_
  refine zk_iadd (pc := 1447) B dL_law_1447 ?_
  refine zk_sld (pc := 1448) B hx hb dL_law_1448 ?_
  refine zk_cim (pc := 1449) (k' := k + 1) (n' := n + 6) B (by show _ + 0 = _; omega) (by show _ + 0 = _; omega) (by omega) (by omega) (fun b9 hb9 => zr_V B hR kV_yX12_accept km_L_181 kx_12 (gModel_s hm) [.int (S ((i + (1 : Int32))).toNatClampNeg)] rfl rfl (Nat.le_of_ble_eq_true rfl) dL_law_1449 (m_Model_accept hX hm (S ((i + (1 : Int32))).toNatClampNeg) M2 b9 hb9) ⟨(Nat.le_of_ble_eq_true rfl), (Nat.le_of_ble_eq_true rfl)⟩ ⟨by show k + 1 + 0 ≤ 601024; omega, by show n + 6 + 0 ≤ 7293034; omega⟩) (fun r3 M4 => ?_)
  refine zk_istore (pc := 1452) B dL_law_1452 (by decide) rfl ?_
  refine zk_aload_n (pc := 1454) B dL_law_1454 4 rfl rfl ?_
  refine zk_cpi (pc := 1455) (k' := k + 1) (n' := n + 6) B (by show _ + 0 = _; omega) (by show _ + 0 = _; omega) (by omega) (by omega) (fun b9 hb9 => zr_V B hR kV_yX12_thrown km_L_113 kx_12 (gModel_s hm) [] rfl rfl (Nat.le_of_ble_eq_true rfl) dL_law_1455 (m_Model_thrown hX hm M4 b9 hb9) ⟨(Nat.le_of_ble_eq_true rfl), (Nat.le_of_ble_eq_true rfl)⟩ ⟨by show k + 1 + 0 ≤ 601024; omega, by show n + 6 + 0 ≤ 7293034; omega⟩) (fun r5 _ => ?_)
  refine zk_iload (pc := 1458) B dL_law_1458 1 rfl ?_
  refine zk_icmp_eq (tgt := 1465) (pc := 1460) B dL_law_1460 (by decide) (fun _ => ?_) (fun _ => ?_)
  · refine zk_iload (pc := 1465) B dL_law_1465 1 rfl ?_
    refine zk_if_ne (tgt := 1482) (pc := 1467) B dL_law_1467 (by decide) (fun _ => ?_) (fun _ => ?_)
    · refine zk_goto (tgt := 2156) (pc := 1482) B dL_law_1482 (by decide) ?_
      exact zk_sub [2, 3, 4, 5, 6] rfl (zk_widen (by omega) (by omega) (kk M4))
    · refine zk_aload_n (pc := 1470) B dL_law_1470 3 rfl rfl ?_
      refine zk_iconst (v := 0) (pc := 1471) B dL_law_1471 (by decide) ?_
      refine zk_lald (pc := 1472) B ha dL_law_1472 ?_
      refine zk_iload (pc := 1473) B dL_law_1473 0 rfl ?_
      refine zk_i2l (pc := 1475) B dL_law_1475 ?_
      refine zk_lcmp (pc := 1476) B dL_law_1476 ?_
      refine zk_if_eq (tgt := 1482) (pc := 1477) B dL_law_1477 (by decide) (fun _ => ?_) (fun _ => ?_)
      · refine zk_goto (tgt := 2156) (pc := 1482) B dL_law_1482 (by decide) ?_
        exact zk_sub [2, 3, 4, 5, 6] rfl (zk_widen (by omega) (by omega) (kk M4))
      · refine zk_iconst (v := 0) (pc := 1480) B dL_law_1480 (by decide) ?_
        exact zk_iret (pc := 1481) B dL_law_1481 rfl rfl (by omega) (by omega) rfl
  · refine zk_iconst (v := 0) (pc := 1463) B dL_law_1463 (by decide) ?_
    exact zk_iret (pc := 1464) B dL_law_1464 rfl rfl (by omega) (by omega) rfl
def Fc_1485 (o L : Nat) (S : Nat → Int32) (i : Int32) (M : z_Mem) (c : z_Mem → Option (Int32 × z_Mem)) : Option (Int32 × z_Mem) :=
  (if z_inb (i + (1 : Int32)) L then (zb2 (F_LW_decline o (o + 573) (S ((i + (1 : Int32))).toNatClampNeg) M) fun r1 M2 => (if z_inb (i + (1 : Int32)) L then (zb2 (F_Model_decline (o + 548) (S ((i + (1 : Int32))).toNatClampNeg) M2) fun r3 M4 => (zb (F_Model_thrown (o + 548) M4) fun r5 => (if r5 = r1 then (if r1 = 0 then (if z_inb (0 : Int32) 1 then (if (lg_cmp (M4.2 (o + 573) ((0 : Int32)).toNatClampNeg) (r3).toInt64) = 0 then c M4 else some ((0 : Int32), M4)) else none) else c M4) else some ((0 : Int32), M4)))) else none)) else none)
set_option maxHeartbeats 4000000 in
set_option maxRecDepth 100000 in
theorem t_1485 {X : z_X} (hX : z_ok X) (hN : z_okN X) {G : z_Gr} {o : Nat} (hG : g_Sys G o) (hm : g_Model G (o + 548)) (ha : G.1 (o + 573) = some (.inr (2, 1))) {F : z_F} (B : z_B X F RL cL_law 9 (some .boolean)) (hR : F.2.2.1 = ({ frames := 2048, cells := 601024, slots := 7293034, locals := 84000 } : Room)) {b L : Nat} {S : Nat → Int32} (hx : va_X b L S X.2.1 X.2.1.heap) (hb : b < z_o X) {k n : Nat} (hk : k + 6 ≤ 601024) (hn : n + 36 ≤ 7293034) {b0 : Int32 × z_Mem} {c : z_Mem → Option (Int32 × z_Mem)} (i : Int32) (M : z_Mem) (kk : ∀ M1, z_K X F 9 601024 7293034 G z_cim b0 (k + 6) (n + 36) 2156 [(4, .int i), (3, .ref (o + 573)), (2, .ref (o + 548)), (1, .ref o), (0, .ref b)] [] M1 (c M1)) : z_K X F 9 601024 7293034 G z_cim b0 k n 1485 [(4, .int i), (3, .ref (o + 573)), (2, .ref (o + 548)), (1, .ref o), (0, .ref b)] [] M (Fc_1485 o L S i M c) := by
  unfold Fc_1485
  refine zk_aload_n (pc := 1485) B dL_law_1485 3 rfl rfl ?_
  refine zk_aload_n (pc := 1486) B dL_law_1486 4 rfl rfl ?_
  refine zk_iload (pc := 1487) B dL_law_1487 0 rfl ?_
  refine zk_iconst (v := 1) (pc := 1489) B dL_law_1489 (by decide) ?_
  refine zk_iadd (pc := 1490) B dL_law_1490 ?_
  refine zk_sld (pc := 1491) B hx hb dL_law_1491 ?_
  refine zk_aload_n (pc := 1492) B dL_law_1492 1 rfl rfl ?_
  refine zk_cim (pc := 1493) (k' := k + 1) (n' := n + 6) B (by show _ + 1 = _; omega) (by show _ + 6 = _; omega) (by omega) (by omega) (fun b9 hb9 => zr_W B hR kW_decline km_L_182 [.ref o, .int (S ((i + (1 : Int32))).toNatClampNeg), .ref (o + 573)] rfl rfl (Nat.le_of_ble_eq_true rfl) dL_law_1493 (w_decline hX hN hG ha (S ((i + (1 : Int32))).toNatClampNeg) M b9 hb9) ⟨(Nat.le_of_ble_eq_true rfl), (Nat.le_of_ble_eq_true rfl)⟩ ⟨by show k + 1 ≤ 601024; omega, by show n + 6 ≤ 7293034; omega⟩) (fun r1 M2 => ?_)
  refine zk_istore (pc := 1496) B dL_law_1496 (by decide) rfl ?_
  refine zk_aload_n (pc := 1498) B dL_law_1498 3 rfl rfl ?_
  refine zk_aload_n (pc := 1499) B dL_law_1499 5 rfl rfl ?_
  refine zk_iload (pc := 1500) B dL_law_1500 1 rfl ?_
  refine zk_iconst (v := 1) (pc := 1502) B dL_law_1502 (by decide) ?_
  refine zk_iadd (pc := 1503) B dL_law_1503 ?_
  refine zk_sld (pc := 1504) B hx hb dL_law_1504 ?_
  refine zk_cim (pc := 1505) (k' := k + 1) (n' := n + 6) B (by show _ + 0 = _; omega) (by show _ + 0 = _; omega) (by omega) (by omega) (fun b9 hb9 => zr_V B hR kV_yX12_decline km_L_184 kx_12 (gModel_s hm) [.int (S ((i + (1 : Int32))).toNatClampNeg)] rfl rfl (Nat.le_of_ble_eq_true rfl) dL_law_1505 (m_Model_decline hX hm (S ((i + (1 : Int32))).toNatClampNeg) M2 b9 hb9) ⟨(Nat.le_of_ble_eq_true rfl), (Nat.le_of_ble_eq_true rfl)⟩ ⟨by show k + 1 + 0 ≤ 601024; omega, by show n + 6 + 0 ≤ 7293034; omega⟩) (fun r3 M4 => ?_)
  refine zk_istore (pc := 1508) B dL_law_1508 (by decide) rfl ?_
  refine zk_aload_n (pc := 1510) B dL_law_1510 4 rfl rfl ?_
  refine zk_cpi (pc := 1511) (k' := k + 1) (n' := n + 6) B (by show _ + 0 = _; omega) (by show _ + 0 = _; omega) (by omega) (by omega) (fun b9 hb9 => zr_V B hR kV_yX12_thrown km_L_113 kx_12 (gModel_s hm) [] rfl rfl (Nat.le_of_ble_eq_true rfl) dL_law_1511 (m_Model_thrown hX hm M4 b9 hb9) ⟨(Nat.le_of_ble_eq_true rfl), (Nat.le_of_ble_eq_true rfl)⟩ ⟨by show k + 1 + 0 ≤ 601024; omega, by show n + 6 + 0 ≤ 7293034; omega⟩) (fun r5 _ => ?_)
  refine zk_iload (pc := 1514) B dL_law_1514 1 rfl ?_
  refine zk_icmp_eq (tgt := 1521) (pc := 1516) B dL_law_1516 (by decide) (fun _ => ?_) (fun _ => ?_)
  · refine zk_iload (pc := 1521) B dL_law_1521 1 rfl ?_
    refine zk_if_ne (tgt := 1538) (pc := 1523) B dL_law_1523 (by decide) (fun _ => ?_) (fun _ => ?_)
    · refine zk_goto (tgt := 2156) (pc := 1538) B dL_law_1538 (by decide) ?_
      exact zk_sub [2, 3, 4, 5, 6] rfl (zk_widen (by omega) (by omega) (kk M4))
    · refine zk_aload_n (pc := 1526) B dL_law_1526 3 rfl rfl ?_
      refine zk_iconst (v := 0) (pc := 1527) B dL_law_1527 (by decide) ?_
      refine zk_lald (pc := 1528) B ha dL_law_1528 ?_
      refine zk_iload (pc := 1529) B dL_law_1529 0 rfl ?_
      refine zk_i2l (pc := 1531) B dL_law_1531 ?_
      refine zk_lcmp (pc := 1532) B dL_law_1532 ?_
      refine zk_if_eq (tgt := 1538) (pc := 1533) B dL_law_1533 (by decide) (fun _ => ?_) (fun _ => ?_)
      · refine zk_goto (tgt := 2156) (pc := 1538) B dL_law_1538 (by decide) ?_
        exact zk_sub [2, 3, 4, 5, 6] rfl (zk_widen (by omega) (by omega) (kk M4))
      · refine zk_iconst (v := 0) (pc := 1536) B dL_law_1536 (by decide) ?_
        exact zk_iret (pc := 1537) B dL_law_1537 rfl rfl (by omega) (by omega) rfl
  · refine zk_iconst (v := 0) (pc := 1519) B dL_law_1519 (by decide) ?_
    exact zk_iret (pc := 1520) B dL_law_1520 rfl rfl (by omega) (by omega) rfl
def Fc_1541 (o L : Nat) (S : Nat → Int32) (i : Int32) (M : z_Mem) (c : z_Mem → Option (Int32 × z_Mem)) : Option (Int32 × z_Mem) :=
  (if z_inb (i + (1 : Int32)) L then (zb2 (F_LW_cancel o (o + 573) (S ((i + (1 : Int32))).toNatClampNeg) M) fun r1 M2 => (if z_inb (i + (1 : Int32)) L then (zb2 (F_Model_cancel (o + 548) (S ((i + (1 : Int32))).toNatClampNeg) M2) fun r3 M4 => (zb (F_Model_thrown (o + 548) M4) fun r5 => (if r5 = r1 then (if r1 = 0 then (if z_inb (0 : Int32) 1 then (if (lg_cmp (M4.2 (o + 573) ((0 : Int32)).toNatClampNeg) (r3).toInt64) = 0 then c M4 else some ((0 : Int32), M4)) else none) else c M4) else some ((0 : Int32), M4)))) else none)) else none)
set_option maxHeartbeats 4000000 in
set_option maxRecDepth 100000 in
theorem t_1541 {X : z_X} (hX : z_ok X) (hN : z_okN X) {G : z_Gr} {o : Nat} (hG : g_Sys G o) (hm : g_Model G (o + 548)) (ha : G.1 (o + 573) = some (.inr (2, 1))) {F : z_F} (B : z_B X F RL cL_law 9 (some .boolean)) (hR : F.2.2.1 = ({ frames := 2048, cells := 601024, slots := 7293034, locals := 84000 } : Room)) {b L : Nat} {S : Nat → Int32} (hx : va_X b L S X.2.1 X.2.1.heap) (hb : b < z_o X) {k n : Nat} (hk : k + 6 ≤ 601024) (hn : n + 36 ≤ 7293034) {b0 : Int32 × z_Mem} {c : z_Mem → Option (Int32 × z_Mem)} (i : Int32) (M : z_Mem) (kk : ∀ M1, z_K X F 9 601024 7293034 G z_cim b0 (k + 6) (n + 36) 2156 [(4, .int i), (3, .ref (o + 573)), (2, .ref (o + 548)), (1, .ref o), (0, .ref b)] [] M1 (c M1)) : z_K X F 9 601024 7293034 G z_cim b0 k n 1541 [(4, .int i), (3, .ref (o + 573)), (2, .ref (o + 548)), (1, .ref o), (0, .ref b)] [] M (Fc_1541 o L S i M c) := by
  unfold Fc_1541
  refine zk_aload_n (pc := 1541) B dL_law_1541 3 rfl rfl ?_
  refine zk_aload_n (pc := 1542) B dL_law_1542 4 rfl rfl ?_
  refine zk_iload (pc := 1543) B dL_law_1543 0 rfl ?_
  refine zk_iconst (v := 1) (pc := 1545) B dL_law_1545 (by decide) ?_
  refine zk_iadd (pc := 1546) B dL_law_1546 ?_
  refine zk_sld (pc := 1547) B hx hb dL_law_1547 ?_
  refine zk_aload_n (pc := 1548) B dL_law_1548 1 rfl rfl ?_
  refine zk_cim (pc := 1549) (k' := k + 1) (n' := n + 6) B (by show _ + 1 = _; omega) (by show _ + 6 = _; omega) (by omega) (by omega) (fun b9 hb9 => zr_W B hR kW_cancel km_L_185 [.ref o, .int (S ((i + (1 : Int32))).toNatClampNeg), .ref (o + 573)] rfl rfl (Nat.le_of_ble_eq_true rfl) dL_law_1549 (w_cancel hX hN hG ha (S ((i + (1 : Int32))).toNatClampNeg) M b9 hb9) ⟨(Nat.le_of_ble_eq_true rfl), (Nat.le_of_ble_eq_true rfl)⟩ ⟨by show k + 1 ≤ 601024; omega, by show n + 6 ≤ 7293034; omega⟩) (fun r1 M2 => ?_)
  refine zk_istore (pc := 1552) B dL_law_1552 (by decide) rfl ?_
  refine zk_aload_n (pc := 1554) B dL_law_1554 3 rfl rfl ?_
  refine zk_aload_n (pc := 1555) B dL_law_1555 5 rfl rfl ?_
  refine zk_iload (pc := 1556) B dL_law_1556 1 rfl ?_
  refine zk_iconst (v := 1) (pc := 1558) B dL_law_1558 (by decide) ?_
  refine zk_iadd (pc := 1559) B dL_law_1559 ?_
  refine zk_sld (pc := 1560) B hx hb dL_law_1560 ?_
  refine zk_cim (pc := 1561) (k' := k + 1) (n' := n + 6) B (by show _ + 0 = _; omega) (by show _ + 0 = _; omega) (by omega) (by omega) (fun b9 hb9 => zr_V B hR kV_yX12_cancel km_L_187 kx_12 (gModel_s hm) [.int (S ((i + (1 : Int32))).toNatClampNeg)] rfl rfl (Nat.le_of_ble_eq_true rfl) dL_law_1561 (m_Model_cancel hX hm (S ((i + (1 : Int32))).toNatClampNeg) M2 b9 hb9) ⟨(Nat.le_of_ble_eq_true rfl), (Nat.le_of_ble_eq_true rfl)⟩ ⟨by show k + 1 + 0 ≤ 601024; omega, by show n + 6 + 0 ≤ 7293034; omega⟩) (fun r3 M4 => ?_)
  refine zk_istore (pc := 1564) B dL_law_1564 (by decide) rfl ?_
  refine zk_aload_n (pc := 1566) B dL_law_1566 4 rfl rfl ?_
  refine zk_cpi (pc := 1567) (k' := k + 1) (n' := n + 6) B (by show _ + 0 = _; omega) (by show _ + 0 = _; omega) (by omega) (by omega) (fun b9 hb9 => zr_V B hR kV_yX12_thrown km_L_113 kx_12 (gModel_s hm) [] rfl rfl (Nat.le_of_ble_eq_true rfl) dL_law_1567 (m_Model_thrown hX hm M4 b9 hb9) ⟨(Nat.le_of_ble_eq_true rfl), (Nat.le_of_ble_eq_true rfl)⟩ ⟨by show k + 1 + 0 ≤ 601024; omega, by show n + 6 + 0 ≤ 7293034; omega⟩) (fun r5 _ => ?_)
  refine zk_iload (pc := 1570) B dL_law_1570 1 rfl ?_
  refine zk_icmp_eq (tgt := 1577) (pc := 1572) B dL_law_1572 (by decide) (fun _ => ?_) (fun _ => ?_)
  · refine zk_iload (pc := 1577) B dL_law_1577 1 rfl ?_
    refine zk_if_ne (tgt := 1594) (pc := 1579) B dL_law_1579 (by decide) (fun _ => ?_) (fun _ => ?_)
    · refine zk_goto (tgt := 2156) (pc := 1594) B dL_law_1594 (by decide) ?_
      exact zk_sub [2, 3, 4, 5, 6] rfl (zk_widen (by omega) (by omega) (kk M4))
    · refine zk_aload_n (pc := 1582) B dL_law_1582 3 rfl rfl ?_
      refine zk_iconst (v := 0) (pc := 1583) B dL_law_1583 (by decide) ?_
      refine zk_lald (pc := 1584) B ha dL_law_1584 ?_
      refine zk_iload (pc := 1585) B dL_law_1585 0 rfl ?_
      refine zk_i2l (pc := 1587) B dL_law_1587 ?_
      refine zk_lcmp (pc := 1588) B dL_law_1588 ?_
      refine zk_if_eq (tgt := 1594) (pc := 1589) B dL_law_1589 (by decide) (fun _ => ?_) (fun _ => ?_)
      · refine zk_goto (tgt := 2156) (pc := 1594) B dL_law_1594 (by decide) ?_
        exact zk_sub [2, 3, 4, 5, 6] rfl (zk_widen (by omega) (by omega) (kk M4))
      · refine zk_iconst (v := 0) (pc := 1592) B dL_law_1592 (by decide) ?_
        exact zk_iret (pc := 1593) B dL_law_1593 rfl rfl (by omega) (by omega) rfl
  · refine zk_iconst (v := 0) (pc := 1575) B dL_law_1575 (by decide) ?_
    exact zk_iret (pc := 1576) B dL_law_1576 rfl rfl (by omega) (by omega) rfl
def Fc_1597 (o L : Nat) (S : Nat → Int32) (i : Int32) (M : z_Mem) (c : z_Mem → Option (Int32 × z_Mem)) : Option (Int32 × z_Mem) :=
  (if z_inb (i + (1 : Int32)) L then (zb2 (F_LW_absent o (o + 573) (S ((i + (1 : Int32))).toNatClampNeg) M) fun r1 M2 => (if z_inb (i + (1 : Int32)) L then (zb2 (F_Model_absent (o + 548) (S ((i + (1 : Int32))).toNatClampNeg) M2) fun r3 M4 => (zb (F_Model_thrown (o + 548) M4) fun r5 => (if r5 = r1 then (if r1 = 0 then (if z_inb (0 : Int32) 1 then (if (lg_cmp (M4.2 (o + 573) ((0 : Int32)).toNatClampNeg) (r3).toInt64) = 0 then c M4 else some ((0 : Int32), M4)) else none) else c M4) else some ((0 : Int32), M4)))) else none)) else none)
set_option maxHeartbeats 4000000 in
set_option maxRecDepth 100000 in
theorem t_1597 {X : z_X} (hX : z_ok X) (hN : z_okN X) {G : z_Gr} {o : Nat} (hG : g_Sys G o) (hm : g_Model G (o + 548)) (ha : G.1 (o + 573) = some (.inr (2, 1))) {F : z_F} (B : z_B X F RL cL_law 9 (some .boolean)) (hR : F.2.2.1 = ({ frames := 2048, cells := 601024, slots := 7293034, locals := 84000 } : Room)) {b L : Nat} {S : Nat → Int32} (hx : va_X b L S X.2.1 X.2.1.heap) (hb : b < z_o X) {k n : Nat} (hk : k + 6 ≤ 601024) (hn : n + 36 ≤ 7293034) {b0 : Int32 × z_Mem} {c : z_Mem → Option (Int32 × z_Mem)} (i : Int32) (M : z_Mem) (kk : ∀ M1, z_K X F 9 601024 7293034 G z_cim b0 (k + 6) (n + 36) 2156 [(4, .int i), (3, .ref (o + 573)), (2, .ref (o + 548)), (1, .ref o), (0, .ref b)] [] M1 (c M1)) : z_K X F 9 601024 7293034 G z_cim b0 k n 1597 [(4, .int i), (3, .ref (o + 573)), (2, .ref (o + 548)), (1, .ref o), (0, .ref b)] [] M (Fc_1597 o L S i M c) := by
  unfold Fc_1597
  refine zk_aload_n (pc := 1597) B dL_law_1597 3 rfl rfl ?_
  refine zk_aload_n (pc := 1598) B dL_law_1598 4 rfl rfl ?_
  refine zk_iload (pc := 1599) B dL_law_1599 0 rfl ?_
  refine zk_iconst (v := 1) (pc := 1601) B dL_law_1601 (by decide) ?_
  refine zk_iadd (pc := 1602) B dL_law_1602 ?_
  refine zk_sld (pc := 1603) B hx hb dL_law_1603 ?_
  refine zk_aload_n (pc := 1604) B dL_law_1604 1 rfl rfl ?_
  refine zk_cim (pc := 1605) (k' := k + 1) (n' := n + 6) B (by show _ + 1 = _; omega) (by show _ + 6 = _; omega) (by omega) (by omega) (fun b9 hb9 => zr_W B hR kW_absent km_L_188 [.ref o, .int (S ((i + (1 : Int32))).toNatClampNeg), .ref (o + 573)] rfl rfl (Nat.le_of_ble_eq_true rfl) dL_law_1605 (w_absent hX hN hG ha (S ((i + (1 : Int32))).toNatClampNeg) M b9 hb9) ⟨(Nat.le_of_ble_eq_true rfl), (Nat.le_of_ble_eq_true rfl)⟩ ⟨by show k + 1 ≤ 601024; omega, by show n + 6 ≤ 7293034; omega⟩) (fun r1 M2 => ?_)
  refine zk_istore (pc := 1608) B dL_law_1608 (by decide) rfl ?_
  refine zk_aload_n (pc := 1610) B dL_law_1610 3 rfl rfl ?_
  refine zk_aload_n (pc := 1611) B dL_law_1611 5 rfl rfl ?_
  refine zk_iload (pc := 1612) B dL_law_1612 1 rfl ?_
  refine zk_iconst (v := 1) (pc := 1614) B dL_law_1614 (by decide) ?_
  refine zk_iadd (pc := 1615) B dL_law_1615 ?_
  refine zk_sld (pc := 1616) B hx hb dL_law_1616 ?_
  refine zk_cim (pc := 1617) (k' := k + 1) (n' := n + 6) B (by show _ + 0 = _; omega) (by show _ + 0 = _; omega) (by omega) (by omega) (fun b9 hb9 => zr_V B hR kV_yX12_absent km_L_190 kx_12 (gModel_s hm) [.int (S ((i + (1 : Int32))).toNatClampNeg)] rfl rfl (Nat.le_of_ble_eq_true rfl) dL_law_1617 (m_Model_absent hX hm (S ((i + (1 : Int32))).toNatClampNeg) M2 b9 hb9) ⟨(Nat.le_of_ble_eq_true rfl), (Nat.le_of_ble_eq_true rfl)⟩ ⟨by show k + 1 + 0 ≤ 601024; omega, by show n + 6 + 0 ≤ 7293034; omega⟩) (fun r3 M4 => ?_)
  refine zk_istore (pc := 1620) B dL_law_1620 (by decide) rfl ?_
  refine zk_aload_n (pc := 1622) B dL_law_1622 4 rfl rfl ?_
  refine zk_cpi (pc := 1623) (k' := k + 1) (n' := n + 6) B (by show _ + 0 = _; omega) (by show _ + 0 = _; omega) (by omega) (by omega) (fun b9 hb9 => zr_V B hR kV_yX12_thrown km_L_113 kx_12 (gModel_s hm) [] rfl rfl (Nat.le_of_ble_eq_true rfl) dL_law_1623 (m_Model_thrown hX hm M4 b9 hb9) ⟨(Nat.le_of_ble_eq_true rfl), (Nat.le_of_ble_eq_true rfl)⟩ ⟨by show k + 1 + 0 ≤ 601024; omega, by show n + 6 + 0 ≤ 7293034; omega⟩) (fun r5 _ => ?_)
  refine zk_iload (pc := 1626) B dL_law_1626 1 rfl ?_
  refine zk_icmp_eq (tgt := 1633) (pc := 1628) B dL_law_1628 (by decide) (fun _ => ?_) (fun _ => ?_)
  · refine zk_iload (pc := 1633) B dL_law_1633 1 rfl ?_
    refine zk_if_ne (tgt := 1650) (pc := 1635) B dL_law_1635 (by decide) (fun _ => ?_) (fun _ => ?_)
    · refine zk_goto (tgt := 2156) (pc := 1650) B dL_law_1650 (by decide) ?_
      exact zk_sub [2, 3, 4, 5, 6] rfl (zk_widen (by omega) (by omega) (kk M4))
    · refine zk_aload_n (pc := 1638) B dL_law_1638 3 rfl rfl ?_
      refine zk_iconst (v := 0) (pc := 1639) B dL_law_1639 (by decide) ?_
      refine zk_lald (pc := 1640) B ha dL_law_1640 ?_
      refine zk_iload (pc := 1641) B dL_law_1641 0 rfl ?_
      refine zk_i2l (pc := 1643) B dL_law_1643 ?_
      refine zk_lcmp (pc := 1644) B dL_law_1644 ?_
      refine zk_if_eq (tgt := 1650) (pc := 1645) B dL_law_1645 (by decide) (fun _ => ?_) (fun _ => ?_)
      · refine zk_goto (tgt := 2156) (pc := 1650) B dL_law_1650 (by decide) ?_
        exact zk_sub [2, 3, 4, 5, 6] rfl (zk_widen (by omega) (by omega) (kk M4))
      · refine zk_iconst (v := 0) (pc := 1648) B dL_law_1648 (by decide) ?_
        exact zk_iret (pc := 1649) B dL_law_1649 rfl rfl (by omega) (by omega) rfl
  · refine zk_iconst (v := 0) (pc := 1631) B dL_law_1631 (by decide) ?_
    exact zk_iret (pc := 1632) B dL_law_1632 rfl rfl (by omega) (by omega) rfl
def Fc_1653 (o L : Nat) (S : Nat → Int32) (i : Int32) (M : z_Mem) (c : z_Mem → Option (Int32 × z_Mem)) : Option (Int32 × z_Mem) :=
  (if z_inb (i + (1 : Int32)) L then (zb2 (F_LW_advance o (o + 573) (S ((i + (1 : Int32))).toNatClampNeg) M) fun r1 M2 => (if z_inb (i + (1 : Int32)) L then (zb2 (F_Model_advance (o + 548) (S ((i + (1 : Int32))).toNatClampNeg) M2) fun r3 M4 => (zb (F_Model_thrown (o + 548) M4) fun r5 => (if r5 = r1 then (if r1 = 0 then (if z_inb (0 : Int32) 1 then (if (lg_cmp (M4.2 (o + 573) ((0 : Int32)).toNatClampNeg) (r3).toInt64) = 0 then c M4 else some ((0 : Int32), M4)) else none) else c M4) else some ((0 : Int32), M4)))) else none)) else none)
set_option maxHeartbeats 4000000 in
set_option maxRecDepth 100000 in
theorem t_1653 {X : z_X} (hX : z_ok X) (hN : z_okN X) {G : z_Gr} {o : Nat} (hG : g_Sys G o) (hm : g_Model G (o + 548)) (ha : G.1 (o + 573) = some (.inr (2, 1))) {F : z_F} (B : z_B X F RL cL_law 9 (some .boolean)) (hR : F.2.2.1 = ({ frames := 2048, cells := 601024, slots := 7293034, locals := 84000 } : Room)) {b L : Nat} {S : Nat → Int32} (hx : va_X b L S X.2.1 X.2.1.heap) (hb : b < z_o X) {k n : Nat} (hk : k + 6 ≤ 601024) (hn : n + 36 ≤ 7293034) {b0 : Int32 × z_Mem} {c : z_Mem → Option (Int32 × z_Mem)} (i : Int32) (M : z_Mem) (kk : ∀ M1, z_K X F 9 601024 7293034 G z_cim b0 (k + 6) (n + 36) 2156 [(4, .int i), (3, .ref (o + 573)), (2, .ref (o + 548)), (1, .ref o), (0, .ref b)] [] M1 (c M1)) : z_K X F 9 601024 7293034 G z_cim b0 k n 1653 [(4, .int i), (3, .ref (o + 573)), (2, .ref (o + 548)), (1, .ref o), (0, .ref b)] [] M (Fc_1653 o L S i M c) := by
  unfold Fc_1653
  refine zk_aload_n (pc := 1653) B dL_law_1653 3 rfl rfl ?_
  refine zk_aload_n (pc := 1654) B dL_law_1654 4 rfl rfl ?_
  refine zk_iload (pc := 1655) B dL_law_1655 0 rfl ?_
  refine zk_iconst (v := 1) (pc := 1657) B dL_law_1657 (by decide) ?_
  refine zk_iadd (pc := 1658) B dL_law_1658 ?_
  refine zk_sld (pc := 1659) B hx hb dL_law_1659 ?_
  refine zk_aload_n (pc := 1660) B dL_law_1660 1 rfl rfl ?_
  refine zk_cim (pc := 1661) (k' := k + 1) (n' := n + 6) B (by show _ + 1 = _; omega) (by show _ + 6 = _; omega) (by omega) (by omega) (fun b9 hb9 => zr_W B hR kW_advance km_L_191 [.ref o, .int (S ((i + (1 : Int32))).toNatClampNeg), .ref (o + 573)] rfl rfl (Nat.le_of_ble_eq_true rfl) dL_law_1661 (w_advance hX hN hG ha (S ((i + (1 : Int32))).toNatClampNeg) M b9 hb9) ⟨(Nat.le_of_ble_eq_true rfl), (Nat.le_of_ble_eq_true rfl)⟩ ⟨by show k + 1 ≤ 601024; omega, by show n + 6 ≤ 7293034; omega⟩) (fun r1 M2 => ?_)
  refine zk_istore (pc := 1664) B dL_law_1664 (by decide) rfl ?_
  refine zk_aload_n (pc := 1666) B dL_law_1666 3 rfl rfl ?_
  refine zk_aload_n (pc := 1667) B dL_law_1667 5 rfl rfl ?_
  refine zk_iload (pc := 1668) B dL_law_1668 1 rfl ?_
  refine zk_iconst (v := 1) (pc := 1670) B dL_law_1670 (by decide) ?_
  refine zk_iadd (pc := 1671) B dL_law_1671 ?_
  refine zk_sld (pc := 1672) B hx hb dL_law_1672 ?_
  refine zk_cim (pc := 1673) (k' := k + 1) (n' := n + 6) B (by show _ + 0 = _; omega) (by show _ + 0 = _; omega) (by omega) (by omega) (fun b9 hb9 => zr_V B hR kV_yX12_advance km_L_193 kx_12 (gModel_s hm) [.int (S ((i + (1 : Int32))).toNatClampNeg)] rfl rfl (Nat.le_of_ble_eq_true rfl) dL_law_1673 (m_Model_advance hX hm (S ((i + (1 : Int32))).toNatClampNeg) M2 b9 hb9) ⟨(Nat.le_of_ble_eq_true rfl), (Nat.le_of_ble_eq_true rfl)⟩ ⟨by show k + 1 + 0 ≤ 601024; omega, by show n + 6 + 0 ≤ 7293034; omega⟩) (fun r3 M4 => ?_)
  refine zk_istore (pc := 1676) B dL_law_1676 (by decide) rfl ?_
  refine zk_aload_n (pc := 1678) B dL_law_1678 4 rfl rfl ?_
  refine zk_cpi (pc := 1679) (k' := k + 1) (n' := n + 6) B (by show _ + 0 = _; omega) (by show _ + 0 = _; omega) (by omega) (by omega) (fun b9 hb9 => zr_V B hR kV_yX12_thrown km_L_113 kx_12 (gModel_s hm) [] rfl rfl (Nat.le_of_ble_eq_true rfl) dL_law_1679 (m_Model_thrown hX hm M4 b9 hb9) ⟨(Nat.le_of_ble_eq_true rfl), (Nat.le_of_ble_eq_true rfl)⟩ ⟨by show k + 1 + 0 ≤ 601024; omega, by show n + 6 + 0 ≤ 7293034; omega⟩) (fun r5 _ => ?_)
  refine zk_iload (pc := 1682) B dL_law_1682 1 rfl ?_
  refine zk_icmp_eq (tgt := 1689) (pc := 1684) B dL_law_1684 (by decide) (fun _ => ?_) (fun _ => ?_)
  · refine zk_iload (pc := 1689) B dL_law_1689 1 rfl ?_
    refine zk_if_ne (tgt := 1706) (pc := 1691) B dL_law_1691 (by decide) (fun _ => ?_) (fun _ => ?_)
    · refine zk_goto (tgt := 2156) (pc := 1706) B dL_law_1706 (by decide) ?_
      exact zk_sub [2, 3, 4, 5, 6] rfl (zk_widen (by omega) (by omega) (kk M4))
    · refine zk_aload_n (pc := 1694) B dL_law_1694 3 rfl rfl ?_
      refine zk_iconst (v := 0) (pc := 1695) B dL_law_1695 (by decide) ?_
      refine zk_lald (pc := 1696) B ha dL_law_1696 ?_
      refine zk_iload (pc := 1697) B dL_law_1697 0 rfl ?_
      refine zk_i2l (pc := 1699) B dL_law_1699 ?_
      refine zk_lcmp (pc := 1700) B dL_law_1700 ?_
      refine zk_if_eq (tgt := 1706) (pc := 1701) B dL_law_1701 (by decide) (fun _ => ?_) (fun _ => ?_)
      · refine zk_goto (tgt := 2156) (pc := 1706) B dL_law_1706 (by decide) ?_
        exact zk_sub [2, 3, 4, 5, 6] rfl (zk_widen (by omega) (by omega) (kk M4))
      · refine zk_iconst (v := 0) (pc := 1704) B dL_law_1704 (by decide) ?_
        exact zk_iret (pc := 1705) B dL_law_1705 rfl rfl (by omega) (by omega) rfl
  · refine zk_iconst (v := 0) (pc := 1687) B dL_law_1687 (by decide) ?_
    exact zk_iret (pc := 1688) B dL_law_1688 rfl rfl (by omega) (by omega) rfl
def Fc_1709 (o L : Nat) (S : Nat → Int32) (i : Int32) (M : z_Mem) (c : z_Mem → Option (Int32 × z_Mem)) : Option (Int32 × z_Mem) :=
  (if z_inb (i + (1 : Int32)) L then (if z_inb (i + (2 : Int32)) L then (zb2 (F_LW_tip o (o + 573) (S ((i + (1 : Int32))).toNatClampNeg) (S ((i + (2 : Int32))).toNatClampNeg) M) fun r1 M2 => (if z_inb (i + (1 : Int32)) L then (if z_inb (i + (2 : Int32)) L then (zb2 (F_Model_tip (o + 548) (S ((i + (1 : Int32))).toNatClampNeg) (S ((i + (2 : Int32))).toNatClampNeg) M2) fun r3 M4 => (zb (F_Model_thrown (o + 548) M4) fun r5 => (if r5 = r1 then (if r1 = 0 then (if z_inb (0 : Int32) 1 then (if (lg_cmp (M4.2 (o + 573) ((0 : Int32)).toNatClampNeg) (r3).toInt64) = 0 then c M4 else some ((0 : Int32), M4)) else none) else c M4) else some ((0 : Int32), M4)))) else none) else none)) else none) else none)
set_option maxHeartbeats 4000000 in
set_option maxRecDepth 100000 in
theorem t_1709 {X : z_X} (hX : z_ok X) (hN : z_okN X) {G : z_Gr} {o : Nat} (hG : g_Sys G o) (hm : g_Model G (o + 548)) (ha : G.1 (o + 573) = some (.inr (2, 1))) {F : z_F} (B : z_B X F RL cL_law 9 (some .boolean)) (hR : F.2.2.1 = ({ frames := 2048, cells := 601024, slots := 7293034, locals := 84000 } : Room)) {b L : Nat} {S : Nat → Int32} (hx : va_X b L S X.2.1 X.2.1.heap) (hb : b < z_o X) {k n : Nat} (hk : k + 6 ≤ 601024) (hn : n + 36 ≤ 7293034) {b0 : Int32 × z_Mem} {c : z_Mem → Option (Int32 × z_Mem)} (i : Int32) (M : z_Mem) (kk : ∀ M1, z_K X F 9 601024 7293034 G z_cim b0 (k + 6) (n + 36) 2156 [(4, .int i), (3, .ref (o + 573)), (2, .ref (o + 548)), (1, .ref o), (0, .ref b)] [] M1 (c M1)) : z_K X F 9 601024 7293034 G z_cim b0 k n 1709 [(4, .int i), (3, .ref (o + 573)), (2, .ref (o + 548)), (1, .ref o), (0, .ref b)] [] M (Fc_1709 o L S i M c) := by
  unfold Fc_1709
  refine zk_aload_n (pc := 1709) B dL_law_1709 3 rfl rfl ?_
  refine zk_aload_n (pc := 1710) B dL_law_1710 4 rfl rfl ?_
  refine zk_iload (pc := 1711) B dL_law_1711 0 rfl ?_
  refine zk_iconst (v := 1) (pc := 1713) B dL_law_1713 (by decide) ?_
  refine zk_iadd (pc := 1714) B dL_law_1714 ?_
  refine zk_sld (pc := 1715) B hx hb dL_law_1715 ?_
  refine zk_aload_n (pc := 1716) B dL_law_1716 4 rfl rfl ?_
  refine zk_iload (pc := 1717) B dL_law_1717 0 rfl ?_
  refine zk_iconst (v := 2) (pc := 1719) B dL_law_1719 (by decide) ?_
  refine zk_iadd (pc := 1720) B dL_law_1720 ?_
  refine zk_sld (pc := 1721) B hx hb dL_law_1721 ?_
  refine zk_aload_n (pc := 1722) B dL_law_1722 1 rfl rfl ?_
  refine zk_cim (pc := 1723) (k' := k + 2) (n' := n + 12) B (by show _ + 2 = _; omega) (by show _ + 12 = _; omega) (by omega) (by omega) (fun b9 hb9 => zr_W B hR kW_tip km_L_194 [.ref o, .int (S ((i + (1 : Int32))).toNatClampNeg), .int (S ((i + (2 : Int32))).toNatClampNeg), .ref (o + 573)] rfl rfl (Nat.le_of_ble_eq_true rfl) dL_law_1723 (w_tip hX hN hG ha (S ((i + (1 : Int32))).toNatClampNeg) (S ((i + (2 : Int32))).toNatClampNeg) M b9 hb9) ⟨(Nat.le_of_ble_eq_true rfl), (Nat.le_of_ble_eq_true rfl)⟩ ⟨by show k + 2 ≤ 601024; omega, by show n + 12 ≤ 7293034; omega⟩) (fun r1 M2 => ?_)
  refine zk_istore (pc := 1726) B dL_law_1726 (by decide) rfl ?_
  refine zk_aload_n (pc := 1728) B dL_law_1728 3 rfl rfl ?_
  refine zk_aload_n (pc := 1729) B dL_law_1729 5 rfl rfl ?_
  refine zk_iload (pc := 1730) B dL_law_1730 1 rfl ?_
  refine zk_iconst (v := 1) (pc := 1732) B dL_law_1732 (by decide) ?_
  refine zk_iadd (pc := 1733) B dL_law_1733 ?_
  refine zk_sld (pc := 1734) B hx hb dL_law_1734 ?_
  refine zk_aload_n (pc := 1735) B dL_law_1735 5 rfl rfl ?_
  refine zk_iload (pc := 1736) B dL_law_1736 1 rfl ?_
  refine zk_iconst (v := 2) (pc := 1738) B dL_law_1738 (by decide) ?_
  refine zk_iadd (pc := 1739) B dL_law_1739 ?_
  refine zk_sld (pc := 1740) B hx hb dL_law_1740 ?_
  refine zk_cim (pc := 1741) (k' := k + 2) (n' := n + 12) B (by show _ + 0 = _; omega) (by show _ + 0 = _; omega) (by omega) (by omega) (fun b9 hb9 => zr_V B hR kV_yX12_tip km_L_196 kx_12 (gModel_s hm) [.int (S ((i + (1 : Int32))).toNatClampNeg), .int (S ((i + (2 : Int32))).toNatClampNeg)] rfl rfl (Nat.le_of_ble_eq_true rfl) dL_law_1741 (m_Model_tip hX hm (S ((i + (1 : Int32))).toNatClampNeg) (S ((i + (2 : Int32))).toNatClampNeg) M2 b9 hb9) ⟨(Nat.le_of_ble_eq_true rfl), (Nat.le_of_ble_eq_true rfl)⟩ ⟨by show k + 2 + 0 ≤ 601024; omega, by show n + 12 + 0 ≤ 7293034; omega⟩) (fun r3 M4 => ?_)
  refine zk_istore (pc := 1744) B dL_law_1744 (by decide) rfl ?_
  refine zk_aload_n (pc := 1746) B dL_law_1746 4 rfl rfl ?_
  refine zk_cpi (pc := 1747) (k' := k + 2) (n' := n + 12) B (by show _ + 0 = _; omega) (by show _ + 0 = _; omega) (by omega) (by omega) (fun b9 hb9 => zr_V B hR kV_yX12_thrown km_L_113 kx_12 (gModel_s hm) [] rfl rfl (Nat.le_of_ble_eq_true rfl) dL_law_1747 (m_Model_thrown hX hm M4 b9 hb9) ⟨(Nat.le_of_ble_eq_true rfl), (Nat.le_of_ble_eq_true rfl)⟩ ⟨by show k + 2 + 0 ≤ 601024; omega, by show n + 12 + 0 ≤ 7293034; omega⟩) (fun r5 _ => ?_)
  refine zk_iload (pc := 1750) B dL_law_1750 1 rfl ?_
  refine zk_icmp_eq (tgt := 1757) (pc := 1752) B dL_law_1752 (by decide) (fun _ => ?_) (fun _ => ?_)
  · refine zk_iload (pc := 1757) B dL_law_1757 1 rfl ?_
    refine zk_if_ne (tgt := 1774) (pc := 1759) B dL_law_1759 (by decide) (fun _ => ?_) (fun _ => ?_)
    · refine zk_goto (tgt := 2156) (pc := 1774) B dL_law_1774 (by decide) ?_
      exact zk_sub [2, 3, 4, 5, 6] rfl (zk_widen (by omega) (by omega) (kk M4))
    · refine zk_aload_n (pc := 1762) B dL_law_1762 3 rfl rfl ?_
      refine zk_iconst (v := 0) (pc := 1763) B dL_law_1763 (by decide) ?_
      refine zk_lald (pc := 1764) B ha dL_law_1764 ?_
      refine zk_iload (pc := 1765) B dL_law_1765 0 rfl ?_
      refine zk_i2l (pc := 1767) B dL_law_1767 ?_
      refine zk_lcmp (pc := 1768) B dL_law_1768 ?_
      refine zk_if_eq (tgt := 1774) (pc := 1769) B dL_law_1769 (by decide) (fun _ => ?_) (fun _ => ?_)
      · refine zk_goto (tgt := 2156) (pc := 1774) B dL_law_1774 (by decide) ?_
        exact zk_sub [2, 3, 4, 5, 6] rfl (zk_widen (by omega) (by omega) (kk M4))
      · refine zk_iconst (v := 0) (pc := 1772) B dL_law_1772 (by decide) ?_
        exact zk_iret (pc := 1773) B dL_law_1773 rfl rfl (by omega) (by omega) rfl
  · refine zk_iconst (v := 0) (pc := 1755) B dL_law_1755 (by decide) ?_
    exact zk_iret (pc := 1756) B dL_law_1756 rfl rfl (by omega) (by omega) rfl
def Fc_1777 (o L : Nat) (S : Nat → Int32) (i : Int32) (M : z_Mem) (c : z_Mem → Option (Int32 × z_Mem)) : Option (Int32 × z_Mem) :=
  (if z_inb (i + (1 : Int32)) L then (zb2 (F_LW_setRate o (o + 573) (S ((i + (1 : Int32))).toNatClampNeg) M) fun r1 M2 => (if z_inb (i + (1 : Int32)) L then (zb2 (F_Model_setRate (o + 548) (S ((i + (1 : Int32))).toNatClampNeg) M2) fun r3 M4 => (zb (F_Model_thrown (o + 548) M4) fun r5 => (if r5 = r1 then (if r1 = 0 then (if z_inb (0 : Int32) 1 then (if (lg_cmp (M4.2 (o + 573) ((0 : Int32)).toNatClampNeg) (r3).toInt64) = 0 then c M4 else some ((0 : Int32), M4)) else none) else c M4) else some ((0 : Int32), M4)))) else none)) else none)
set_option maxHeartbeats 4000000 in
set_option maxRecDepth 100000 in
theorem t_1777 {X : z_X} (hX : z_ok X) (hN : z_okN X) {G : z_Gr} {o : Nat} (hG : g_Sys G o) (hm : g_Model G (o + 548)) (ha : G.1 (o + 573) = some (.inr (2, 1))) {F : z_F} (B : z_B X F RL cL_law 9 (some .boolean)) (hR : F.2.2.1 = ({ frames := 2048, cells := 601024, slots := 7293034, locals := 84000 } : Room)) {b L : Nat} {S : Nat → Int32} (hx : va_X b L S X.2.1 X.2.1.heap) (hb : b < z_o X) {k n : Nat} (hk : k + 6 ≤ 601024) (hn : n + 36 ≤ 7293034) {b0 : Int32 × z_Mem} {c : z_Mem → Option (Int32 × z_Mem)} (i : Int32) (M : z_Mem) (kk : ∀ M1, z_K X F 9 601024 7293034 G z_cim b0 (k + 6) (n + 36) 2156 [(4, .int i), (3, .ref (o + 573)), (2, .ref (o + 548)), (1, .ref o), (0, .ref b)] [] M1 (c M1)) : z_K X F 9 601024 7293034 G z_cim b0 k n 1777 [(4, .int i), (3, .ref (o + 573)), (2, .ref (o + 548)), (1, .ref o), (0, .ref b)] [] M (Fc_1777 o L S i M c) := by
  unfold Fc_1777
  refine zk_aload_n (pc := 1777) B dL_law_1777 3 rfl rfl ?_
  refine zk_aload_n (pc := 1778) B dL_law_1778 4 rfl rfl ?_
  refine zk_iload (pc := 1779) B dL_law_1779 0 rfl ?_
  refine zk_iconst (v := 1) (pc := 1781) B dL_law_1781 (by decide) ?_
  refine zk_iadd (pc := 1782) B dL_law_1782 ?_
  refine zk_sld (pc := 1783) B hx hb dL_law_1783 ?_
  refine zk_aload_n (pc := 1784) B dL_law_1784 1 rfl rfl ?_
  refine zk_cim (pc := 1785) (k' := k + 1) (n' := n + 6) B (by show _ + 1 = _; omega) (by show _ + 6 = _; omega) (by omega) (by omega) (fun b9 hb9 => zr_W B hR kW_setRate km_L_197 [.ref o, .int (S ((i + (1 : Int32))).toNatClampNeg), .ref (o + 573)] rfl rfl (Nat.le_of_ble_eq_true rfl) dL_law_1785 (w_setRate hX hN hG ha (S ((i + (1 : Int32))).toNatClampNeg) M b9 hb9) ⟨(Nat.le_of_ble_eq_true rfl), (Nat.le_of_ble_eq_true rfl)⟩ ⟨by show k + 1 ≤ 601024; omega, by show n + 6 ≤ 7293034; omega⟩) (fun r1 M2 => ?_)
  refine zk_istore (pc := 1788) B dL_law_1788 (by decide) rfl ?_
  refine zk_aload_n (pc := 1790) B dL_law_1790 3 rfl rfl ?_
  refine zk_aload_n (pc := 1791) B dL_law_1791 5 rfl rfl ?_
  refine zk_iload (pc := 1792) B dL_law_1792 1 rfl ?_
  refine zk_iconst (v := 1) (pc := 1794) B dL_law_1794 (by decide) ?_
  refine zk_iadd (pc := 1795) B dL_law_1795 ?_
  refine zk_sld (pc := 1796) B hx hb dL_law_1796 ?_
  refine zk_cim (pc := 1797) (k' := k + 1) (n' := n + 6) B (by show _ + 0 = _; omega) (by show _ + 0 = _; omega) (by omega) (by omega) (fun b9 hb9 => zr_V B hR kV_yX12_setRate km_L_199 kx_12 (gModel_s hm) [.int (S ((i + (1 : Int32))).toNatClampNeg)] rfl rfl (Nat.le_of_ble_eq_true rfl) dL_law_1797 (m_Model_setRate hX hm (S ((i + (1 : Int32))).toNatClampNeg) M2 b9 hb9) ⟨(Nat.le_of_ble_eq_true rfl), (Nat.le_of_ble_eq_true rfl)⟩ ⟨by show k + 1 + 0 ≤ 601024; omega, by show n + 6 + 0 ≤ 7293034; omega⟩) (fun r3 M4 => ?_)
  refine zk_istore (pc := 1800) B dL_law_1800 (by decide) rfl ?_
  refine zk_aload_n (pc := 1802) B dL_law_1802 4 rfl rfl ?_
  refine zk_cpi (pc := 1803) (k' := k + 1) (n' := n + 6) B (by show _ + 0 = _; omega) (by show _ + 0 = _; omega) (by omega) (by omega) (fun b9 hb9 => zr_V B hR kV_yX12_thrown km_L_113 kx_12 (gModel_s hm) [] rfl rfl (Nat.le_of_ble_eq_true rfl) dL_law_1803 (m_Model_thrown hX hm M4 b9 hb9) ⟨(Nat.le_of_ble_eq_true rfl), (Nat.le_of_ble_eq_true rfl)⟩ ⟨by show k + 1 + 0 ≤ 601024; omega, by show n + 6 + 0 ≤ 7293034; omega⟩) (fun r5 _ => ?_)
  refine zk_iload (pc := 1806) B dL_law_1806 1 rfl ?_
  refine zk_icmp_eq (tgt := 1813) (pc := 1808) B dL_law_1808 (by decide) (fun _ => ?_) (fun _ => ?_)
  · refine zk_iload (pc := 1813) B dL_law_1813 1 rfl ?_
    refine zk_if_ne (tgt := 1830) (pc := 1815) B dL_law_1815 (by decide) (fun _ => ?_) (fun _ => ?_)
    · refine zk_goto (tgt := 2156) (pc := 1830) B dL_law_1830 (by decide) ?_
      exact zk_sub [2, 3, 4, 5, 6] rfl (zk_widen (by omega) (by omega) (kk M4))
    · refine zk_aload_n (pc := 1818) B dL_law_1818 3 rfl rfl ?_
      refine zk_iconst (v := 0) (pc := 1819) B dL_law_1819 (by decide) ?_
      refine zk_lald (pc := 1820) B ha dL_law_1820 ?_
      refine zk_iload (pc := 1821) B dL_law_1821 0 rfl ?_
      refine zk_i2l (pc := 1823) B dL_law_1823 ?_
      refine zk_lcmp (pc := 1824) B dL_law_1824 ?_
      refine zk_if_eq (tgt := 1830) (pc := 1825) B dL_law_1825 (by decide) (fun _ => ?_) (fun _ => ?_)
      · refine zk_goto (tgt := 2156) (pc := 1830) B dL_law_1830 (by decide) ?_
        exact zk_sub [2, 3, 4, 5, 6] rfl (zk_widen (by omega) (by omega) (kk M4))
      · refine zk_iconst (v := 0) (pc := 1828) B dL_law_1828 (by decide) ?_
        exact zk_iret (pc := 1829) B dL_law_1829 rfl rfl (by omega) (by omega) rfl
  · refine zk_iconst (v := 0) (pc := 1811) B dL_law_1811 (by decide) ?_
    exact zk_iret (pc := 1812) B dL_law_1812 rfl rfl (by omega) (by omega) rfl
def Fc_1833 (o L : Nat) (S : Nat → Int32) (i : Int32) (M : z_Mem) (c : z_Mem → Option (Int32 × z_Mem)) : Option (Int32 × z_Mem) :=
  (if z_inb (i + (1 : Int32)) L then (if z_inb (i + (2 : Int32)) L then (zb2 (F_LW_setEnd o (o + 573) (S ((i + (1 : Int32))).toNatClampNeg) (S ((i + (2 : Int32))).toNatClampNeg) M) fun r1 M2 => (if z_inb (i + (1 : Int32)) L then (if z_inb (i + (2 : Int32)) L then (zb2 (F_Model_setEnd (o + 548) (S ((i + (1 : Int32))).toNatClampNeg) (S ((i + (2 : Int32))).toNatClampNeg) M2) fun r3 M4 => (zb (F_Model_thrown (o + 548) M4) fun r5 => (if r5 = r1 then (if r1 = 0 then (if z_inb (0 : Int32) 1 then (if (lg_cmp (M4.2 (o + 573) ((0 : Int32)).toNatClampNeg) (r3).toInt64) = 0 then c M4 else some ((0 : Int32), M4)) else none) else c M4) else some ((0 : Int32), M4)))) else none) else none)) else none) else none)
set_option maxHeartbeats 4000000 in
set_option maxRecDepth 100000 in
theorem t_1833 {X : z_X} (hX : z_ok X) (hN : z_okN X) {G : z_Gr} {o : Nat} (hG : g_Sys G o) (hm : g_Model G (o + 548)) (ha : G.1 (o + 573) = some (.inr (2, 1))) {F : z_F} (B : z_B X F RL cL_law 9 (some .boolean)) (hR : F.2.2.1 = ({ frames := 2048, cells := 601024, slots := 7293034, locals := 84000 } : Room)) {b L : Nat} {S : Nat → Int32} (hx : va_X b L S X.2.1 X.2.1.heap) (hb : b < z_o X) {k n : Nat} (hk : k + 6 ≤ 601024) (hn : n + 36 ≤ 7293034) {b0 : Int32 × z_Mem} {c : z_Mem → Option (Int32 × z_Mem)} (i : Int32) (M : z_Mem) (kk : ∀ M1, z_K X F 9 601024 7293034 G z_cim b0 (k + 6) (n + 36) 2156 [(4, .int i), (3, .ref (o + 573)), (2, .ref (o + 548)), (1, .ref o), (0, .ref b)] [] M1 (c M1)) : z_K X F 9 601024 7293034 G z_cim b0 k n 1833 [(4, .int i), (3, .ref (o + 573)), (2, .ref (o + 548)), (1, .ref o), (0, .ref b)] [] M (Fc_1833 o L S i M c) := by
  unfold Fc_1833
  refine zk_aload_n (pc := 1833) B dL_law_1833 3 rfl rfl ?_
  refine zk_aload_n (pc := 1834) B dL_law_1834 4 rfl rfl ?_
  refine zk_iload (pc := 1835) B dL_law_1835 0 rfl ?_
  refine zk_iconst (v := 1) (pc := 1837) B dL_law_1837 (by decide) ?_
  refine zk_iadd (pc := 1838) B dL_law_1838 ?_
  refine zk_sld (pc := 1839) B hx hb dL_law_1839 ?_
  refine zk_aload_n (pc := 1840) B dL_law_1840 4 rfl rfl ?_
  refine zk_iload (pc := 1841) B dL_law_1841 0 rfl ?_
  refine zk_iconst (v := 2) (pc := 1843) B dL_law_1843 (by decide) ?_
  refine zk_iadd (pc := 1844) B dL_law_1844 ?_
  refine zk_sld (pc := 1845) B hx hb dL_law_1845 ?_
  refine zk_aload_n (pc := 1846) B dL_law_1846 1 rfl rfl ?_
  refine zk_cim (pc := 1847) (k' := k + 2) (n' := n + 12) B (by show _ + 2 = _; omega) (by show _ + 12 = _; omega) (by omega) (by omega) (fun b9 hb9 => zr_W B hR kW_setEnd km_L_200 [.ref o, .int (S ((i + (1 : Int32))).toNatClampNeg), .int (S ((i + (2 : Int32))).toNatClampNeg), .ref (o + 573)] rfl rfl (Nat.le_of_ble_eq_true rfl) dL_law_1847 (w_setEnd hX hN hG ha (S ((i + (1 : Int32))).toNatClampNeg) (S ((i + (2 : Int32))).toNatClampNeg) M b9 hb9) ⟨(Nat.le_of_ble_eq_true rfl), (Nat.le_of_ble_eq_true rfl)⟩ ⟨by show k + 2 ≤ 601024; omega, by show n + 12 ≤ 7293034; omega⟩) (fun r1 M2 => ?_)
  refine zk_istore (pc := 1850) B dL_law_1850 (by decide) rfl ?_
  refine zk_aload_n (pc := 1852) B dL_law_1852 3 rfl rfl ?_
  refine zk_aload_n (pc := 1853) B dL_law_1853 5 rfl rfl ?_
  refine zk_iload (pc := 1854) B dL_law_1854 1 rfl ?_
  refine zk_iconst (v := 1) (pc := 1856) B dL_law_1856 (by decide) ?_
  refine zk_iadd (pc := 1857) B dL_law_1857 ?_
  refine zk_sld (pc := 1858) B hx hb dL_law_1858 ?_
  refine zk_aload_n (pc := 1859) B dL_law_1859 5 rfl rfl ?_
  refine zk_iload (pc := 1860) B dL_law_1860 1 rfl ?_
  refine zk_iconst (v := 2) (pc := 1862) B dL_law_1862 (by decide) ?_
  refine zk_iadd (pc := 1863) B dL_law_1863 ?_
  refine zk_sld (pc := 1864) B hx hb dL_law_1864 ?_
  refine zk_cim (pc := 1865) (k' := k + 2) (n' := n + 12) B (by show _ + 0 = _; omega) (by show _ + 0 = _; omega) (by omega) (by omega) (fun b9 hb9 => zr_V B hR kV_yX12_setEnd km_L_202 kx_12 (gModel_s hm) [.int (S ((i + (1 : Int32))).toNatClampNeg), .int (S ((i + (2 : Int32))).toNatClampNeg)] rfl rfl (Nat.le_of_ble_eq_true rfl) dL_law_1865 (m_Model_setEnd hX hm (S ((i + (1 : Int32))).toNatClampNeg) (S ((i + (2 : Int32))).toNatClampNeg) M2 b9 hb9) ⟨(Nat.le_of_ble_eq_true rfl), (Nat.le_of_ble_eq_true rfl)⟩ ⟨by show k + 2 + 0 ≤ 601024; omega, by show n + 12 + 0 ≤ 7293034; omega⟩) (fun r3 M4 => ?_)
  refine zk_istore (pc := 1868) B dL_law_1868 (by decide) rfl ?_
  refine zk_aload_n (pc := 1870) B dL_law_1870 4 rfl rfl ?_
  refine zk_cpi (pc := 1871) (k' := k + 2) (n' := n + 12) B (by show _ + 0 = _; omega) (by show _ + 0 = _; omega) (by omega) (by omega) (fun b9 hb9 => zr_V B hR kV_yX12_thrown km_L_113 kx_12 (gModel_s hm) [] rfl rfl (Nat.le_of_ble_eq_true rfl) dL_law_1871 (m_Model_thrown hX hm M4 b9 hb9) ⟨(Nat.le_of_ble_eq_true rfl), (Nat.le_of_ble_eq_true rfl)⟩ ⟨by show k + 2 + 0 ≤ 601024; omega, by show n + 12 + 0 ≤ 7293034; omega⟩) (fun r5 _ => ?_)
  refine zk_iload (pc := 1874) B dL_law_1874 1 rfl ?_
  refine zk_icmp_eq (tgt := 1881) (pc := 1876) B dL_law_1876 (by decide) (fun _ => ?_) (fun _ => ?_)
  · refine zk_iload (pc := 1881) B dL_law_1881 1 rfl ?_
    refine zk_if_ne (tgt := 1898) (pc := 1883) B dL_law_1883 (by decide) (fun _ => ?_) (fun _ => ?_)
    · refine zk_goto (tgt := 2156) (pc := 1898) B dL_law_1898 (by decide) ?_
      exact zk_sub [2, 3, 4, 5, 6] rfl (zk_widen (by omega) (by omega) (kk M4))
    · refine zk_aload_n (pc := 1886) B dL_law_1886 3 rfl rfl ?_
      refine zk_iconst (v := 0) (pc := 1887) B dL_law_1887 (by decide) ?_
      refine zk_lald (pc := 1888) B ha dL_law_1888 ?_
      refine zk_iload (pc := 1889) B dL_law_1889 0 rfl ?_
      refine zk_i2l (pc := 1891) B dL_law_1891 ?_
      refine zk_lcmp (pc := 1892) B dL_law_1892 ?_
      refine zk_if_eq (tgt := 1898) (pc := 1893) B dL_law_1893 (by decide) (fun _ => ?_) (fun _ => ?_)
      · refine zk_goto (tgt := 2156) (pc := 1898) B dL_law_1898 (by decide) ?_
        exact zk_sub [2, 3, 4, 5, 6] rfl (zk_widen (by omega) (by omega) (kk M4))
      · refine zk_iconst (v := 0) (pc := 1896) B dL_law_1896 (by decide) ?_
        exact zk_iret (pc := 1897) B dL_law_1897 rfl rfl (by omega) (by omega) rfl
  · refine zk_iconst (v := 0) (pc := 1879) B dL_law_1879 (by decide) ?_
    exact zk_iret (pc := 1880) B dL_law_1880 rfl rfl (by omega) (by omega) rfl
def Fc_1901 (o L : Nat) (S : Nat → Int32) (i : Int32) (M : z_Mem) (c : z_Mem → Option (Int32 × z_Mem)) : Option (Int32 × z_Mem) :=
  (if z_inb (i + (1 : Int32)) L then (if z_inb (i + (2 : Int32)) L then (zb2 (F_LW_setRule o (o + 573) (S ((i + (1 : Int32))).toNatClampNeg) (S ((i + (2 : Int32))).toNatClampNeg) M) fun r1 M2 => (if z_inb (i + (1 : Int32)) L then (if z_inb (i + (2 : Int32)) L then (zb2 (F_Model_setRule (o + 548) (S ((i + (1 : Int32))).toNatClampNeg) (S ((i + (2 : Int32))).toNatClampNeg) M2) fun r3 M4 => (zb (F_Model_thrown (o + 548) M4) fun r5 => (if r5 = r1 then (if r1 = 0 then (if z_inb (0 : Int32) 1 then (if (lg_cmp (M4.2 (o + 573) ((0 : Int32)).toNatClampNeg) (r3).toInt64) = 0 then c M4 else some ((0 : Int32), M4)) else none) else c M4) else some ((0 : Int32), M4)))) else none) else none)) else none) else none)
set_option maxHeartbeats 4000000 in
set_option maxRecDepth 100000 in
theorem t_1901 {X : z_X} (hX : z_ok X) (hN : z_okN X) {G : z_Gr} {o : Nat} (hG : g_Sys G o) (hm : g_Model G (o + 548)) (ha : G.1 (o + 573) = some (.inr (2, 1))) {F : z_F} (B : z_B X F RL cL_law 9 (some .boolean)) (hR : F.2.2.1 = ({ frames := 2048, cells := 601024, slots := 7293034, locals := 84000 } : Room)) {b L : Nat} {S : Nat → Int32} (hx : va_X b L S X.2.1 X.2.1.heap) (hb : b < z_o X) {k n : Nat} (hk : k + 6 ≤ 601024) (hn : n + 36 ≤ 7293034) {b0 : Int32 × z_Mem} {c : z_Mem → Option (Int32 × z_Mem)} (i : Int32) (M : z_Mem) (kk : ∀ M1, z_K X F 9 601024 7293034 G z_cim b0 (k + 6) (n + 36) 2156 [(4, .int i), (3, .ref (o + 573)), (2, .ref (o + 548)), (1, .ref o), (0, .ref b)] [] M1 (c M1)) : z_K X F 9 601024 7293034 G z_cim b0 k n 1901 [(4, .int i), (3, .ref (o + 573)), (2, .ref (o + 548)), (1, .ref o), (0, .ref b)] [] M (Fc_1901 o L S i M c) := by
  unfold Fc_1901
  refine zk_aload_n (pc := 1901) B dL_law_1901 3 rfl rfl ?_
  refine zk_aload_n (pc := 1902) B dL_law_1902 4 rfl rfl ?_
  refine zk_iload (pc := 1903) B dL_law_1903 0 rfl ?_
  refine zk_iconst (v := 1) (pc := 1905) B dL_law_1905 (by decide) ?_
  refine zk_iadd (pc := 1906) B dL_law_1906 ?_
  refine zk_sld (pc := 1907) B hx hb dL_law_1907 ?_
  refine zk_aload_n (pc := 1908) B dL_law_1908 4 rfl rfl ?_
  refine zk_iload (pc := 1909) B dL_law_1909 0 rfl ?_
  refine zk_iconst (v := 2) (pc := 1911) B dL_law_1911 (by decide) ?_
  refine zk_iadd (pc := 1912) B dL_law_1912 ?_
  refine zk_sld (pc := 1913) B hx hb dL_law_1913 ?_
  refine zk_aload_n (pc := 1914) B dL_law_1914 1 rfl rfl ?_
  refine zk_cim (pc := 1915) (k' := k + 2) (n' := n + 12) B (by show _ + 2 = _; omega) (by show _ + 12 = _; omega) (by omega) (by omega) (fun b9 hb9 => zr_W B hR kW_setRule km_L_203 [.ref o, .int (S ((i + (1 : Int32))).toNatClampNeg), .int (S ((i + (2 : Int32))).toNatClampNeg), .ref (o + 573)] rfl rfl (Nat.le_of_ble_eq_true rfl) dL_law_1915 (w_setRule hX hN hG ha (S ((i + (1 : Int32))).toNatClampNeg) (S ((i + (2 : Int32))).toNatClampNeg) M b9 hb9) ⟨(Nat.le_of_ble_eq_true rfl), (Nat.le_of_ble_eq_true rfl)⟩ ⟨by show k + 2 ≤ 601024; omega, by show n + 12 ≤ 7293034; omega⟩) (fun r1 M2 => ?_)
  refine zk_istore (pc := 1918) B dL_law_1918 (by decide) rfl ?_
  refine zk_aload_n (pc := 1920) B dL_law_1920 3 rfl rfl ?_
  refine zk_aload_n (pc := 1921) B dL_law_1921 5 rfl rfl ?_
  refine zk_iload (pc := 1922) B dL_law_1922 1 rfl ?_
  refine zk_iconst (v := 1) (pc := 1924) B dL_law_1924 (by decide) ?_
  refine zk_iadd (pc := 1925) B dL_law_1925 ?_
  refine zk_sld (pc := 1926) B hx hb dL_law_1926 ?_
  refine zk_aload_n (pc := 1927) B dL_law_1927 5 rfl rfl ?_
  refine zk_iload (pc := 1928) B dL_law_1928 1 rfl ?_
  refine zk_iconst (v := 2) (pc := 1930) B dL_law_1930 (by decide) ?_
  refine zk_iadd (pc := 1931) B dL_law_1931 ?_
  refine zk_sld (pc := 1932) B hx hb dL_law_1932 ?_
  refine zk_cim (pc := 1933) (k' := k + 2) (n' := n + 12) B (by show _ + 0 = _; omega) (by show _ + 0 = _; omega) (by omega) (by omega) (fun b9 hb9 => zr_V B hR kV_yX12_setRule km_L_205 kx_12 (gModel_s hm) [.int (S ((i + (1 : Int32))).toNatClampNeg), .int (S ((i + (2 : Int32))).toNatClampNeg)] rfl rfl (Nat.le_of_ble_eq_true rfl) dL_law_1933 (m_Model_setRule hX hm (S ((i + (1 : Int32))).toNatClampNeg) (S ((i + (2 : Int32))).toNatClampNeg) M2 b9 hb9) ⟨(Nat.le_of_ble_eq_true rfl), (Nat.le_of_ble_eq_true rfl)⟩ ⟨by show k + 2 + 0 ≤ 601024; omega, by show n + 12 + 0 ≤ 7293034; omega⟩) (fun r3 M4 => ?_)
  refine zk_istore (pc := 1936) B dL_law_1936 (by decide) rfl ?_
  refine zk_aload_n (pc := 1938) B dL_law_1938 4 rfl rfl ?_
  refine zk_cpi (pc := 1939) (k' := k + 2) (n' := n + 12) B (by show _ + 0 = _; omega) (by show _ + 0 = _; omega) (by omega) (by omega) (fun b9 hb9 => zr_V B hR kV_yX12_thrown km_L_113 kx_12 (gModel_s hm) [] rfl rfl (Nat.le_of_ble_eq_true rfl) dL_law_1939 (m_Model_thrown hX hm M4 b9 hb9) ⟨(Nat.le_of_ble_eq_true rfl), (Nat.le_of_ble_eq_true rfl)⟩ ⟨by show k + 2 + 0 ≤ 601024; omega, by show n + 12 + 0 ≤ 7293034; omega⟩) (fun r5 _ => ?_)
  refine zk_iload (pc := 1942) B dL_law_1942 1 rfl ?_
  refine zk_icmp_eq (tgt := 1949) (pc := 1944) B dL_law_1944 (by decide) (fun _ => ?_) (fun _ => ?_)
  · refine zk_iload (pc := 1949) B dL_law_1949 1 rfl ?_
    refine zk_if_ne (tgt := 1966) (pc := 1951) B dL_law_1951 (by decide) (fun _ => ?_) (fun _ => ?_)
    · refine zk_goto (tgt := 2156) (pc := 1966) B dL_law_1966 (by decide) ?_
      exact zk_sub [2, 3, 4, 5, 6] rfl (zk_widen (by omega) (by omega) (kk M4))
    · refine zk_aload_n (pc := 1954) B dL_law_1954 3 rfl rfl ?_
      refine zk_iconst (v := 0) (pc := 1955) B dL_law_1955 (by decide) ?_
      refine zk_lald (pc := 1956) B ha dL_law_1956 ?_
      refine zk_iload (pc := 1957) B dL_law_1957 0 rfl ?_
      refine zk_i2l (pc := 1959) B dL_law_1959 ?_
      refine zk_lcmp (pc := 1960) B dL_law_1960 ?_
      refine zk_if_eq (tgt := 1966) (pc := 1961) B dL_law_1961 (by decide) (fun _ => ?_) (fun _ => ?_)
      · refine zk_goto (tgt := 2156) (pc := 1966) B dL_law_1966 (by decide) ?_
        exact zk_sub [2, 3, 4, 5, 6] rfl (zk_widen (by omega) (by omega) (kk M4))
      · refine zk_iconst (v := 0) (pc := 1964) B dL_law_1964 (by decide) ?_
        exact zk_iret (pc := 1965) B dL_law_1965 rfl rfl (by omega) (by omega) rfl
  · refine zk_iconst (v := 0) (pc := 1947) B dL_law_1947 (by decide) ?_
    exact zk_iret (pc := 1948) B dL_law_1948 rfl rfl (by omega) (by omega) rfl
def Fc_1969 (o L : Nat) (S : Nat → Int32) (i : Int32) (M : z_Mem) (c : z_Mem → Option (Int32 × z_Mem)) : Option (Int32 × z_Mem) :=
  (if z_inb (i + (1 : Int32)) L then (zb2 (F_LW_format o (o + 573) (S ((i + (1 : Int32))).toNatClampNeg) M) fun r1 M2 => (if z_inb (i + (1 : Int32)) L then (zb2 (F_Model_format (o + 548) (S ((i + (1 : Int32))).toNatClampNeg) M2) fun r3 M4 => (zb (F_Model_thrown (o + 548) M4) fun r5 => (if r5 = r1 then (if r1 = 0 then (if z_inb (0 : Int32) 1 then (if (lg_cmp (M4.2 (o + 573) ((0 : Int32)).toNatClampNeg) (r3).toInt64) = 0 then c M4 else some ((0 : Int32), M4)) else none) else c M4) else some ((0 : Int32), M4)))) else none)) else none)
set_option maxHeartbeats 4000000 in
set_option maxRecDepth 100000 in
theorem t_1969 {X : z_X} (hX : z_ok X) (hN : z_okN X) {G : z_Gr} {o : Nat} (hG : g_Sys G o) (hm : g_Model G (o + 548)) (ha : G.1 (o + 573) = some (.inr (2, 1))) {F : z_F} (B : z_B X F RL cL_law 9 (some .boolean)) (hR : F.2.2.1 = ({ frames := 2048, cells := 601024, slots := 7293034, locals := 84000 } : Room)) {b L : Nat} {S : Nat → Int32} (hx : va_X b L S X.2.1 X.2.1.heap) (hb : b < z_o X) {k n : Nat} (hk : k + 6 ≤ 601024) (hn : n + 36 ≤ 7293034) {b0 : Int32 × z_Mem} {c : z_Mem → Option (Int32 × z_Mem)} (i : Int32) (M : z_Mem) (kk : ∀ M1, z_K X F 9 601024 7293034 G z_cim b0 (k + 6) (n + 36) 2156 [(4, .int i), (3, .ref (o + 573)), (2, .ref (o + 548)), (1, .ref o), (0, .ref b)] [] M1 (c M1)) : z_K X F 9 601024 7293034 G z_cim b0 k n 1969 [(4, .int i), (3, .ref (o + 573)), (2, .ref (o + 548)), (1, .ref o), (0, .ref b)] [] M (Fc_1969 o L S i M c) := by
  unfold Fc_1969
  refine zk_aload_n (pc := 1969) B dL_law_1969 3 rfl rfl ?_
  refine zk_aload_n (pc := 1970) B dL_law_1970 4 rfl rfl ?_
  refine zk_iload (pc := 1971) B dL_law_1971 0 rfl ?_
  refine zk_iconst (v := 1) (pc := 1973) B dL_law_1973 (by decide) ?_
  refine zk_iadd (pc := 1974) B dL_law_1974 ?_
  refine zk_sld (pc := 1975) B hx hb dL_law_1975 ?_
  refine zk_aload_n (pc := 1976) B dL_law_1976 1 rfl rfl ?_
  refine zk_cim (pc := 1977) (k' := k + 1) (n' := n + 6) B (by show _ + 1 = _; omega) (by show _ + 6 = _; omega) (by omega) (by omega) (fun b9 hb9 => zr_W B hR kW_format km_L_206 [.ref o, .int (S ((i + (1 : Int32))).toNatClampNeg), .ref (o + 573)] rfl rfl (Nat.le_of_ble_eq_true rfl) dL_law_1977 (w_format hX hN hG ha (S ((i + (1 : Int32))).toNatClampNeg) M b9 hb9) ⟨(Nat.le_of_ble_eq_true rfl), (Nat.le_of_ble_eq_true rfl)⟩ ⟨by show k + 1 ≤ 601024; omega, by show n + 6 ≤ 7293034; omega⟩) (fun r1 M2 => ?_)
  refine zk_istore (pc := 1980) B dL_law_1980 (by decide) rfl ?_
  refine zk_aload_n (pc := 1982) B dL_law_1982 3 rfl rfl ?_
  refine zk_aload_n (pc := 1983) B dL_law_1983 5 rfl rfl ?_
  refine zk_iload (pc := 1984) B dL_law_1984 1 rfl ?_
  refine zk_iconst (v := 1) (pc := 1986) B dL_law_1986 (by decide) ?_
  refine zk_iadd (pc := 1987) B dL_law_1987 ?_
  refine zk_sld (pc := 1988) B hx hb dL_law_1988 ?_
  refine zk_cim (pc := 1989) (k' := k + 1) (n' := n + 6) B (by show _ + 0 = _; omega) (by show _ + 0 = _; omega) (by omega) (by omega) (fun b9 hb9 => zr_V B hR kV_yX12_format km_L_208 kx_12 (gModel_s hm) [.int (S ((i + (1 : Int32))).toNatClampNeg)] rfl rfl (Nat.le_of_ble_eq_true rfl) dL_law_1989 (m_Model_format hX hm (S ((i + (1 : Int32))).toNatClampNeg) M2 b9 hb9) ⟨(Nat.le_of_ble_eq_true rfl), (Nat.le_of_ble_eq_true rfl)⟩ ⟨by show k + 1 + 0 ≤ 601024; omega, by show n + 6 + 0 ≤ 7293034; omega⟩) (fun r3 M4 => ?_)
  refine zk_istore (pc := 1992) B dL_law_1992 (by decide) rfl ?_
  refine zk_aload_n (pc := 1994) B dL_law_1994 4 rfl rfl ?_
  refine zk_cpi (pc := 1995) (k' := k + 1) (n' := n + 6) B (by show _ + 0 = _; omega) (by show _ + 0 = _; omega) (by omega) (by omega) (fun b9 hb9 => zr_V B hR kV_yX12_thrown km_L_113 kx_12 (gModel_s hm) [] rfl rfl (Nat.le_of_ble_eq_true rfl) dL_law_1995 (m_Model_thrown hX hm M4 b9 hb9) ⟨(Nat.le_of_ble_eq_true rfl), (Nat.le_of_ble_eq_true rfl)⟩ ⟨by show k + 1 + 0 ≤ 601024; omega, by show n + 6 + 0 ≤ 7293034; omega⟩) (fun r5 _ => ?_)
  refine zk_iload (pc := 1998) B dL_law_1998 1 rfl ?_
  refine zk_icmp_eq (tgt := 2005) (pc := 2000) B dL_law_2000 (by decide) (fun _ => ?_) (fun _ => ?_)
  · refine zk_iload (pc := 2005) B dL_law_2005 1 rfl ?_
    refine zk_if_ne (tgt := 2022) (pc := 2007) B dL_law_2007 (by decide) (fun _ => ?_) (fun _ => ?_)
    · refine zk_goto (tgt := 2156) (pc := 2022) B dL_law_2022 (by decide) ?_
      exact zk_sub [2, 3, 4, 5, 6] rfl (zk_widen (by omega) (by omega) (kk M4))
    · refine zk_aload_n (pc := 2010) B dL_law_2010 3 rfl rfl ?_
      refine zk_iconst (v := 0) (pc := 2011) B dL_law_2011 (by decide) ?_
      refine zk_lald (pc := 2012) B ha dL_law_2012 ?_
      refine zk_iload (pc := 2013) B dL_law_2013 0 rfl ?_
      refine zk_i2l (pc := 2015) B dL_law_2015 ?_
      refine zk_lcmp (pc := 2016) B dL_law_2016 ?_
      refine zk_if_eq (tgt := 2022) (pc := 2017) B dL_law_2017 (by decide) (fun _ => ?_) (fun _ => ?_)
      · refine zk_goto (tgt := 2156) (pc := 2022) B dL_law_2022 (by decide) ?_
        exact zk_sub [2, 3, 4, 5, 6] rfl (zk_widen (by omega) (by omega) (kk M4))
      · refine zk_iconst (v := 0) (pc := 2020) B dL_law_2020 (by decide) ?_
        exact zk_iret (pc := 2021) B dL_law_2021 rfl rfl (by omega) (by omega) rfl
  · refine zk_iconst (v := 0) (pc := 2003) B dL_law_2003 (by decide) ?_
    exact zk_iret (pc := 2004) B dL_law_2004 rfl rfl (by omega) (by omega) rfl
def Fc_2025 (o L : Nat) (S : Nat → Int32) (i : Int32) (M : z_Mem) (c : z_Mem → Option (Int32 × z_Mem)) : Option (Int32 × z_Mem) :=
  (if z_inb (i + (1 : Int32)) L then (zb (F_Sys_formattedByte o (S ((i + (1 : Int32))).toNatClampNeg) M) fun r1 => (if z_inb (i + (1 : Int32)) L then (zb2 (F_Model_formattedByte (o + 548) (S ((i + (1 : Int32))).toNatClampNeg) M) fun r2 M3 => (if r1 = r2 then c M3 else some ((0 : Int32), M3))) else none)) else none)
set_option maxHeartbeats 4000000 in
set_option maxRecDepth 100000 in
theorem t_2025 {X : z_X} (hX : z_ok X) (hN : z_okN X) {G : z_Gr} {o : Nat} (hG : g_Sys G o) (hm : g_Model G (o + 548)) (ha : G.1 (o + 573) = some (.inr (2, 1))) {F : z_F} (B : z_B X F RL cL_law 9 (some .boolean)) (hR : F.2.2.1 = ({ frames := 2048, cells := 601024, slots := 7293034, locals := 84000 } : Room)) {b L : Nat} {S : Nat → Int32} (hx : va_X b L S X.2.1 X.2.1.heap) (hb : b < z_o X) {k n : Nat} (hk : k + 6 ≤ 601024) (hn : n + 36 ≤ 7293034) {b0 : Int32 × z_Mem} {c : z_Mem → Option (Int32 × z_Mem)} (i : Int32) (M : z_Mem) (kk : ∀ M1, z_K X F 9 601024 7293034 G z_cim b0 (k + 6) (n + 36) 2156 [(4, .int i), (3, .ref (o + 573)), (2, .ref (o + 548)), (1, .ref o), (0, .ref b)] [] M1 (c M1)) : z_K X F 9 601024 7293034 G z_cim b0 k n 2025 [(4, .int i), (3, .ref (o + 573)), (2, .ref (o + 548)), (1, .ref o), (0, .ref b)] [] M (Fc_2025 o L S i M c) := by
  unfold Fc_2025
  refine zk_aload_n (pc := 2025) B dL_law_2025 3 rfl rfl ?_
  refine zk_aload_n (pc := 2026) B dL_law_2026 4 rfl rfl ?_
  refine zk_iload (pc := 2027) B dL_law_2027 0 rfl ?_
  refine zk_iconst (v := 1) (pc := 2029) B dL_law_2029 (by decide) ?_
  refine zk_iadd (pc := 2030) B dL_law_2030 ?_
  refine zk_sld (pc := 2031) B hx hb dL_law_2031 ?_
  refine zk_cpi (pc := 2032) (k' := k) (n' := n) B (by show _ + 0 = _; omega) (by show _ + 0 = _; omega) (by omega) (by omega) (fun b9 hb9 => zr_V B hR kV_yX11_formattedByte km_L_209 kx_11 (gSys_s hG) [.int (S ((i + (1 : Int32))).toNatClampNeg)] rfl rfl (Nat.le_of_ble_eq_true rfl) dL_law_2032 (m_Sys_formattedByte hX hG (S ((i + (1 : Int32))).toNatClampNeg) M b9 hb9) ⟨(Nat.le_of_ble_eq_true rfl), (Nat.le_of_ble_eq_true rfl)⟩ ⟨by show k + 0 ≤ 601024; omega, by show n + 0 ≤ 7293034; omega⟩) (fun r1 _ => ?_)
  refine zk_aload_n (pc := 2035) B dL_law_2035 2 rfl rfl ?_
  refine zk_aload_n (pc := 2036) B dL_law_2036 4 rfl rfl ?_
  refine zk_iload (pc := 2037) B dL_law_2037 0 rfl ?_
  refine zk_iconst (v := 1) (pc := 2039) B dL_law_2039 (by decide) ?_
  refine zk_iadd (pc := 2040) B dL_law_2040 ?_
  refine zk_sld (pc := 2041) B hx hb dL_law_2041 ?_
  refine zk_cim (pc := 2042) (k' := k) (n' := n) B (by show _ + 0 = _; omega) (by show _ + 0 = _; omega) (by omega) (by omega) (fun b9 hb9 => zr_V B hR kV_yX12_formattedByte km_L_212 kx_12 (gModel_s hm) [.int (S ((i + (1 : Int32))).toNatClampNeg)] rfl rfl (Nat.le_of_ble_eq_true rfl) dL_law_2042 (m_Model_formattedByte hX hm (S ((i + (1 : Int32))).toNatClampNeg) M b9 hb9) ⟨(Nat.le_of_ble_eq_true rfl), (Nat.le_of_ble_eq_true rfl)⟩ ⟨by show k + 0 ≤ 601024; omega, by show n + 0 ≤ 7293034; omega⟩) (fun r2 M3 => ?_)
  refine zk_icmp_eq (tgt := 2156) (pc := 2045) B dL_law_2045 (by decide) (fun _ => ?_) (fun _ => ?_)
  · exact (zk_widen (by omega) (by omega) (kk M3))
  · refine zk_iconst (v := 0) (pc := 2048) B dL_law_2048 (by decide) ?_
    exact zk_iret (pc := 2049) B dL_law_2049 rfl rfl (by omega) (by omega) rfl
def Fc_2050 (o L : Nat) (S : Nat → Int32) (i : Int32) (M : z_Mem) (c : z_Mem → Option (Int32 × z_Mem)) : Option (Int32 × z_Mem) :=
  (zb (F_Sys_undoCount o M) fun r1 => (zb2 (F_Model_undoCount (o + 548) M) fun r2 M3 => (if r1 = r2 then c M3 else some ((0 : Int32), M3))))
set_option maxHeartbeats 4000000 in
set_option maxRecDepth 100000 in
theorem t_2050 {X : z_X} (hX : z_ok X) (hN : z_okN X) {G : z_Gr} {o : Nat} (hG : g_Sys G o) (hm : g_Model G (o + 548)) (ha : G.1 (o + 573) = some (.inr (2, 1))) {F : z_F} (B : z_B X F RL cL_law 9 (some .boolean)) (hR : F.2.2.1 = ({ frames := 2048, cells := 601024, slots := 7293034, locals := 84000 } : Room)) {b L : Nat} {S : Nat → Int32} (hx : va_X b L S X.2.1 X.2.1.heap) (hb : b < z_o X) {k n : Nat} (hk : k + 6 ≤ 601024) (hn : n + 36 ≤ 7293034) {b0 : Int32 × z_Mem} {c : z_Mem → Option (Int32 × z_Mem)} (i : Int32) (M : z_Mem) (kk : ∀ M1, z_K X F 9 601024 7293034 G z_cim b0 (k + 6) (n + 36) 2156 [(4, .int i), (3, .ref (o + 573)), (2, .ref (o + 548)), (1, .ref o), (0, .ref b)] [] M1 (c M1)) : z_K X F 9 601024 7293034 G z_cim b0 k n 2050 [(4, .int i), (3, .ref (o + 573)), (2, .ref (o + 548)), (1, .ref o), (0, .ref b)] [] M (Fc_2050 o L S i M c) := by
  unfold Fc_2050
  refine zk_aload_n (pc := 2050) B dL_law_2050 3 rfl rfl ?_
  refine zk_cpi (pc := 2051) (k' := k) (n' := n) B (by show _ + 0 = _; omega) (by show _ + 0 = _; omega) (by omega) (by omega) (fun b9 hb9 => zr_V B hR kV_yX11_undoCount km_L_213 kx_11 (gSys_s hG) [] rfl rfl (Nat.le_of_ble_eq_true rfl) dL_law_2051 (m_Sys_undoCount hX hG M b9 hb9) ⟨(Nat.le_of_ble_eq_true rfl), (Nat.le_of_ble_eq_true rfl)⟩ ⟨by show k + 0 ≤ 601024; omega, by show n + 0 ≤ 7293034; omega⟩) (fun r1 _ => ?_)
  refine zk_aload_n (pc := 2054) B dL_law_2054 2 rfl rfl ?_
  refine zk_cim (pc := 2055) (k' := k) (n' := n) B (by show _ + 0 = _; omega) (by show _ + 0 = _; omega) (by omega) (by omega) (fun b9 hb9 => zr_V B hR kV_yX12_undoCount km_L_216 kx_12 (gModel_s hm) [] rfl rfl (Nat.le_of_ble_eq_true rfl) dL_law_2055 (m_Model_undoCount hX hm M b9 hb9) ⟨(Nat.le_of_ble_eq_true rfl), (Nat.le_of_ble_eq_true rfl)⟩ ⟨by show k + 0 ≤ 601024; omega, by show n + 0 ≤ 7293034; omega⟩) (fun r2 M3 => ?_)
  refine zk_icmp_eq (tgt := 2156) (pc := 2058) B dL_law_2058 (by decide) (fun _ => ?_) (fun _ => ?_)
  · exact (zk_widen (by omega) (by omega) (kk M3))
  · refine zk_iconst (v := 0) (pc := 2061) B dL_law_2061 (by decide) ?_
    exact zk_iret (pc := 2062) B dL_law_2062 rfl rfl (by omega) (by omega) rfl
def Fc_2063 (o L : Nat) (S : Nat → Int32) (i : Int32) (M : z_Mem) (c : z_Mem → Option (Int32 × z_Mem)) : Option (Int32 × z_Mem) :=
  (zb2 (F_Sys_undo o M) fun r1 M2 => (zb2 (F_Model_undo (o + 548) M2) fun r3 M4 => (if r1 = r3 then c M4 else some ((0 : Int32), M4))))
set_option maxHeartbeats 4000000 in
set_option maxRecDepth 100000 in
theorem t_2063 {X : z_X} (hX : z_ok X) (hN : z_okN X) {G : z_Gr} {o : Nat} (hG : g_Sys G o) (hm : g_Model G (o + 548)) (ha : G.1 (o + 573) = some (.inr (2, 1))) {F : z_F} (B : z_B X F RL cL_law 9 (some .boolean)) (hR : F.2.2.1 = ({ frames := 2048, cells := 601024, slots := 7293034, locals := 84000 } : Room)) {b L : Nat} {S : Nat → Int32} (hx : va_X b L S X.2.1 X.2.1.heap) (hb : b < z_o X) {k n : Nat} (hk : k + 6 ≤ 601024) (hn : n + 36 ≤ 7293034) {b0 : Int32 × z_Mem} {c : z_Mem → Option (Int32 × z_Mem)} (i : Int32) (M : z_Mem) (kk : ∀ M1, z_K X F 9 601024 7293034 G z_cim b0 (k + 6) (n + 36) 2156 [(4, .int i), (3, .ref (o + 573)), (2, .ref (o + 548)), (1, .ref o), (0, .ref b)] [] M1 (c M1)) : z_K X F 9 601024 7293034 G z_cim b0 k n 2063 [(4, .int i), (3, .ref (o + 573)), (2, .ref (o + 548)), (1, .ref o), (0, .ref b)] [] M (Fc_2063 o L S i M c) := by
  unfold Fc_2063
  refine zk_aload_n (pc := 2063) B dL_law_2063 3 rfl rfl ?_
  refine zk_cim (pc := 2064) (k' := k) (n' := n) B (by show _ + 0 = _; omega) (by show _ + 0 = _; omega) (by omega) (by omega) (fun b9 hb9 => zr_V B hR kV_yX11_undo km_L_217 kx_11 (gSys_s hG) [] rfl rfl (Nat.le_of_ble_eq_true rfl) dL_law_2064 (m_Sys_undo hX hG M b9 hb9) ⟨(Nat.le_of_ble_eq_true rfl), (Nat.le_of_ble_eq_true rfl)⟩ ⟨by show k + 0 ≤ 601024; omega, by show n + 0 ≤ 7293034; omega⟩) (fun r1 M2 => ?_)
  refine zk_aload_n (pc := 2067) B dL_law_2067 2 rfl rfl ?_
  refine zk_cim (pc := 2068) (k' := k) (n' := n) B (by show _ + 0 = _; omega) (by show _ + 0 = _; omega) (by omega) (by omega) (fun b9 hb9 => zr_V B hR kV_yX12_undo km_L_220 kx_12 (gModel_s hm) [] rfl rfl (Nat.le_of_ble_eq_true rfl) dL_law_2068 (m_Model_undo hX hm M2 b9 hb9) ⟨(Nat.le_of_ble_eq_true rfl), (Nat.le_of_ble_eq_true rfl)⟩ ⟨by show k + 0 ≤ 601024; omega, by show n + 0 ≤ 7293034; omega⟩) (fun r3 M4 => ?_)
  refine zk_icmp_eq (tgt := 2156) (pc := 2071) B dL_law_2071 (by decide) (fun _ => ?_) (fun _ => ?_)
  · exact (zk_widen (by omega) (by omega) (kk M4))
  · refine zk_iconst (v := 0) (pc := 2074) B dL_law_2074 (by decide) ?_
    exact zk_iret (pc := 2075) B dL_law_2075 rfl rfl (by omega) (by omega) rfl
def Fc_2076 (o L : Nat) (S : Nat → Int32) (i : Int32) (M : z_Mem) (c : z_Mem → Option (Int32 × z_Mem)) : Option (Int32 × z_Mem) :=
  (zb (F_Sys_saveSnapshot o M) fun M1 => (zb (F_Model_saveSnapshot (o + 548) M1) fun M2 => c M2))
set_option maxHeartbeats 4000000 in
set_option maxRecDepth 100000 in
theorem t_2076 {X : z_X} (hX : z_ok X) (hN : z_okN X) {G : z_Gr} {o : Nat} (hG : g_Sys G o) (hm : g_Model G (o + 548)) (ha : G.1 (o + 573) = some (.inr (2, 1))) {F : z_F} (B : z_B X F RL cL_law 9 (some .boolean)) (hR : F.2.2.1 = ({ frames := 2048, cells := 601024, slots := 7293034, locals := 84000 } : Room)) {b L : Nat} {S : Nat → Int32} (hx : va_X b L S X.2.1 X.2.1.heap) (hb : b < z_o X) {k n : Nat} (hk : k + 6 ≤ 601024) (hn : n + 36 ≤ 7293034) {b0 : Int32 × z_Mem} {c : z_Mem → Option (Int32 × z_Mem)} (i : Int32) (M : z_Mem) (kk : ∀ M1, z_K X F 9 601024 7293034 G z_cim b0 (k + 6) (n + 36) 2156 [(4, .int i), (3, .ref (o + 573)), (2, .ref (o + 548)), (1, .ref o), (0, .ref b)] [] M1 (c M1)) : z_K X F 9 601024 7293034 G z_cim b0 k n 2076 [(4, .int i), (3, .ref (o + 573)), (2, .ref (o + 548)), (1, .ref o), (0, .ref b)] [] M (Fc_2076 o L S i M c) := by
  unfold Fc_2076
  refine zk_aload_n (pc := 2076) B dL_law_2076 3 rfl rfl ?_
  refine zk_cvm (pc := 2077) (k' := k) (n' := n) B (by show _ + 0 = _; omega) (by show _ + 0 = _; omega) (by omega) (by omega) (fun b9 hb9 => zr_V B hR kV_yX11_saveSnapshot km_L_221 kx_11 (gSys_s hG) [] rfl rfl (Nat.le_of_ble_eq_true rfl) dL_law_2077 (m_Sys_saveSnapshot hX hG M b9 hb9) ⟨(Nat.le_of_ble_eq_true rfl), (Nat.le_of_ble_eq_true rfl)⟩ ⟨by show k + 0 ≤ 601024; omega, by show n + 0 ≤ 7293034; omega⟩) (fun M1 => ?_)
  refine zk_aload_n (pc := 2080) B dL_law_2080 2 rfl rfl ?_
  refine zk_cvm (pc := 2081) (k' := k) (n' := n) B (by show _ + 0 = _; omega) (by show _ + 0 = _; omega) (by omega) (by omega) (fun b9 hb9 => zr_V B hR kV_yX12_saveSnapshot km_L_224 kx_12 (gModel_s hm) [] rfl rfl (Nat.le_of_ble_eq_true rfl) dL_law_2081 (m_Model_saveSnapshot hX hm M1 b9 hb9) ⟨(Nat.le_of_ble_eq_true rfl), (Nat.le_of_ble_eq_true rfl)⟩ ⟨by show k + 0 ≤ 601024; omega, by show n + 0 ≤ 7293034; omega⟩) (fun M2 => ?_)
  refine zk_goto (tgt := 2156) (pc := 2084) B dL_law_2084 (by decide) ?_
  exact (zk_widen (by omega) (by omega) (kk M2))
def Fc_2087 (o L : Nat) (S : Nat → Int32) (i : Int32) (M : z_Mem) (c : z_Mem → Option (Int32 × z_Mem)) : Option (Int32 × z_Mem) :=
  (zb2 (F_Sys_restoreSnapshot o M) fun r1 M2 => (zb2 (F_Model_restoreSnapshot (o + 548) M2) fun r3 M4 => (if r1 = r3 then c M4 else some ((0 : Int32), M4))))
set_option maxHeartbeats 4000000 in
set_option maxRecDepth 100000 in
theorem t_2087 {X : z_X} (hX : z_ok X) (hN : z_okN X) {G : z_Gr} {o : Nat} (hG : g_Sys G o) (hm : g_Model G (o + 548)) (ha : G.1 (o + 573) = some (.inr (2, 1))) {F : z_F} (B : z_B X F RL cL_law 9 (some .boolean)) (hR : F.2.2.1 = ({ frames := 2048, cells := 601024, slots := 7293034, locals := 84000 } : Room)) {b L : Nat} {S : Nat → Int32} (hx : va_X b L S X.2.1 X.2.1.heap) (hb : b < z_o X) {k n : Nat} (hk : k + 6 ≤ 601024) (hn : n + 36 ≤ 7293034) {b0 : Int32 × z_Mem} {c : z_Mem → Option (Int32 × z_Mem)} (i : Int32) (M : z_Mem) (kk : ∀ M1, z_K X F 9 601024 7293034 G z_cim b0 (k + 6) (n + 36) 2156 [(4, .int i), (3, .ref (o + 573)), (2, .ref (o + 548)), (1, .ref o), (0, .ref b)] [] M1 (c M1)) : z_K X F 9 601024 7293034 G z_cim b0 k n 2087 [(4, .int i), (3, .ref (o + 573)), (2, .ref (o + 548)), (1, .ref o), (0, .ref b)] [] M (Fc_2087 o L S i M c) := by
  unfold Fc_2087
  refine zk_aload_n (pc := 2087) B dL_law_2087 3 rfl rfl ?_
  refine zk_cim (pc := 2088) (k' := k) (n' := n) B (by show _ + 0 = _; omega) (by show _ + 0 = _; omega) (by omega) (by omega) (fun b9 hb9 => zr_V B hR kV_yX11_restoreSnapshot km_L_225 kx_11 (gSys_s hG) [] rfl rfl (Nat.le_of_ble_eq_true rfl) dL_law_2088 (m_Sys_restoreSnapshot hX hG M b9 hb9) ⟨(Nat.le_of_ble_eq_true rfl), (Nat.le_of_ble_eq_true rfl)⟩ ⟨by show k + 0 ≤ 601024; omega, by show n + 0 ≤ 7293034; omega⟩) (fun r1 M2 => ?_)
  refine zk_aload_n (pc := 2091) B dL_law_2091 2 rfl rfl ?_
  refine zk_cim (pc := 2092) (k' := k) (n' := n) B (by show _ + 0 = _; omega) (by show _ + 0 = _; omega) (by omega) (by omega) (fun b9 hb9 => zr_V B hR kV_yX12_restoreSnapshot km_L_229 kx_12 (gModel_s hm) [] rfl rfl (Nat.le_of_ble_eq_true rfl) dL_law_2092 (m_Model_restoreSnapshot hX hm M2 b9 hb9) ⟨(Nat.le_of_ble_eq_true rfl), (Nat.le_of_ble_eq_true rfl)⟩ ⟨by show k + 0 ≤ 601024; omega, by show n + 0 ≤ 7293034; omega⟩) (fun r3 M4 => ?_)
  refine zk_icmp_eq (tgt := 2156) (pc := 2095) B dL_law_2095 (by decide) (fun _ => ?_) (fun _ => ?_)
  · exact (zk_widen (by omega) (by omega) (kk M4))
  · refine zk_iconst (v := 0) (pc := 2098) B dL_law_2098 (by decide) ?_
    exact zk_iret (pc := 2099) B dL_law_2099 rfl rfl (by omega) (by omega) rfl
def Fc_2100 (o L : Nat) (S : Nat → Int32) (i : Int32) (M : z_Mem) (c : z_Mem → Option (Int32 × z_Mem)) : Option (Int32 × z_Mem) :=
  (if z_inb (i + (1 : Int32)) L then (zb2 (F_LW_query o (o + 573) (S ((i + (1 : Int32))).toNatClampNeg) M) fun r1 M2 => (if z_inb (i + (1 : Int32)) L then (zb2 (F_Model_query (o + 548) (S ((i + (1 : Int32))).toNatClampNeg) M2) fun r3 M4 => (zb (F_Model_thrown (o + 548) M4) fun r5 => (if r5 = r1 then (if r1 = 0 then (if z_inb (0 : Int32) 1 then (if (lg_cmp (M4.2 (o + 573) ((0 : Int32)).toNatClampNeg) (r3).toInt64) = 0 then c M4 else some ((0 : Int32), M4)) else none) else c M4) else some ((0 : Int32), M4)))) else none)) else none)
set_option maxHeartbeats 4000000 in
set_option maxRecDepth 100000 in
theorem t_2100 {X : z_X} (hX : z_ok X) (hN : z_okN X) {G : z_Gr} {o : Nat} (hG : g_Sys G o) (hm : g_Model G (o + 548)) (ha : G.1 (o + 573) = some (.inr (2, 1))) {F : z_F} (B : z_B X F RL cL_law 9 (some .boolean)) (hR : F.2.2.1 = ({ frames := 2048, cells := 601024, slots := 7293034, locals := 84000 } : Room)) {b L : Nat} {S : Nat → Int32} (hx : va_X b L S X.2.1 X.2.1.heap) (hb : b < z_o X) {k n : Nat} (hk : k + 6 ≤ 601024) (hn : n + 36 ≤ 7293034) {b0 : Int32 × z_Mem} {c : z_Mem → Option (Int32 × z_Mem)} (i : Int32) (M : z_Mem) (kk : ∀ M1, z_K X F 9 601024 7293034 G z_cim b0 (k + 6) (n + 36) 2156 [(4, .int i), (3, .ref (o + 573)), (2, .ref (o + 548)), (1, .ref o), (0, .ref b)] [] M1 (c M1)) : z_K X F 9 601024 7293034 G z_cim b0 k n 2100 [(4, .int i), (3, .ref (o + 573)), (2, .ref (o + 548)), (1, .ref o), (0, .ref b)] [] M (Fc_2100 o L S i M c) := by
  unfold Fc_2100
  refine zk_aload_n (pc := 2100) B dL_law_2100 3 rfl rfl ?_
  refine zk_aload_n (pc := 2101) B dL_law_2101 4 rfl rfl ?_
  refine zk_iload (pc := 2102) B dL_law_2102 0 rfl ?_
  refine zk_iconst (v := 1) (pc := 2104) B dL_law_2104 (by decide) ?_
  refine zk_iadd (pc := 2105) B dL_law_2105 ?_
  refine zk_sld (pc := 2106) B hx hb dL_law_2106 ?_
  refine zk_aload_n (pc := 2107) B dL_law_2107 1 rfl rfl ?_
  refine zk_cim (pc := 2108) (k' := k + 1) (n' := n + 6) B (by show _ + 1 = _; omega) (by show _ + 6 = _; omega) (by omega) (by omega) (fun b9 hb9 => zr_W B hR kW_query km_L_230 [.ref o, .int (S ((i + (1 : Int32))).toNatClampNeg), .ref (o + 573)] rfl rfl (Nat.le_of_ble_eq_true rfl) dL_law_2108 (w_query hX hN hG ha (S ((i + (1 : Int32))).toNatClampNeg) M b9 hb9) ⟨(Nat.le_of_ble_eq_true rfl), (Nat.le_of_ble_eq_true rfl)⟩ ⟨by show k + 1 ≤ 601024; omega, by show n + 6 ≤ 7293034; omega⟩) (fun r1 M2 => ?_)
  refine zk_istore (pc := 2111) B dL_law_2111 (by decide) rfl ?_
  refine zk_aload_n (pc := 2113) B dL_law_2113 3 rfl rfl ?_
  refine zk_aload_n (pc := 2114) B dL_law_2114 5 rfl rfl ?_
  refine zk_iload (pc := 2115) B dL_law_2115 1 rfl ?_
  refine zk_iconst (v := 1) (pc := 2117) B dL_law_2117 (by decide) ?_
  refine zk_iadd (pc := 2118) B dL_law_2118 ?_
  refine zk_sld (pc := 2119) B hx hb dL_law_2119 ?_
  refine zk_cim (pc := 2120) (k' := k + 1) (n' := n + 6) B (by show _ + 0 = _; omega) (by show _ + 0 = _; omega) (by omega) (by omega) (fun b9 hb9 => zr_V B hR kV_yX12_query km_L_232 kx_12 (gModel_s hm) [.int (S ((i + (1 : Int32))).toNatClampNeg)] rfl rfl (Nat.le_of_ble_eq_true rfl) dL_law_2120 (m_Model_query hX hm (S ((i + (1 : Int32))).toNatClampNeg) M2 b9 hb9) ⟨(Nat.le_of_ble_eq_true rfl), (Nat.le_of_ble_eq_true rfl)⟩ ⟨by show k + 1 + 0 ≤ 601024; omega, by show n + 6 + 0 ≤ 7293034; omega⟩) (fun r3 M4 => ?_)
  refine zk_istore (pc := 2123) B dL_law_2123 (by decide) rfl ?_
  refine zk_aload_n (pc := 2125) B dL_law_2125 4 rfl rfl ?_
  refine zk_cpi (pc := 2126) (k' := k + 1) (n' := n + 6) B (by show _ + 0 = _; omega) (by show _ + 0 = _; omega) (by omega) (by omega) (fun b9 hb9 => zr_V B hR kV_yX12_thrown km_L_113 kx_12 (gModel_s hm) [] rfl rfl (Nat.le_of_ble_eq_true rfl) dL_law_2126 (m_Model_thrown hX hm M4 b9 hb9) ⟨(Nat.le_of_ble_eq_true rfl), (Nat.le_of_ble_eq_true rfl)⟩ ⟨by show k + 1 + 0 ≤ 601024; omega, by show n + 6 + 0 ≤ 7293034; omega⟩) (fun r5 _ => ?_)
  refine zk_iload (pc := 2129) B dL_law_2129 1 rfl ?_
  refine zk_icmp_eq (tgt := 2136) (pc := 2131) B dL_law_2131 (by decide) (fun _ => ?_) (fun _ => ?_)
  · refine zk_iload (pc := 2136) B dL_law_2136 1 rfl ?_
    refine zk_if_ne (tgt := 2153) (pc := 2138) B dL_law_2138 (by decide) (fun _ => ?_) (fun _ => ?_)
    · refine zk_goto (tgt := 2156) (pc := 2153) B dL_law_2153 (by decide) ?_
      exact zk_sub [2, 3, 4, 5, 6] rfl (zk_widen (by omega) (by omega) (kk M4))
    · refine zk_aload_n (pc := 2141) B dL_law_2141 3 rfl rfl ?_
      refine zk_iconst (v := 0) (pc := 2142) B dL_law_2142 (by decide) ?_
      refine zk_lald (pc := 2143) B ha dL_law_2143 ?_
      refine zk_iload (pc := 2144) B dL_law_2144 0 rfl ?_
      refine zk_i2l (pc := 2146) B dL_law_2146 ?_
      refine zk_lcmp (pc := 2147) B dL_law_2147 ?_
      refine zk_if_eq (tgt := 2153) (pc := 2148) B dL_law_2148 (by decide) (fun _ => ?_) (fun _ => ?_)
      · refine zk_goto (tgt := 2156) (pc := 2153) B dL_law_2153 (by decide) ?_
        exact zk_sub [2, 3, 4, 5, 6] rfl (zk_widen (by omega) (by omega) (kk M4))
      · refine zk_iconst (v := 0) (pc := 2151) B dL_law_2151 (by decide) ?_
        exact zk_iret (pc := 2152) B dL_law_2152 rfl rfl (by omega) (by omega) rfl
  · refine zk_iconst (v := 0) (pc := 2134) B dL_law_2134 (by decide) ?_
    exact zk_iret (pc := 2135) B dL_law_2135 rfl rfl (by omega) (by omega) rfl
def F_law_C (o L : Nat) (S : Nat → Int32) (i : Int32) (z : Int32) (M : z_Mem) (c : z_Mem → Option (Int32 × z_Mem)) : Option (Int32 × z_Mem) :=
  if z = 0 then Fc_200 o L S i M c else if z = 1 then Fc_273 o L S i M c else if z = 2 then Fc_329 o L S i M c else if z = 3 then Fc_342 o L S i M c else if z = 4 then Fc_398 o L S i M c else if z = 5 then Fc_454 o L S i M c else if z = 6 then Fc_522 o L S i M c else if z = 7 then Fc_590 o L S i M c else if z = 8 then Fc_658 o L S i M c else if z = 9 then Fc_738 o L S i M c else if z = 10 then Fc_806 o L S i M c else if z = 11 then Fc_874 o L S i M c else if z = 12 then Fc_942 o L S i M c else if z = 13 then Fc_998 o L S i M c else if z = 14 then Fc_1066 o L S i M c else if z = 15 then Fc_1129 o L S i M c else if z = 16 then Fc_1185 o L S i M c else if z = 17 then Fc_1241 o L S i M c else if z = 18 then Fc_1282 o L S i M c else if z = 19 then Fc_1325 o L S i M c else if z = 20 then Fc_1429 o L S i M c else if z = 21 then Fc_1485 o L S i M c else if z = 22 then Fc_1541 o L S i M c else if z = 23 then Fc_1597 o L S i M c else if z = 24 then Fc_1653 o L S i M c else if z = 25 then Fc_1709 o L S i M c else if z = 26 then Fc_1777 o L S i M c else if z = 27 then Fc_1833 o L S i M c else if z = 28 then Fc_1901 o L S i M c else if z = 29 then Fc_1969 o L S i M c else if z = 30 then Fc_2025 o L S i M c else if z = 31 then Fc_2050 o L S i M c else if z = 32 then Fc_2063 o L S i M c else if z = 33 then Fc_2076 o L S i M c else if z = 34 then Fc_2087 o L S i M c else if z = 35 then Fc_2100 o L S i M c else c M
def F_law_L (o L : Nat) (S : Nat → Int32) : Nat → Int32 → z_Mem → Option (Int32 × z_Mem)
  | 0, _, _ => none
  | f + 1, i, M => if Int32.ofNat L - 6 < i then some (1, M) else if z_inb i L then F_law_C o L S i (S i.toNatClampNeg &&& 63) M (fun M1 => zl (i + 6) fun v => F_law_L o L S f v M1) else none
set_option maxHeartbeats 4000000 in
set_option maxRecDepth 100000 in
theorem t_cases {X : z_X} (hX : z_ok X) (hN : z_okN X) {G : z_Gr} {o : Nat} (hG : g_Sys G o) (hm : g_Model G (o + 548)) (ha : G.1 (o + 573) = some (.inr (2, 1))) {F : z_F} (B : z_B X F RL cL_law 9 (some .boolean)) (hR : F.2.2.1 = ({ frames := 2048, cells := 601024, slots := 7293034, locals := 84000 } : Room)) {b L : Nat} {S : Nat → Int32} (hx : va_X b L S X.2.1 X.2.1.heap) (hb : b < z_o X) {k n : Nat} (hk : k + 6 ≤ 601024) (hn : n + 36 ≤ 7293034) {b0 : Int32 × z_Mem} {c : z_Mem → Option (Int32 × z_Mem)} (i z : Int32) (M : z_Mem) (kk : ∀ M1, z_K X F 9 601024 7293034 G z_cim b0 (k + 6) (n + 36) 2156 [(4, .int i), (3, .ref (o + 573)), (2, .ref (o + 548)), (1, .ref o), (0, .ref b)] [] M1 (c M1)) : z_K X F 9 601024 7293034 G z_cim b0 k n 40 [(4, .int i), (3, .ref (o + 573)), (2, .ref (o + 548)), (1, .ref o), (0, .ref b)] [.int z] M (F_law_C o L S i z M c) := by
  unfold F_law_C
  refine zk_if (fun hs => zk_tin (v := 0) (tgt := 200) (pc := 40) B dL_law_40 hs (by decide) (by decide) rfl (by decide) (t_200 hX hN hG hm ha B hR hx hb hk hn i M kk)) (fun hq_0 => ?_)
  refine zk_if (fun hs => zk_tin (v := 1) (tgt := 273) (pc := 40) B dL_law_40 hs (by decide) (by decide) rfl (by decide) (t_273 hX hN hG hm ha B hR hx hb hk hn i M kk)) (fun hq_1 => ?_)
  refine zk_if (fun hs => zk_tin (v := 2) (tgt := 329) (pc := 40) B dL_law_40 hs (by decide) (by decide) rfl (by decide) (t_329 hX hN hG hm ha B hR hx hb hk hn i M kk)) (fun hq_2 => ?_)
  refine zk_if (fun hs => zk_tin (v := 3) (tgt := 342) (pc := 40) B dL_law_40 hs (by decide) (by decide) rfl (by decide) (t_342 hX hN hG hm ha B hR hx hb hk hn i M kk)) (fun hq_3 => ?_)
  refine zk_if (fun hs => zk_tin (v := 4) (tgt := 398) (pc := 40) B dL_law_40 hs (by decide) (by decide) rfl (by decide) (t_398 hX hN hG hm ha B hR hx hb hk hn i M kk)) (fun hq_4 => ?_)
  refine zk_if (fun hs => zk_tin (v := 5) (tgt := 454) (pc := 40) B dL_law_40 hs (by decide) (by decide) rfl (by decide) (t_454 hX hN hG hm ha B hR hx hb hk hn i M kk)) (fun hq_5 => ?_)
  refine zk_if (fun hs => zk_tin (v := 6) (tgt := 522) (pc := 40) B dL_law_40 hs (by decide) (by decide) rfl (by decide) (t_522 hX hN hG hm ha B hR hx hb hk hn i M kk)) (fun hq_6 => ?_)
  refine zk_if (fun hs => zk_tin (v := 7) (tgt := 590) (pc := 40) B dL_law_40 hs (by decide) (by decide) rfl (by decide) (t_590 hX hN hG hm ha B hR hx hb hk hn i M kk)) (fun hq_7 => ?_)
  refine zk_if (fun hs => zk_tin (v := 8) (tgt := 658) (pc := 40) B dL_law_40 hs (by decide) (by decide) rfl (by decide) (t_658 hX hN hG hm ha B hR hx hb hk hn i M kk)) (fun hq_8 => ?_)
  refine zk_if (fun hs => zk_tin (v := 9) (tgt := 738) (pc := 40) B dL_law_40 hs (by decide) (by decide) rfl (by decide) (t_738 hX hN hG hm ha B hR hx hb hk hn i M kk)) (fun hq_9 => ?_)
  refine zk_if (fun hs => zk_tin (v := 10) (tgt := 806) (pc := 40) B dL_law_40 hs (by decide) (by decide) rfl (by decide) (t_806 hX hN hG hm ha B hR hx hb hk hn i M kk)) (fun hq_10 => ?_)
  refine zk_if (fun hs => zk_tin (v := 11) (tgt := 874) (pc := 40) B dL_law_40 hs (by decide) (by decide) rfl (by decide) (t_874 hX hN hG hm ha B hR hx hb hk hn i M kk)) (fun hq_11 => ?_)
  refine zk_if (fun hs => zk_tin (v := 12) (tgt := 942) (pc := 40) B dL_law_40 hs (by decide) (by decide) rfl (by decide) (t_942 hX hN hG hm ha B hR hx hb hk hn i M kk)) (fun hq_12 => ?_)
  refine zk_if (fun hs => zk_tin (v := 13) (tgt := 998) (pc := 40) B dL_law_40 hs (by decide) (by decide) rfl (by decide) (t_998 hX hN hG hm ha B hR hx hb hk hn i M kk)) (fun hq_13 => ?_)
  refine zk_if (fun hs => zk_tin (v := 14) (tgt := 1066) (pc := 40) B dL_law_40 hs (by decide) (by decide) rfl (by decide) (t_1066 hX hN hG hm ha B hR hx hb hk hn i M kk)) (fun hq_14 => ?_)
  refine zk_if (fun hs => zk_tin (v := 15) (tgt := 1129) (pc := 40) B dL_law_40 hs (by decide) (by decide) rfl (by decide) (t_1129 hX hN hG hm ha B hR hx hb hk hn i M kk)) (fun hq_15 => ?_)
  refine zk_if (fun hs => zk_tin (v := 16) (tgt := 1185) (pc := 40) B dL_law_40 hs (by decide) (by decide) rfl (by decide) (t_1185 hX hN hG hm ha B hR hx hb hk hn i M kk)) (fun hq_16 => ?_)
  refine zk_if (fun hs => zk_tin (v := 17) (tgt := 1241) (pc := 40) B dL_law_40 hs (by decide) (by decide) rfl (by decide) (t_1241 hX hN hG hm ha B hR hx hb hk hn i M kk)) (fun hq_17 => ?_)
  refine zk_if (fun hs => zk_tin (v := 18) (tgt := 1282) (pc := 40) B dL_law_40 hs (by decide) (by decide) rfl (by decide) (t_1282 hX hN hG hm ha B hR hx hb hk hn i M kk)) (fun hq_18 => ?_)
  refine zk_if (fun hs => zk_tin (v := 19) (tgt := 1325) (pc := 40) B dL_law_40 hs (by decide) (by decide) rfl (by decide) (t_1325 hX hN hG hm ha B hR hx hb hk hn i M kk)) (fun hq_19 => ?_)
  refine zk_if (fun hs => zk_tin (v := 20) (tgt := 1429) (pc := 40) B dL_law_40 hs (by decide) (by decide) rfl (by decide) (t_1429 hX hN hG hm ha B hR hx hb hk hn i M kk)) (fun hq_20 => ?_)
  refine zk_if (fun hs => zk_tin (v := 21) (tgt := 1485) (pc := 40) B dL_law_40 hs (by decide) (by decide) rfl (by decide) (t_1485 hX hN hG hm ha B hR hx hb hk hn i M kk)) (fun hq_21 => ?_)
  refine zk_if (fun hs => zk_tin (v := 22) (tgt := 1541) (pc := 40) B dL_law_40 hs (by decide) (by decide) rfl (by decide) (t_1541 hX hN hG hm ha B hR hx hb hk hn i M kk)) (fun hq_22 => ?_)
  refine zk_if (fun hs => zk_tin (v := 23) (tgt := 1597) (pc := 40) B dL_law_40 hs (by decide) (by decide) rfl (by decide) (t_1597 hX hN hG hm ha B hR hx hb hk hn i M kk)) (fun hq_23 => ?_)
  refine zk_if (fun hs => zk_tin (v := 24) (tgt := 1653) (pc := 40) B dL_law_40 hs (by decide) (by decide) rfl (by decide) (t_1653 hX hN hG hm ha B hR hx hb hk hn i M kk)) (fun hq_24 => ?_)
  refine zk_if (fun hs => zk_tin (v := 25) (tgt := 1709) (pc := 40) B dL_law_40 hs (by decide) (by decide) rfl (by decide) (t_1709 hX hN hG hm ha B hR hx hb hk hn i M kk)) (fun hq_25 => ?_)
  refine zk_if (fun hs => zk_tin (v := 26) (tgt := 1777) (pc := 40) B dL_law_40 hs (by decide) (by decide) rfl (by decide) (t_1777 hX hN hG hm ha B hR hx hb hk hn i M kk)) (fun hq_26 => ?_)
  refine zk_if (fun hs => zk_tin (v := 27) (tgt := 1833) (pc := 40) B dL_law_40 hs (by decide) (by decide) rfl (by decide) (t_1833 hX hN hG hm ha B hR hx hb hk hn i M kk)) (fun hq_27 => ?_)
  refine zk_if (fun hs => zk_tin (v := 28) (tgt := 1901) (pc := 40) B dL_law_40 hs (by decide) (by decide) rfl (by decide) (t_1901 hX hN hG hm ha B hR hx hb hk hn i M kk)) (fun hq_28 => ?_)
  refine zk_if (fun hs => zk_tin (v := 29) (tgt := 1969) (pc := 40) B dL_law_40 hs (by decide) (by decide) rfl (by decide) (t_1969 hX hN hG hm ha B hR hx hb hk hn i M kk)) (fun hq_29 => ?_)
  refine zk_if (fun hs => zk_tin (v := 30) (tgt := 2025) (pc := 40) B dL_law_40 hs (by decide) (by decide) rfl (by decide) (t_2025 hX hN hG hm ha B hR hx hb hk hn i M kk)) (fun hq_30 => ?_)
  refine zk_if (fun hs => zk_tin (v := 31) (tgt := 2050) (pc := 40) B dL_law_40 hs (by decide) (by decide) rfl (by decide) (t_2050 hX hN hG hm ha B hR hx hb hk hn i M kk)) (fun hq_31 => ?_)
  refine zk_if (fun hs => zk_tin (v := 32) (tgt := 2063) (pc := 40) B dL_law_40 hs (by decide) (by decide) rfl (by decide) (t_2063 hX hN hG hm ha B hR hx hb hk hn i M kk)) (fun hq_32 => ?_)
  refine zk_if (fun hs => zk_tin (v := 33) (tgt := 2076) (pc := 40) B dL_law_40 hs (by decide) (by decide) rfl (by decide) (t_2076 hX hN hG hm ha B hR hx hb hk hn i M kk)) (fun hq_33 => ?_)
  refine zk_if (fun hs => zk_tin (v := 34) (tgt := 2087) (pc := 40) B dL_law_40 hs (by decide) (by decide) rfl (by decide) (t_2087 hX hN hG hm ha B hR hx hb hk hn i M kk)) (fun hq_34 => ?_)
  refine zk_if (fun hs => zk_tin (v := 35) (tgt := 2100) (pc := 40) B dL_law_40 hs (by decide) (by decide) rfl (by decide) (t_2100 hX hN hG hm ha B hR hx hb hk hn i M kk)) (fun hq_35 => ?_)
  exact zk_tout (pc := 40) (tgt := 2156) B dL_law_40 (by have q0 := z_ne hq_0 (z := 0) (by decide); have q1 := z_ne hq_1 (z := 1) (by decide); have q2 := z_ne hq_2 (z := 2) (by decide); have q3 := z_ne hq_3 (z := 3) (by decide); have q4 := z_ne hq_4 (z := 4) (by decide); have q5 := z_ne hq_5 (z := 5) (by decide); have q6 := z_ne hq_6 (z := 6) (by decide); have q7 := z_ne hq_7 (z := 7) (by decide); have q8 := z_ne hq_8 (z := 8) (by decide); have q9 := z_ne hq_9 (z := 9) (by decide); have q10 := z_ne hq_10 (z := 10) (by decide); have q11 := z_ne hq_11 (z := 11) (by decide); have q12 := z_ne hq_12 (z := 12) (by decide); have q13 := z_ne hq_13 (z := 13) (by decide); have q14 := z_ne hq_14 (z := 14) (by decide); have q15 := z_ne hq_15 (z := 15) (by decide); have q16 := z_ne hq_16 (z := 16) (by decide); have q17 := z_ne hq_17 (z := 17) (by decide); have q18 := z_ne hq_18 (z := 18) (by decide); have q19 := z_ne hq_19 (z := 19) (by decide); have q20 := z_ne hq_20 (z := 20) (by decide); have q21 := z_ne hq_21 (z := 21) (by decide); have q22 := z_ne hq_22 (z := 22) (by decide); have q23 := z_ne hq_23 (z := 23) (by decide); have q24 := z_ne hq_24 (z := 24) (by decide); have q25 := z_ne hq_25 (z := 25) (by decide); have q26 := z_ne hq_26 (z := 26) (by decide); have q27 := z_ne hq_27 (z := 27) (by decide); have q28 := z_ne hq_28 (z := 28) (by decide); have q29 := z_ne hq_29 (z := 29) (by decide); have q30 := z_ne hq_30 (z := 30) (by decide); have q31 := z_ne hq_31 (z := 31) (by decide); have q32 := z_ne hq_32 (z := 32) (by decide); have q33 := z_ne hq_33 (z := 33) (by decide); have q34 := z_ne hq_34 (z := 34) (by decide); have q35 := z_ne hq_35 (z := 35) (by decide); omega) (by decide) (zk_widen (by omega) (by omega) (kk M))
set_option maxHeartbeats 4000000 in
set_option maxRecDepth 100000 in
theorem t_law {X : z_X} (hX : z_ok X) (hN : z_okN X) {G : z_Gr} {o : Nat} (hG : g_Sys G o) (hm : g_Model G (o + 548)) (ha : G.1 (o + 573) = some (.inr (2, 1))) {F : z_F} (B : z_B X F RL cL_law 9 (some .boolean)) (hR : F.2.2.1 = ({ frames := 2048, cells := 601024, slots := 7293034, locals := 84000 } : Room)) {b L : Nat} {S : Nat → Int32} (hx : va_X b L S X.2.1 X.2.1.heap) (hb : b < z_o X) {b0 : Int32 × z_Mem} : ∀ (f k n : Nat), k + 6 * f ≤ 601024 → n + 36 * f ≤ 7293034 → ∀ (i : Int32) (M : z_Mem), z_K X F 9 601024 7293034 G z_cim b0 k n 23 [(4, .int i), (3, .ref (o + 573)), (2, .ref (o + 548)), (1, .ref o), (0, .ref b)] [] M (F_law_L o L S f i M) := by
  intro f
  induction f with
  | zero => exact fun k n _ _ i M => zk_none
  | succ f ih =>
    intro k n hk hn i M
    unfold F_law_L
    refine zk_iload (pc := 23) B dL_law_23 0 rfl ?_
    refine zk_aload_n (pc := 25) B dL_law_25 4 rfl rfl ?_
    refine zk_slen (pc := 26) B hx hb dL_law_26 ?_
    refine zk_bipush (v := 6) (pc := 27) B dL_law_27 (by decide) ?_
    refine zk_isub (pc := 29) B dL_law_29 ?_
    refine zk_icmp_gt (tgt := 2162) (pc := 30) B dL_law_30 (by decide) (fun _ => ?_) (fun _ => ?_)
    · refine zk_iconst (v := 1) (pc := 2162) B dL_law_2162 (by decide) ?_
      exact zk_iret (pc := 2163) B dL_law_2163 rfl rfl (by omega) (by omega) rfl
    · refine zk_aload_n (pc := 33) B dL_law_33 4 rfl rfl ?_
      refine zk_iload (pc := 34) B dL_law_34 0 rfl ?_
      refine zk_sld (pc := 36) B hx hb dL_law_36 ?_
      refine zk_bipush (v := 63) (pc := 37) B dL_law_37 (by decide) ?_
      refine zk_iand (pc := 39) B dL_law_39 ?_
      refine t_cases hX hN hG hm ha B hR hx hb (by omega) (by omega) i _ M (fun M1 => ?_)
      refine zk_iinc (pc := 2156) B dL_law_2156 0 rfl (y := 6) (by decide) (by decide) (fun _ => rfl) (fun v => ?_)
      refine zk_goto (tgt := 23) (pc := 2159) B dL_law_2159 (by decide) ?_
      exact ih (k + 6) (n + 36) (by omega) (by omega) v M1
