/-! ===== the law: its text told (by program) ===== -/
def F_Law_tells_B125 (L9 : Nat) (S9 : Nat → Int32) (o : Nat) (a : Nat) (rec125 : Int32 → Int32 → Int32 → z_Mem → Option (Int32 × z_Mem)) (v3 : Int32) (v4 : Int32) (v5 : Int32) (M : z_Mem) : Option (Int32 × z_Mem) :=
  if (M.1 a 3) ≤ v5 then
    zb (F_Law_clause a 7 (M.1 a 4) ((v4 / 700) - (v4 / 700) / 100 * 100) (-1) (-1) M) fun M13 =>
    zb (F_Law_clause a 8 2 ((v3 / 12000) - (v3 / 12000) / 60 * 60) (-1) (-1) M13) fun M14 =>
    zb (F_Law_clause a 8 3 ((v4 / 70000) - (v4 / 70000) / 60 * 60) (-1) (-1) M14) fun M15 =>
    zb (F_Law_rule a 9 (10 + (v3 - v3 / 40 * 40)) M15) fun M16 =>
    zb (F_Law_rule a 10 (v3 - v3 / 4 * 4) M16) fun M17 =>
    zb (F_Law_rule a 11 (v4 - v4 / 6 * 6) M17) fun M18 =>
    zb (F_Law_rule a 12 (M18.1 a 5) M18) fun M19 =>
    zb (F_Law_rule a 13 (5 + (v4 - v4 / 30 * 30)) M19) fun M20 =>
    zb2 (F_Law_feeds o a M20) fun x22 M21 =>
    zb2 (F_Sys_load o x22 M21) fun x24 M23 =>
    if x24 = (M23.1 a 3) then
      zb (F_Sys_size o 0 M23) fun x25 =>
      if x25 = (M23.1 a 2) then
        zb (F_Sys_size o 1 M23) fun x26 =>
        if x26 = (M23.1 a 2) then
          zb (F_Sys_errorPosition o M23) fun x27 =>
          if x27 = (-1) then
            zb (F_Sys_size o 7 M23) fun x28 =>
            if x28 = (M23.1 a 4) then
              zb (F_Sys_rule o 4 M23) fun x29 =>
              if x29 = (M23.1 a 5) then
                some (1, M23)
              else
                some (0, M23)
            else
              some (0, M23)
          else
            some (0, M23)
        else
          some (0, M23)
      else
        some (0, M23)
    else
      some (0, M23)
  else
    if ¬ (M.1 a 2) = 0 then
    zb (F_Law_clause a 6 (2 + ((v4 >>> (v5 &&& 31)) - (v4 >>> (v5 &&& 31)) / 5 * 5)) ((v3 >>> (v5 &&& 31)) - (v3 >>> (v5 &&& 31)) / (M.1 a 2) * (M.1 a 2)) ((v4 >>> ((3 * v5) &&& 31)) &&& 15) (600 + v5) M) fun M30 =>
    zl (v5 + 1) fun x31 =>
    rec125 v3 v4 x31 M30
    else none
def F_Law_tells_L125 (L9 : Nat) (S9 : Nat → Int32) (o : Nat) (a : Nat) : Nat → Int32 → Int32 → Int32 → z_Mem → Option (Int32 × z_Mem)
  | 0, _, _, _, _ => none
  | n9 + 1, v3, v4, v5, M => F_Law_tells_B125 L9 S9 o a (F_Law_tells_L125 L9 S9 o a n9) v3 v4 v5 M
def F_Law_tells_B80 (L9 : Nat) (S9 : Nat → Int32) (o : Nat) (a : Nat) (rec80 : Int32 → Int32 → Int32 → z_Mem → Option (Int32 × z_Mem)) (v3 : Int32) (v4 : Int32) (v5 : Int32) (M : z_Mem) : Option (Int32 × z_Mem) :=
  if (M.1 a 2) ≤ v5 then
    F_Law_tells_L125 L9 S9 o a 10000 v3 v4 0 M
  else
    if ¬ (M.1 a 2) = 0 then
    zb (F_Law_clause a 5 v5 ((v5 + 1) - (v5 + 1) / (M.1 a 2) * (M.1 a 2)) (1 + ((v3 >>> (v5 &&& 31)) &&& 7)) (-1) M) fun M10 =>
    zl (v5 + 1) fun x11 =>
    rec80 v3 v4 x11 M10
    else none
def F_Law_tells_L80 (L9 : Nat) (S9 : Nat → Int32) (o : Nat) (a : Nat) : Nat → Int32 → Int32 → Int32 → z_Mem → Option (Int32 × z_Mem)
  | 0, _, _, _, _ => none
  | n9 + 1, v3, v4, v5, M => F_Law_tells_B80 L9 S9 o a (F_Law_tells_L80 L9 S9 o a n9) v3 v4 v5 M
def F_Law_tells (L9 : Nat) (S9 : Nat → Int32) (o : Nat) (a : Nat) (M : z_Mem) : Option (Int32 × z_Mem) :=
  zb (F_Law_cell L9 S9 0 M) fun x1 =>
  zb (F_Law_cell L9 S9 1 M) fun x2 =>
  zl (z_wI M a 2 (3 + (x1 - x1 / 6 * 6))) fun M3 =>
  zl (z_wI M3 a 3 (1 + ((x1 / 6) - (x1 / 6) / 4 * 4))) fun M4 =>
  zl (z_wI M4 a 4 ((x1 / 24) - (x1 / 24) / 500 * 500)) fun M5 =>
  zl (z_wI M5 a 5 (x2 - x2 / 700 * 700)) fun M6 =>
  zb (F_Law_writes a 4 M6) fun M7 =>
  zb (F_Law_number a (M7.1 a 2) M7) fun M8 =>
  zb (F_Law_writes a 2 M8) fun M9 =>
  F_Law_tells_L80 L9 S9 o a 10000 x1 x2 0 M9
set_option maxHeartbeats 4000000 in
set_option maxRecDepth 100000 in
theorem m_Law_tells {X : z_X} (hX : z_ok X) {G : z_Gr} {b9 L9 : Nat} {S9 : Nat → Int32} (hx9 : va_X b9 L9 S9 X.2.1 X.2.1.heap) (hb9 : b9 < z_o X) {o : Nat} (hG : g_Sys G o) {a : Nat} (ha : g_Law G a) (M : z_Mem) (b : Int32 × z_Mem) (h : F_Law_tells L9 S9 o a M = some b) : z_Ct X yL_tells cL_tells 6 (some .boolean) ({ frames := 9, cells := 41, slots := 246, locals := 202 } : Room) [.ref a, .ref o, .ref b9] G M (fun o9 G9 M9 => G9 = G ∧ (o9, M9) = z_cim b) := by
  refine z_enter hX (by decide) (Nat.le_of_ble_eq_true rfl) h (fun F B hR => ?_)
  have L125 : ∀ (nf125 : Nat), ∀ (v3 : Int32) (v4 : Int32) (v5 : Int32) (M : z_Mem), z_K X F 6 41 246 G z_cim b 0 0 125 [(0, .ref a), (1, .ref o), (3, .int v3), (4, .int v4), (5, .int v5)] [] M (F_Law_tells_L125 L9 S9 o a nf125 v3 v4 v5 M) := by
    intro nf125
    induction nf125 with
    | zero => intro v3 v4 v5 M; exact zk_none
    | succ nf125 ih125 =>
      intro v3 v4 v5 M
      show z_K X F 6 41 246 G z_cim b 0 0 125 [(0, .ref a), (1, .ref o), (3, .int v3), (4, .int v4), (5, .int v5)] [] M (F_Law_tells_B125 L9 S9 o a (F_Law_tells_L125 L9 S9 o a nf125) v3 v4 v5 M)
      unfold F_Law_tells_B125
      refine zk_iload (pc := 125) B dL_tells_125 4 rfl ?_
      refine zk_aload_n (pc := 127) B dL_tells_127 0 rfl rfl ?_
      refine zk_geti (pc := 128) B kx_12 (gLaw_s ha) 3 (by decide) kf_L_55 rfl dL_tells_128 ?_
      refine zk_icmp_ge (tgt := 180) (pc := 131) B dL_tells_131 (by decide) (fun _ => ?_) (fun _ => ?_)
      · refine zk_aload_n (pc := 180) B dL_tells_180 0 rfl rfl ?_
        refine zk_ldcs (pc := 181) B 7 (by decide) rfl rfl dL_tells_181 ?_
        refine zk_aload_n (pc := 183) B dL_tells_183 0 rfl rfl ?_
        refine zk_geti (pc := 184) B kx_12 (gLaw_s ha) 4 (by decide) kf_L_58 rfl dL_tells_184 ?_
        refine zk_iload (pc := 187) B dL_tells_187 3 rfl ?_
        refine zk_sipush (v := 700) (pc := 189) B dL_tells_189 (by decide) ?_
        refine zk_idiv (pc := 192) B dL_tells_192 (by decide) ?_
        refine zk_bipush (v := 100) (pc := 193) B dL_tells_193 (by decide) ?_
        refine zk_irem (pc := 195) B dL_tells_195 (by decide) ?_
        refine zk_iconst (v := (-1)) (pc := 196) B dL_tells_196 (by decide) ?_
        refine zk_iconst (v := (-1)) (pc := 197) B dL_tells_197 (by decide) ?_
        refine zk_cvm (pc := 198) (k' := 0) (n' := 0) B rfl rfl (Nat.le_of_ble_eq_true rfl) (Nat.le_of_ble_eq_true rfl) (fun b hb => zr_V B hR kV_yL_clause km_L_68 kx_12 (gLaw_s ha) [.ref (z_sa X 7), .int (M.1 a 4), .int ((v4 / 700) - (v4 / 700) / 100 * 100), .int (-1), .int (-1)] rfl rfl (Nat.le_of_ble_eq_true rfl) dL_tells_198 (m_Law_clause hX ha (by decide) (M.1 a 4) ((v4 / 700) - (v4 / 700) / 100 * 100) (-1) (-1) M b hb) ⟨Nat.le_of_ble_eq_true rfl, Nat.le_of_ble_eq_true rfl⟩ ⟨Nat.le_of_ble_eq_true rfl, Nat.le_of_ble_eq_true rfl⟩) (fun M13 => ?_)
        refine zk_aload_n (pc := 201) B dL_tells_201 0 rfl rfl ?_
        refine zk_ldcs (pc := 202) B 8 (by decide) rfl rfl dL_tells_202 ?_
        refine zk_iconst (v := 2) (pc := 204) B dL_tells_204 (by decide) ?_
        refine zk_iload_n (pc := 205) B dL_tells_205 2 rfl rfl ?_
        refine zk_sipush (v := 12000) (pc := 206) B dL_tells_206 (by decide) ?_
        refine zk_idiv (pc := 209) B dL_tells_209 (by decide) ?_
        refine zk_bipush (v := 60) (pc := 210) B dL_tells_210 (by decide) ?_
        refine zk_irem (pc := 212) B dL_tells_212 (by decide) ?_
        refine zk_iconst (v := (-1)) (pc := 213) B dL_tells_213 (by decide) ?_
        refine zk_iconst (v := (-1)) (pc := 214) B dL_tells_214 (by decide) ?_
        refine zk_cvm (pc := 215) (k' := 0) (n' := 0) B rfl rfl (Nat.le_of_ble_eq_true rfl) (Nat.le_of_ble_eq_true rfl) (fun b hb => zr_V B hR kV_yL_clause km_L_68 kx_12 (gLaw_s ha) [.ref (z_sa X 8), .int 2, .int ((v3 / 12000) - (v3 / 12000) / 60 * 60), .int (-1), .int (-1)] rfl rfl (Nat.le_of_ble_eq_true rfl) dL_tells_215 (m_Law_clause hX ha (by decide) 2 ((v3 / 12000) - (v3 / 12000) / 60 * 60) (-1) (-1) M13 b hb) ⟨Nat.le_of_ble_eq_true rfl, Nat.le_of_ble_eq_true rfl⟩ ⟨Nat.le_of_ble_eq_true rfl, Nat.le_of_ble_eq_true rfl⟩) (fun M14 => ?_)
        refine zk_aload_n (pc := 218) B dL_tells_218 0 rfl rfl ?_
        refine zk_ldcs (pc := 219) B 8 (by decide) rfl rfl dL_tells_219 ?_
        refine zk_iconst (v := 3) (pc := 221) B dL_tells_221 (by decide) ?_
        refine zk_iload (pc := 222) B dL_tells_222 3 rfl ?_
        refine zk_ldc (pc := 224) B kc_L_78 dL_tells_224 ?_
        refine zk_idiv (pc := 226) B dL_tells_226 (by decide) ?_
        refine zk_bipush (v := 60) (pc := 227) B dL_tells_227 (by decide) ?_
        refine zk_irem (pc := 229) B dL_tells_229 (by decide) ?_
        refine zk_iconst (v := (-1)) (pc := 230) B dL_tells_230 (by decide) ?_
        refine zk_iconst (v := (-1)) (pc := 231) B dL_tells_231 (by decide) ?_
        refine zk_cvm (pc := 232) (k' := 0) (n' := 0) B rfl rfl (Nat.le_of_ble_eq_true rfl) (Nat.le_of_ble_eq_true rfl) (fun b hb => zr_V B hR kV_yL_clause km_L_68 kx_12 (gLaw_s ha) [.ref (z_sa X 8), .int 3, .int ((v4 / 70000) - (v4 / 70000) / 60 * 60), .int (-1), .int (-1)] rfl rfl (Nat.le_of_ble_eq_true rfl) dL_tells_232 (m_Law_clause hX ha (by decide) 3 ((v4 / 70000) - (v4 / 70000) / 60 * 60) (-1) (-1) M14 b hb) ⟨Nat.le_of_ble_eq_true rfl, Nat.le_of_ble_eq_true rfl⟩ ⟨Nat.le_of_ble_eq_true rfl, Nat.le_of_ble_eq_true rfl⟩) (fun M15 => ?_)
        refine zk_aload_n (pc := 235) B dL_tells_235 0 rfl rfl ?_
        refine zk_ldcs (pc := 236) B 9 (by decide) rfl rfl dL_tells_236 ?_
        refine zk_bipush (v := 10) (pc := 238) B dL_tells_238 (by decide) ?_
        refine zk_iload_n (pc := 240) B dL_tells_240 2 rfl rfl ?_
        refine zk_bipush (v := 40) (pc := 241) B dL_tells_241 (by decide) ?_
        refine zk_irem (pc := 243) B dL_tells_243 (by decide) ?_
        refine zk_iadd (pc := 244) B dL_tells_244 ?_
        refine zk_cvm (pc := 245) (k' := 0) (n' := 0) B rfl rfl (Nat.le_of_ble_eq_true rfl) (Nat.le_of_ble_eq_true rfl) (fun b hb => zr_V B hR kV_yL_rule km_L_81 kx_12 (gLaw_s ha) [.ref (z_sa X 9), .int (10 + (v3 - v3 / 40 * 40))] rfl rfl (Nat.le_of_ble_eq_true rfl) dL_tells_245 (m_Law_rule hX ha (by decide) (10 + (v3 - v3 / 40 * 40)) M15 b hb) ⟨Nat.le_of_ble_eq_true rfl, Nat.le_of_ble_eq_true rfl⟩ ⟨Nat.le_of_ble_eq_true rfl, Nat.le_of_ble_eq_true rfl⟩) (fun M16 => ?_)
        refine zk_aload_n (pc := 248) B dL_tells_248 0 rfl rfl ?_
        refine zk_ldcs (pc := 249) B 10 (by decide) rfl rfl dL_tells_249 ?_
        refine zk_iload_n (pc := 251) B dL_tells_251 2 rfl rfl ?_
        refine zk_iconst (v := 4) (pc := 252) B dL_tells_252 (by decide) ?_
        refine zk_irem (pc := 253) B dL_tells_253 (by decide) ?_
        refine zk_cvm (pc := 254) (k' := 0) (n' := 0) B rfl rfl (Nat.le_of_ble_eq_true rfl) (Nat.le_of_ble_eq_true rfl) (fun b hb => zr_V B hR kV_yL_rule km_L_81 kx_12 (gLaw_s ha) [.ref (z_sa X 10), .int (v3 - v3 / 4 * 4)] rfl rfl (Nat.le_of_ble_eq_true rfl) dL_tells_254 (m_Law_rule hX ha (by decide) (v3 - v3 / 4 * 4) M16 b hb) ⟨Nat.le_of_ble_eq_true rfl, Nat.le_of_ble_eq_true rfl⟩ ⟨Nat.le_of_ble_eq_true rfl, Nat.le_of_ble_eq_true rfl⟩) (fun M17 => ?_)
        refine zk_aload_n (pc := 257) B dL_tells_257 0 rfl rfl ?_
        refine zk_ldcs (pc := 258) B 11 (by decide) rfl rfl dL_tells_258 ?_
        refine zk_iload (pc := 260) B dL_tells_260 3 rfl ?_
        refine zk_bipush (v := 6) (pc := 262) B dL_tells_262 (by decide) ?_
        refine zk_irem (pc := 264) B dL_tells_264 (by decide) ?_
        refine zk_cvm (pc := 265) (k' := 0) (n' := 0) B rfl rfl (Nat.le_of_ble_eq_true rfl) (Nat.le_of_ble_eq_true rfl) (fun b hb => zr_V B hR kV_yL_rule km_L_81 kx_12 (gLaw_s ha) [.ref (z_sa X 11), .int (v4 - v4 / 6 * 6)] rfl rfl (Nat.le_of_ble_eq_true rfl) dL_tells_265 (m_Law_rule hX ha (by decide) (v4 - v4 / 6 * 6) M17 b hb) ⟨Nat.le_of_ble_eq_true rfl, Nat.le_of_ble_eq_true rfl⟩ ⟨Nat.le_of_ble_eq_true rfl, Nat.le_of_ble_eq_true rfl⟩) (fun M18 => ?_)
        refine zk_aload_n (pc := 268) B dL_tells_268 0 rfl rfl ?_
        refine zk_ldcs (pc := 269) B 12 (by decide) rfl rfl dL_tells_269 ?_
        refine zk_aload_n (pc := 271) B dL_tells_271 0 rfl rfl ?_
        refine zk_geti (pc := 272) B kx_12 (gLaw_s ha) 5 (by decide) kf_L_61 rfl dL_tells_272 ?_
        refine zk_cvm (pc := 275) (k' := 0) (n' := 0) B rfl rfl (Nat.le_of_ble_eq_true rfl) (Nat.le_of_ble_eq_true rfl) (fun b hb => zr_V B hR kV_yL_rule km_L_81 kx_12 (gLaw_s ha) [.ref (z_sa X 12), .int (M18.1 a 5)] rfl rfl (Nat.le_of_ble_eq_true rfl) dL_tells_275 (m_Law_rule hX ha (by decide) (M18.1 a 5) M18 b hb) ⟨Nat.le_of_ble_eq_true rfl, Nat.le_of_ble_eq_true rfl⟩ ⟨Nat.le_of_ble_eq_true rfl, Nat.le_of_ble_eq_true rfl⟩) (fun M19 => ?_)
        refine zk_aload_n (pc := 278) B dL_tells_278 0 rfl rfl ?_
        refine zk_ldcs (pc := 279) B 13 (by decide) rfl rfl dL_tells_279 ?_
        refine zk_iconst (v := 5) (pc := 281) B dL_tells_281 (by decide) ?_
        refine zk_iload (pc := 282) B dL_tells_282 3 rfl ?_
        refine zk_bipush (v := 30) (pc := 284) B dL_tells_284 (by decide) ?_
        refine zk_irem (pc := 286) B dL_tells_286 (by decide) ?_
        refine zk_iadd (pc := 287) B dL_tells_287 ?_
        refine zk_cvm (pc := 288) (k' := 0) (n' := 0) B rfl rfl (Nat.le_of_ble_eq_true rfl) (Nat.le_of_ble_eq_true rfl) (fun b hb => zr_V B hR kV_yL_rule km_L_81 kx_12 (gLaw_s ha) [.ref (z_sa X 13), .int (5 + (v4 - v4 / 30 * 30))] rfl rfl (Nat.le_of_ble_eq_true rfl) dL_tells_288 (m_Law_rule hX ha (by decide) (5 + (v4 - v4 / 30 * 30)) M19 b hb) ⟨Nat.le_of_ble_eq_true rfl, Nat.le_of_ble_eq_true rfl⟩ ⟨Nat.le_of_ble_eq_true rfl, Nat.le_of_ble_eq_true rfl⟩) (fun M20 => ?_)
        refine zk_aload_n (pc := 291) B dL_tells_291 1 rfl rfl ?_
        refine zk_aload_n (pc := 292) B dL_tells_292 0 rfl rfl ?_
        refine zk_aload_n (pc := 293) B dL_tells_293 1 rfl rfl ?_
        refine zk_cim (pc := 294) (k' := 41) (n' := 246) B rfl rfl (Nat.le_of_ble_eq_true rfl) (Nat.le_of_ble_eq_true rfl) (fun b hb => zr_V B hR kV_yL_feeds km_L_92 kx_12 (gLaw_s ha) [.ref o] rfl rfl (Nat.le_of_ble_eq_true rfl) dL_tells_294 (m_Law_feeds hX hG ha M20 b hb) ⟨Nat.le_of_ble_eq_true rfl, Nat.le_of_ble_eq_true rfl⟩ ⟨Nat.le_of_ble_eq_true rfl, Nat.le_of_ble_eq_true rfl⟩) (fun x22 M21 => ?_)
        refine zk_cim (pc := 297) (k' := 41) (n' := 246) B rfl rfl (Nat.le_of_ble_eq_true rfl) (Nat.le_of_ble_eq_true rfl) (fun b hb => zr_V B hR kV_yX11_load km_L_96 kx_11 (gSys_s hG) [.int x22] rfl rfl (Nat.le_of_ble_eq_true rfl) dL_tells_297 (m_Sys_load hX hG x22 M21 b hb) ⟨Nat.le_of_ble_eq_true rfl, Nat.le_of_ble_eq_true rfl⟩ ⟨Nat.le_of_ble_eq_true rfl, Nat.le_of_ble_eq_true rfl⟩) (fun x24 M23 => ?_)
        refine zk_aload_n (pc := 300) B dL_tells_300 0 rfl rfl ?_
        refine zk_geti (pc := 301) B kx_12 (gLaw_s ha) 3 (by decide) kf_L_55 rfl dL_tells_301 ?_
        refine zk_icmp_ne (tgt := 331) (pc := 304) B dL_tells_304 (by decide) (fun _ => ?_) (fun _ => ?_)
        · refine zk_iconst (v := 0) (pc := 331) B dL_tells_331 (by decide) ?_
          exact zk_iret (pc := 332) B dL_tells_332 rfl rfl (Nat.le_of_ble_eq_true rfl) (Nat.le_of_ble_eq_true rfl) rfl
        · refine zk_aload_n (pc := 307) B dL_tells_307 1 rfl rfl ?_
          refine zk_iconst (v := 0) (pc := 308) B dL_tells_308 (by decide) ?_
          refine zk_cpi (pc := 309) (k' := 41) (n' := 246) B rfl rfl (Nat.le_of_ble_eq_true rfl) (Nat.le_of_ble_eq_true rfl) (fun b hb => zr_V B hR kV_yX11_size km_L_100 kx_11 (gSys_s hG) [.int 0] rfl rfl (Nat.le_of_ble_eq_true rfl) dL_tells_309 (m_Sys_size hX hG 0 M23 b hb) ⟨Nat.le_of_ble_eq_true rfl, Nat.le_of_ble_eq_true rfl⟩ ⟨Nat.le_of_ble_eq_true rfl, Nat.le_of_ble_eq_true rfl⟩) (fun x25 _ => ?_)
          refine zk_aload_n (pc := 312) B dL_tells_312 0 rfl rfl ?_
          refine zk_geti (pc := 313) B kx_12 (gLaw_s ha) 2 (by decide) kf_L_52 rfl dL_tells_313 ?_
          refine zk_icmp_ne (tgt := 331) (pc := 316) B dL_tells_316 (by decide) (fun _ => ?_) (fun _ => ?_)
          · refine zk_iconst (v := 0) (pc := 331) B dL_tells_331 (by decide) ?_
            exact zk_iret (pc := 332) B dL_tells_332 rfl rfl (Nat.le_of_ble_eq_true rfl) (Nat.le_of_ble_eq_true rfl) rfl
          · refine zk_aload_n (pc := 319) B dL_tells_319 1 rfl rfl ?_
            refine zk_iconst (v := 1) (pc := 320) B dL_tells_320 (by decide) ?_
            refine zk_cpi (pc := 321) (k' := 41) (n' := 246) B rfl rfl (Nat.le_of_ble_eq_true rfl) (Nat.le_of_ble_eq_true rfl) (fun b hb => zr_V B hR kV_yX11_size km_L_100 kx_11 (gSys_s hG) [.int 1] rfl rfl (Nat.le_of_ble_eq_true rfl) dL_tells_321 (m_Sys_size hX hG 1 M23 b hb) ⟨Nat.le_of_ble_eq_true rfl, Nat.le_of_ble_eq_true rfl⟩ ⟨Nat.le_of_ble_eq_true rfl, Nat.le_of_ble_eq_true rfl⟩) (fun x26 _ => ?_)
            refine zk_aload_n (pc := 324) B dL_tells_324 0 rfl rfl ?_
            refine zk_geti (pc := 325) B kx_12 (gLaw_s ha) 2 (by decide) kf_L_52 rfl dL_tells_325 ?_
            refine zk_icmp_eq (tgt := 333) (pc := 328) B dL_tells_328 (by decide) (fun _ => ?_) (fun _ => ?_)
            · refine zk_aload_n (pc := 333) B dL_tells_333 1 rfl rfl ?_
              refine zk_cpi (pc := 334) (k' := 41) (n' := 246) B rfl rfl (Nat.le_of_ble_eq_true rfl) (Nat.le_of_ble_eq_true rfl) (fun b hb => zr_V B hR kV_yX11_errorPosition km_L_102 kx_11 (gSys_s hG) [] rfl rfl (Nat.le_of_ble_eq_true rfl) dL_tells_334 (m_Sys_errorPosition hX hG M23 b hb) ⟨Nat.le_of_ble_eq_true rfl, Nat.le_of_ble_eq_true rfl⟩ ⟨Nat.le_of_ble_eq_true rfl, Nat.le_of_ble_eq_true rfl⟩) (fun x27 _ => ?_)
              refine zk_iconst (v := (-1)) (pc := 337) B dL_tells_337 (by decide) ?_
              refine zk_icmp_ne (tgt := 370) (pc := 338) B dL_tells_338 (by decide) (fun _ => ?_) (fun _ => ?_)
              · refine zk_iconst (v := 0) (pc := 370) B dL_tells_370 (by decide) ?_
                exact zk_iret (pc := 371) B dL_tells_371 rfl rfl (Nat.le_of_ble_eq_true rfl) (Nat.le_of_ble_eq_true rfl) rfl
              · refine zk_aload_n (pc := 341) B dL_tells_341 1 rfl rfl ?_
                refine zk_bipush (v := 7) (pc := 342) B dL_tells_342 (by decide) ?_
                refine zk_cpi (pc := 344) (k' := 41) (n' := 246) B rfl rfl (Nat.le_of_ble_eq_true rfl) (Nat.le_of_ble_eq_true rfl) (fun b hb => zr_V B hR kV_yX11_size km_L_100 kx_11 (gSys_s hG) [.int 7] rfl rfl (Nat.le_of_ble_eq_true rfl) dL_tells_344 (m_Sys_size hX hG 7 M23 b hb) ⟨Nat.le_of_ble_eq_true rfl, Nat.le_of_ble_eq_true rfl⟩ ⟨Nat.le_of_ble_eq_true rfl, Nat.le_of_ble_eq_true rfl⟩) (fun x28 _ => ?_)
                refine zk_aload_n (pc := 347) B dL_tells_347 0 rfl rfl ?_
                refine zk_geti (pc := 348) B kx_12 (gLaw_s ha) 4 (by decide) kf_L_58 rfl dL_tells_348 ?_
                refine zk_icmp_ne (tgt := 370) (pc := 351) B dL_tells_351 (by decide) (fun _ => ?_) (fun _ => ?_)
                · refine zk_iconst (v := 0) (pc := 370) B dL_tells_370 (by decide) ?_
                  exact zk_iret (pc := 371) B dL_tells_371 rfl rfl (Nat.le_of_ble_eq_true rfl) (Nat.le_of_ble_eq_true rfl) rfl
                · refine zk_aload_n (pc := 354) B dL_tells_354 1 rfl rfl ?_
                  refine zk_iconst (v := 4) (pc := 355) B dL_tells_355 (by decide) ?_
                  refine zk_cpi (pc := 356) (k' := 41) (n' := 246) B rfl rfl (Nat.le_of_ble_eq_true rfl) (Nat.le_of_ble_eq_true rfl) (fun b hb => zr_V B hR kV_yX11_rule km_L_105 kx_11 (gSys_s hG) [.int 4] rfl rfl (Nat.le_of_ble_eq_true rfl) dL_tells_356 (m_Sys_rule hX hG 4 M23 b hb) ⟨Nat.le_of_ble_eq_true rfl, Nat.le_of_ble_eq_true rfl⟩ ⟨Nat.le_of_ble_eq_true rfl, Nat.le_of_ble_eq_true rfl⟩) (fun x29 _ => ?_)
                  refine zk_aload_n (pc := 359) B dL_tells_359 0 rfl rfl ?_
                  refine zk_geti (pc := 360) B kx_12 (gLaw_s ha) 5 (by decide) kf_L_61 rfl dL_tells_360 ?_
                  refine zk_icmp_ne (tgt := 370) (pc := 363) B dL_tells_363 (by decide) (fun _ => ?_) (fun _ => ?_)
                  · refine zk_iconst (v := 0) (pc := 370) B dL_tells_370 (by decide) ?_
                    exact zk_iret (pc := 371) B dL_tells_371 rfl rfl (Nat.le_of_ble_eq_true rfl) (Nat.le_of_ble_eq_true rfl) rfl
                  · refine zk_iconst (v := 1) (pc := 366) B dL_tells_366 (by decide) ?_
                    refine zk_goto (tgt := 371) (pc := 367) B dL_tells_367 (by decide) ?_
                    exact zk_iret (pc := 371) B dL_tells_371 rfl rfl (Nat.le_of_ble_eq_true rfl) (Nat.le_of_ble_eq_true rfl) rfl
            · refine zk_iconst (v := 0) (pc := 331) B dL_tells_331 (by decide) ?_
              exact zk_iret (pc := 332) B dL_tells_332 rfl rfl (Nat.le_of_ble_eq_true rfl) (Nat.le_of_ble_eq_true rfl) rfl
      · refine zk_aload_n (pc := 134) B dL_tells_134 0 rfl rfl ?_
        refine zk_ldcs (pc := 135) B 6 (by decide) rfl rfl dL_tells_135 ?_
        refine zk_iconst (v := 2) (pc := 137) B dL_tells_137 (by decide) ?_
        refine zk_iload (pc := 138) B dL_tells_138 3 rfl ?_
        refine zk_iload (pc := 140) B dL_tells_140 4 rfl ?_
        refine zk_ishr (pc := 142) B dL_tells_142 ?_
        refine zk_iconst (v := 5) (pc := 143) B dL_tells_143 (by decide) ?_
        refine zk_irem (pc := 144) B dL_tells_144 (by decide) ?_
        refine zk_iadd (pc := 145) B dL_tells_145 ?_
        refine zk_iload_n (pc := 146) B dL_tells_146 2 rfl rfl ?_
        refine zk_iload (pc := 147) B dL_tells_147 4 rfl ?_
        refine zk_ishr (pc := 149) B dL_tells_149 ?_
        refine zk_aload_n (pc := 150) B dL_tells_150 0 rfl rfl ?_
        refine zk_geti (pc := 151) B kx_12 (gLaw_s ha) 2 (by decide) kf_L_52 rfl dL_tells_151 ?_
        refine zk_chk (fun h32 => zk_irem (pc := 154) B dL_tells_154 h32 ?_)
        refine zk_iload (pc := 155) B dL_tells_155 3 rfl ?_
        refine zk_iconst (v := 3) (pc := 157) B dL_tells_157 (by decide) ?_
        refine zk_iload (pc := 158) B dL_tells_158 4 rfl ?_
        refine zk_imul (pc := 160) B dL_tells_160 ?_
        refine zk_ishr (pc := 161) B dL_tells_161 ?_
        refine zk_bipush (v := 15) (pc := 162) B dL_tells_162 (by decide) ?_
        refine zk_iand (pc := 164) B dL_tells_164 ?_
        refine zk_sipush (v := 600) (pc := 165) B dL_tells_165 (by decide) ?_
        refine zk_iload (pc := 168) B dL_tells_168 4 rfl ?_
        refine zk_iadd (pc := 170) B dL_tells_170 ?_
        refine zk_cvm (pc := 171) (k' := 0) (n' := 0) B rfl rfl (Nat.le_of_ble_eq_true rfl) (Nat.le_of_ble_eq_true rfl) (fun b hb => zr_V B hR kV_yL_clause km_L_68 kx_12 (gLaw_s ha) [.ref (z_sa X 6), .int (2 + ((v4 >>> (v5 &&& 31)) - (v4 >>> (v5 &&& 31)) / 5 * 5)), .int ((v3 >>> (v5 &&& 31)) - (v3 >>> (v5 &&& 31)) / (M.1 a 2) * (M.1 a 2)), .int ((v4 >>> ((3 * v5) &&& 31)) &&& 15), .int (600 + v5)] rfl rfl (Nat.le_of_ble_eq_true rfl) dL_tells_171 (m_Law_clause hX ha (by decide) (2 + ((v4 >>> (v5 &&& 31)) - (v4 >>> (v5 &&& 31)) / 5 * 5)) ((v3 >>> (v5 &&& 31)) - (v3 >>> (v5 &&& 31)) / (M.1 a 2) * (M.1 a 2)) ((v4 >>> ((3 * v5) &&& 31)) &&& 15) (600 + v5) M b hb) ⟨Nat.le_of_ble_eq_true rfl, Nat.le_of_ble_eq_true rfl⟩ ⟨Nat.le_of_ble_eq_true rfl, Nat.le_of_ble_eq_true rfl⟩) (fun M30 => ?_)
        refine zk_iinc (y := 1) (lf := fun x31 => [(5, .int x31), (0, .ref a), (1, .ref o), (3, .int v3), (4, .int v4)]) (pc := 174) B dL_tells_174 4 rfl (by decide) (by decide) (fun _ => rfl) (fun x31 => ?_)
        refine zk_goto (tgt := 125) (pc := 177) B dL_tells_177 (by decide) ?_
        refine zk_sub [1, 2, 3, 4, 0] rfl ?_
        exact ih125 v3 v4 x31 M30
  have L80 : ∀ (nf80 : Nat), ∀ (v3 : Int32) (v4 : Int32) (v5 : Int32) (M : z_Mem), z_K X F 6 41 246 G z_cim b 0 0 80 [(0, .ref a), (1, .ref o), (3, .int v3), (4, .int v4), (5, .int v5)] [] M (F_Law_tells_L80 L9 S9 o a nf80 v3 v4 v5 M) := by
    intro nf80
    induction nf80 with
    | zero => intro v3 v4 v5 M; exact zk_none
    | succ nf80 ih80 =>
      intro v3 v4 v5 M
      show z_K X F 6 41 246 G z_cim b 0 0 80 [(0, .ref a), (1, .ref o), (3, .int v3), (4, .int v4), (5, .int v5)] [] M (F_Law_tells_B80 L9 S9 o a (F_Law_tells_L80 L9 S9 o a nf80) v3 v4 v5 M)
      unfold F_Law_tells_B80
      refine zk_iload (pc := 80) B dL_tells_80 4 rfl ?_
      refine zk_aload_n (pc := 82) B dL_tells_82 0 rfl rfl ?_
      refine zk_geti (pc := 83) B kx_12 (gLaw_s ha) 2 (by decide) kf_L_52 rfl dL_tells_83 ?_
      refine zk_icmp_ge (tgt := 122) (pc := 86) B dL_tells_86 (by decide) (fun _ => ?_) (fun _ => ?_)
      · refine zk_iconst (v := 0) (pc := 122) B dL_tells_122 (by decide) ?_
        refine zk_istore (loc' := [(5, .int 0), (0, .ref a), (1, .ref o), (3, .int v3), (4, .int v4)]) (pc := 123) B dL_tells_123 (by decide) rfl ?_
        refine zk_sub [1, 2, 3, 4, 0] rfl ?_
        exact L125 10000 v3 v4 0 M
      · refine zk_aload_n (pc := 89) B dL_tells_89 0 rfl rfl ?_
        refine zk_ldcs (pc := 90) B 5 (by decide) rfl rfl dL_tells_90 ?_
        refine zk_iload (pc := 92) B dL_tells_92 4 rfl ?_
        refine zk_iload (pc := 94) B dL_tells_94 4 rfl ?_
        refine zk_iconst (v := 1) (pc := 96) B dL_tells_96 (by decide) ?_
        refine zk_iadd (pc := 97) B dL_tells_97 ?_
        refine zk_aload_n (pc := 98) B dL_tells_98 0 rfl rfl ?_
        refine zk_geti (pc := 99) B kx_12 (gLaw_s ha) 2 (by decide) kf_L_52 rfl dL_tells_99 ?_
        refine zk_chk (fun h12 => zk_irem (pc := 102) B dL_tells_102 h12 ?_)
        refine zk_iconst (v := 1) (pc := 103) B dL_tells_103 (by decide) ?_
        refine zk_iload_n (pc := 104) B dL_tells_104 2 rfl rfl ?_
        refine zk_iload (pc := 105) B dL_tells_105 4 rfl ?_
        refine zk_ishr (pc := 107) B dL_tells_107 ?_
        refine zk_bipush (v := 7) (pc := 108) B dL_tells_108 (by decide) ?_
        refine zk_iand (pc := 110) B dL_tells_110 ?_
        refine zk_iadd (pc := 111) B dL_tells_111 ?_
        refine zk_iconst (v := (-1)) (pc := 112) B dL_tells_112 (by decide) ?_
        refine zk_cvm (pc := 113) (k' := 0) (n' := 0) B rfl rfl (Nat.le_of_ble_eq_true rfl) (Nat.le_of_ble_eq_true rfl) (fun b hb => zr_V B hR kV_yL_clause km_L_68 kx_12 (gLaw_s ha) [.ref (z_sa X 5), .int v5, .int ((v5 + 1) - (v5 + 1) / (M.1 a 2) * (M.1 a 2)), .int (1 + ((v3 >>> (v5 &&& 31)) &&& 7)), .int (-1)] rfl rfl (Nat.le_of_ble_eq_true rfl) dL_tells_113 (m_Law_clause hX ha (by decide) v5 ((v5 + 1) - (v5 + 1) / (M.1 a 2) * (M.1 a 2)) (1 + ((v3 >>> (v5 &&& 31)) &&& 7)) (-1) M b hb) ⟨Nat.le_of_ble_eq_true rfl, Nat.le_of_ble_eq_true rfl⟩ ⟨Nat.le_of_ble_eq_true rfl, Nat.le_of_ble_eq_true rfl⟩) (fun M10 => ?_)
        refine zk_iinc (y := 1) (lf := fun x11 => [(5, .int x11), (0, .ref a), (1, .ref o), (3, .int v3), (4, .int v4)]) (pc := 116) B dL_tells_116 4 rfl (by decide) (by decide) (fun _ => rfl) (fun x11 => ?_)
        refine zk_goto (tgt := 80) (pc := 119) B dL_tells_119 (by decide) ?_
        refine zk_sub [1, 2, 3, 4, 0] rfl ?_
        exact ih80 v3 v4 x11 M10
  show z_K X F 6 41 246 G z_cim b 0 0 0 [(0, .ref a), (1, .ref o), (2, .ref b9)] [] M (F_Law_tells L9 S9 o a M)
  unfold F_Law_tells
  refine zk_aload_n (pc := 0) B dL_tells_0 2 rfl rfl ?_
  refine zk_iconst (v := 0) (pc := 1) B dL_tells_1 (by decide) ?_
  refine zk_cpi (pc := 2) (k' := 0) (n' := 0) B rfl rfl (Nat.le_of_ble_eq_true rfl) (Nat.le_of_ble_eq_true rfl) (fun b hb => zr_S B hR kS_yL_cell km_L_48 [.ref b9, .int 0] rfl rfl (Nat.le_of_ble_eq_true rfl) dL_tells_2 (m_Law_cell hX hx9 hb9 0 M b hb) ⟨Nat.le_of_ble_eq_true rfl, Nat.le_of_ble_eq_true rfl⟩ ⟨Nat.le_of_ble_eq_true rfl, Nat.le_of_ble_eq_true rfl⟩) (fun x1 _ => ?_)
  refine zk_istore_n (loc' := [(3, .int x1), (0, .ref a), (1, .ref o), (2, .ref b9)]) (pc := 5) B dL_tells_5 rfl (by decide) rfl ?_
  refine zk_aload_n (pc := 6) B dL_tells_6 3 rfl rfl ?_
  refine zk_iconst (v := 1) (pc := 7) B dL_tells_7 (by decide) ?_
  refine zk_cpi (pc := 8) (k' := 0) (n' := 0) B rfl rfl (Nat.le_of_ble_eq_true rfl) (Nat.le_of_ble_eq_true rfl) (fun b hb => zr_S B hR kS_yL_cell km_L_48 [.ref b9, .int 1] rfl rfl (Nat.le_of_ble_eq_true rfl) dL_tells_8 (m_Law_cell hX hx9 hb9 1 M b hb) ⟨Nat.le_of_ble_eq_true rfl, Nat.le_of_ble_eq_true rfl⟩ ⟨Nat.le_of_ble_eq_true rfl, Nat.le_of_ble_eq_true rfl⟩) (fun x2 _ => ?_)
  refine zk_istore (loc' := [(4, .int x2), (3, .int x1), (0, .ref a), (1, .ref o), (2, .ref b9)]) (pc := 11) B dL_tells_11 (by decide) rfl ?_
  refine zk_aload_n (pc := 13) B dL_tells_13 2 rfl rfl ?_
  refine zk_iconst (v := 3) (pc := 14) B dL_tells_14 (by decide) ?_
  refine zk_iload_n (pc := 15) B dL_tells_15 1 rfl rfl ?_
  refine zk_bipush (v := 6) (pc := 16) B dL_tells_16 (by decide) ?_
  refine zk_irem (pc := 18) B dL_tells_18 (by decide) ?_
  refine zk_iadd (pc := 19) B dL_tells_19 ?_
  refine zk_puti (pc := 20) B kx_12 (gLaw_s ha) 2 (by decide) kf_L_52 rfl rfl rfl rfl dL_tells_20 ?_
  refine zk_lm (fun M3 => ?_)
  refine zk_aload_n (pc := 23) B dL_tells_23 2 rfl rfl ?_
  refine zk_iconst (v := 1) (pc := 24) B dL_tells_24 (by decide) ?_
  refine zk_iload_n (pc := 25) B dL_tells_25 1 rfl rfl ?_
  refine zk_bipush (v := 6) (pc := 26) B dL_tells_26 (by decide) ?_
  refine zk_idiv (pc := 28) B dL_tells_28 (by decide) ?_
  refine zk_iconst (v := 4) (pc := 29) B dL_tells_29 (by decide) ?_
  refine zk_irem (pc := 30) B dL_tells_30 (by decide) ?_
  refine zk_iadd (pc := 31) B dL_tells_31 ?_
  refine zk_puti (pc := 32) B kx_12 (gLaw_s ha) 3 (by decide) kf_L_55 rfl rfl rfl rfl dL_tells_32 ?_
  refine zk_lm (fun M4 => ?_)
  refine zk_aload_n (pc := 35) B dL_tells_35 2 rfl rfl ?_
  refine zk_iload_n (pc := 36) B dL_tells_36 1 rfl rfl ?_
  refine zk_bipush (v := 24) (pc := 37) B dL_tells_37 (by decide) ?_
  refine zk_idiv (pc := 39) B dL_tells_39 (by decide) ?_
  refine zk_sipush (v := 500) (pc := 40) B dL_tells_40 (by decide) ?_
  refine zk_irem (pc := 43) B dL_tells_43 (by decide) ?_
  refine zk_puti (pc := 44) B kx_12 (gLaw_s ha) 4 (by decide) kf_L_58 rfl rfl rfl rfl dL_tells_44 ?_
  refine zk_lm (fun M5 => ?_)
  refine zk_aload_n (pc := 47) B dL_tells_47 2 rfl rfl ?_
  refine zk_iload (pc := 48) B dL_tells_48 0 rfl ?_
  refine zk_sipush (v := 700) (pc := 50) B dL_tells_50 (by decide) ?_
  refine zk_irem (pc := 53) B dL_tells_53 (by decide) ?_
  refine zk_puti (pc := 54) B kx_12 (gLaw_s ha) 5 (by decide) kf_L_61 rfl rfl rfl rfl dL_tells_54 ?_
  refine zk_lm (fun M6 => ?_)
  refine zk_aload_n (pc := 57) B dL_tells_57 2 rfl rfl ?_
  refine zk_ldcs (pc := 58) B 4 (by decide) rfl rfl dL_tells_58 ?_
  refine zk_cvm (pc := 60) (k' := 0) (n' := 0) B rfl rfl (Nat.le_of_ble_eq_true rfl) (Nat.le_of_ble_eq_true rfl) (fun b hb => zr_V B hR kV_yL_writes km_L_34 kx_12 (gLaw_s ha) [.ref (z_sa X 4)] rfl rfl (Nat.le_of_ble_eq_true rfl) dL_tells_60 (m_Law_writes hX ha (by decide) M6 b hb) ⟨Nat.le_of_ble_eq_true rfl, Nat.le_of_ble_eq_true rfl⟩ ⟨Nat.le_of_ble_eq_true rfl, Nat.le_of_ble_eq_true rfl⟩) (fun M7 => ?_)
  refine zk_aload_n (pc := 63) B dL_tells_63 2 rfl rfl ?_
  refine zk_aload_n (pc := 64) B dL_tells_64 2 rfl rfl ?_
  refine zk_geti (pc := 65) B kx_12 (gLaw_s ha) 2 (by decide) kf_L_52 rfl dL_tells_65 ?_
  refine zk_cvm (pc := 68) (k' := 0) (n' := 0) B rfl rfl (Nat.le_of_ble_eq_true rfl) (Nat.le_of_ble_eq_true rfl) (fun b hb => zr_V B hR kV_yL_number km_L_40 kx_12 (gLaw_s ha) [.int (M7.1 a 2)] rfl rfl (Nat.le_of_ble_eq_true rfl) dL_tells_68 (m_Law_number hX ha (M7.1 a 2) M7 b hb) ⟨Nat.le_of_ble_eq_true rfl, Nat.le_of_ble_eq_true rfl⟩ ⟨Nat.le_of_ble_eq_true rfl, Nat.le_of_ble_eq_true rfl⟩) (fun M8 => ?_)
  refine zk_aload_n (pc := 71) B dL_tells_71 2 rfl rfl ?_
  refine zk_ldcs (pc := 72) B 2 (by decide) rfl rfl dL_tells_72 ?_
  refine zk_cvm (pc := 74) (k' := 0) (n' := 0) B rfl rfl (Nat.le_of_ble_eq_true rfl) (Nat.le_of_ble_eq_true rfl) (fun b hb => zr_V B hR kV_yL_writes km_L_34 kx_12 (gLaw_s ha) [.ref (z_sa X 2)] rfl rfl (Nat.le_of_ble_eq_true rfl) dL_tells_74 (m_Law_writes hX ha (by decide) M8 b hb) ⟨Nat.le_of_ble_eq_true rfl, Nat.le_of_ble_eq_true rfl⟩ ⟨Nat.le_of_ble_eq_true rfl, Nat.le_of_ble_eq_true rfl⟩) (fun M9 => ?_)
  refine zk_iconst (v := 0) (pc := 77) B dL_tells_77 (by decide) ?_
  refine zk_istore (loc' := [(5, .int 0), (4, .int x2), (3, .int x1), (0, .ref a), (1, .ref o), (2, .ref b9)]) (pc := 78) B dL_tells_78 (by decide) rfl ?_
  refine zk_sub [3, 4, 2, 1, 0] rfl ?_
  exact L80 10000 x1 x2 0 M9
