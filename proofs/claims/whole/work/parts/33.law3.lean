section LWC
variable {p : Program} {l : Launch} {e : Env} {s : State} {m : MethodId} {below : List Frame} {meth : Method} {c : Code} {Q : State → Prop} {b L : Nat} {xs : Nat → Int32} {k : KK} {am ar : Nat → Nat}
set_option maxHeartbeats 4000000 in
set_option maxRecDepth 100000 in
theorem lw_c116 (C : lwC p s m meth c b L xs k am ar) {S : SM} {g : SR} {H : Heap} {locs : List Loc} (hI : lwI k am ar s S g H locs) (hR : Rel S g) {x3 : Int32} (h1 : vp_in (x3 + 1) L) (h2 : vp_in (x3 + 2) L) (h3 : vp_in (x3 + 3) L) {ls : Array Slot} (hl : lv_has ls 4 [(0, .ref b), (1, .ref (am 0)), (2, .ref (ar 0)), (3, .int x3)])
    (kk : ∀ (S1 : SM) (g1 : SR) (H1 : Heap) (locs1 : List Loc), Rel S1 g1 → lwI k am ar s S1 g1 H1 locs1 → W p l e room_1 s m #[Value.ref b] below meth c H1 locs1 53 2014 Q (F0 m 593 ls [])) : W p l e room_1 s m #[Value.ref b] below meth c H locs 53 2014 Q (F0 m 116 ls []) := by
  obtain ⟨cx, hE, hX, hbl, hbA, hAp⟩ := C
  obtain ⟨hx, hb, hr, hml, hown, hts, hlocks⟩ := id cx
  obtain ⟨v, S1, g1, e1, e2, hR1⟩ := k_place (a1 := (xs (x3 + 1).toNatClampNeg)) (a2 := (xs (x3 + 2).toNatClampNeg)) hR
  refine lv_aload_n hx hb d_law_116 rfl (lv_at hl 1 rfl) ?_
  refine lv_aload_n hx hb d_law_117 rfl (lv_at hl 0 rfl) ?_
  refine lv_iload_n hx hb d_law_118 rfl (lv_at hl 3 rfl) ?_
  refine lv_iconst (v := 1) hx hb d_law_119 (by decide) ?_
  refine lv_iadd hx hb d_law_120 ?_
  refine va_sld hx hb hX hbl hbA hI.2.2.2.2 h1 d_law_121 ?_
  refine lv_aload_n hx hb d_law_122 rfl (lv_at hl 0 rfl) ?_
  refine lv_iload_n hx hb d_law_123 rfl (lv_at hl 3 rfl) ?_
  refine lv_iconst (v := 2) hx hb d_law_124 (by decide) ?_
  refine lv_iadd hx hb d_law_125 ?_
  refine va_sld hx hb hX hbl hbA hI.2.2.2.2 h2 d_law_126 ?_
  refine mp_mi (mp_runV (As := [.int (xs (x3 + 1).toNatClampNeg), .int (xs (x3 + 2).toNatClampNeg)]) (rest := []) cx kV_L_13 (cM_place l k am S (xs (x3 + 1).toNatClampNeg) (xs (x3 + 2).toNatClampNeg) (v, S1) e1) ⟨rfl, rfl, Nat.le_of_ble_eq_true rfl, Nat.le_of_ble_eq_true rfl⟩ ⟨Nat.le_of_ble_eq_true rfl, Nat.le_of_ble_eq_true rfl⟩ hE hI.1 hI.2.1 hI.2.2.2.2 0 rfl rfl rfl hl.1 rfl (Nat.le_of_ble_eq_true rfl) d_law_127) hI.2.2.2.2 (fun q h9 => mp_new hI.2.1 rfl q h9) (fun H1 locs1 hP1 hk1 hS1 => ?_)
  have hI : lwI k am ar s S1 g H1 locs1 := hI.m hAp hP1 hk1 hS1
  refine lv_aload_n hx hb d_law_130 rfl (lv_at hl 2 rfl) ?_
  refine lv_aload_n hx hb d_law_131 rfl (lv_at hl 0 rfl) ?_
  refine lv_iload_n hx hb d_law_132 rfl (lv_at hl 3 rfl) ?_
  refine lv_iconst (v := 1) hx hb d_law_133 (by decide) ?_
  refine lv_iadd hx hb d_law_134 ?_
  refine va_sld hx hb hX hbl hbA hI.2.2.2.2 h1 d_law_135 ?_
  refine lv_aload_n hx hb d_law_136 rfl (lv_at hl 0 rfl) ?_
  refine lv_iload_n hx hb d_law_137 rfl (lv_at hl 3 rfl) ?_
  refine lv_iconst (v := 2) hx hb d_law_138 (by decide) ?_
  refine lv_iadd hx hb d_law_139 ?_
  refine va_sld hx hb hX hbl hbA hI.2.2.2.2 h2 d_law_140 ?_
  refine mp_mi (mp_runV (As := [.int (xs (x3 + 1).toNatClampNeg), .int (xs (x3 + 2).toNatClampNeg)]) (rest := [.int v]) cx kV_L_17 (cR_place l k ar g (xs (x3 + 1).toNatClampNeg) (xs (x3 + 2).toNatClampNeg) (v, g1) e2) ⟨rfl, rfl, Nat.le_of_ble_eq_true rfl, Nat.le_of_ble_eq_true rfl⟩ ⟨Nat.le_of_ble_eq_true rfl, Nat.le_of_ble_eq_true rfl⟩ hE hI.2.2.1 hI.2.2.2.1 hI.2.2.2.2 0 rfl rfl rfl hl.1 rfl (Nat.le_of_ble_eq_true rfl) d_law_141) hI.2.2.2.2 (fun q h9 => mp_new hI.2.2.2.1 rfl q h9) (fun H1 locs1 hP1 hk1 hS1 => ?_)
  have hI : lwI k am ar s S1 g1 H1 locs1 := hI.r hAp hP1 hk1 hS1
  exact lv_icmp_eq (tgt := 593) hx hb d_law_144 (by decide) (fun _ => kk S1 g1 _ _ hR1 hI) (fun h9 => (h9 rfl).elim)
set_option maxHeartbeats 4000000 in
set_option maxRecDepth 100000 in
theorem lw_c149 (C : lwC p s m meth c b L xs k am ar) {S : SM} {g : SR} {H : Heap} {locs : List Loc} (hI : lwI k am ar s S g H locs) (hR : Rel S g) {x3 : Int32} (h1 : vp_in (x3 + 1) L) (h2 : vp_in (x3 + 2) L) (h3 : vp_in (x3 + 3) L) {ls : Array Slot} (hl : lv_has ls 4 [(0, .ref b), (1, .ref (am 0)), (2, .ref (ar 0)), (3, .int x3)])
    (kk : ∀ (S1 : SM) (g1 : SR) (H1 : Heap) (locs1 : List Loc), Rel S1 g1 → lwI k am ar s S1 g1 H1 locs1 → W p l e room_1 s m #[Value.ref b] below meth c H1 locs1 53 2014 Q (F0 m 593 ls [])) : W p l e room_1 s m #[Value.ref b] below meth c H locs 53 2014 Q (F0 m 149 ls []) := by
  obtain ⟨cx, hE, hX, hbl, hbA, hAp⟩ := C
  obtain ⟨hx, hb, hr, hml, hown, hts, hlocks⟩ := id cx
  obtain ⟨v, S1, g1, e1, e2, hR1⟩ := k_thread (a1 := (xs (x3 + 1).toNatClampNeg)) (a2 := (((xs (x3 + 2).toNatClampNeg).toInt64 <<< ((32 : Int32).toInt64 &&& 63)) ||| ((xs (x3 + 3).toNatClampNeg).toInt64 &&& 4294967295))) hR
  refine lv_aload_n hx hb d_law_149 rfl (lv_at hl 1 rfl) ?_
  refine lv_aload_n hx hb d_law_150 rfl (lv_at hl 0 rfl) ?_
  refine lv_iload_n hx hb d_law_151 rfl (lv_at hl 3 rfl) ?_
  refine lv_iconst (v := 1) hx hb d_law_152 (by decide) ?_
  refine lv_iadd hx hb d_law_153 ?_
  refine va_sld hx hb hX hbl hbA hI.2.2.2.2 h1 d_law_154 ?_
  refine lv_aload_n hx hb d_law_155 rfl (lv_at hl 0 rfl) ?_
  refine lv_iload_n hx hb d_law_156 rfl (lv_at hl 3 rfl) ?_
  refine lv_iconst (v := 2) hx hb d_law_157 (by decide) ?_
  refine lv_iadd hx hb d_law_158 ?_
  refine va_sld hx hb hX hbl hbA hI.2.2.2.2 h2 d_law_159 ?_
  refine lv_i2l hx hb d_law_160 rfl ?_
  refine lv_bipush (v := 32) hx hb d_law_161 (by decide) ?_
  refine lv_lshl hx hb d_law_163 rfl ?_
  refine lv_aload_n hx hb d_law_164 rfl (lv_at hl 0 rfl) ?_
  refine lv_iload_n hx hb d_law_165 rfl (lv_at hl 3 rfl) ?_
  refine lv_iconst (v := 3) hx hb d_law_166 (by decide) ?_
  refine lv_iadd hx hb d_law_167 ?_
  refine va_sld hx hb hX hbl hbA hI.2.2.2.2 h3 d_law_168 ?_
  refine lv_i2l hx hb d_law_169 rfl ?_
  refine lv_ldc2 hx hb hown (hts _ wq_600) d_law_170 ?_
  refine lv_land hx hb d_law_173 ?_
  refine lv_lor hx hb d_law_174 ?_
  refine mp_mi (mp_runV (As := [.int (xs (x3 + 1).toNatClampNeg), .long (((xs (x3 + 2).toNatClampNeg).toInt64 <<< ((32 : Int32).toInt64 &&& 63)) ||| ((xs (x3 + 3).toNatClampNeg).toInt64 &&& 4294967295))]) (rest := []) cx kV_L_20 (cM_thread l k am S (xs (x3 + 1).toNatClampNeg) (((xs (x3 + 2).toNatClampNeg).toInt64 <<< ((32 : Int32).toInt64 &&& 63)) ||| ((xs (x3 + 3).toNatClampNeg).toInt64 &&& 4294967295)) (v, S1) e1) ⟨rfl, rfl, Nat.le_of_ble_eq_true rfl, Nat.le_of_ble_eq_true rfl⟩ ⟨Nat.le_of_ble_eq_true rfl, Nat.le_of_ble_eq_true rfl⟩ hE hI.1 hI.2.1 hI.2.2.2.2 0 rfl rfl rfl hl.1 rfl (Nat.le_of_ble_eq_true rfl) d_law_175) hI.2.2.2.2 (fun q h9 => mp_new hI.2.1 rfl q h9) (fun H1 locs1 hP1 hk1 hS1 => ?_)
  have hI : lwI k am ar s S1 g H1 locs1 := hI.m hAp hP1 hk1 hS1
  refine lv_aload_n hx hb d_law_178 rfl (lv_at hl 2 rfl) ?_
  refine lv_aload_n hx hb d_law_179 rfl (lv_at hl 0 rfl) ?_
  refine lv_iload_n hx hb d_law_180 rfl (lv_at hl 3 rfl) ?_
  refine lv_iconst (v := 1) hx hb d_law_181 (by decide) ?_
  refine lv_iadd hx hb d_law_182 ?_
  refine va_sld hx hb hX hbl hbA hI.2.2.2.2 h1 d_law_183 ?_
  refine lv_aload_n hx hb d_law_184 rfl (lv_at hl 0 rfl) ?_
  refine lv_iload_n hx hb d_law_185 rfl (lv_at hl 3 rfl) ?_
  refine lv_iconst (v := 2) hx hb d_law_186 (by decide) ?_
  refine lv_iadd hx hb d_law_187 ?_
  refine va_sld hx hb hX hbl hbA hI.2.2.2.2 h2 d_law_188 ?_
  refine lv_i2l hx hb d_law_189 rfl ?_
  refine lv_bipush (v := 32) hx hb d_law_190 (by decide) ?_
  refine lv_lshl hx hb d_law_192 rfl ?_
  refine lv_aload_n hx hb d_law_193 rfl (lv_at hl 0 rfl) ?_
  refine lv_iload_n hx hb d_law_194 rfl (lv_at hl 3 rfl) ?_
  refine lv_iconst (v := 3) hx hb d_law_195 (by decide) ?_
  refine lv_iadd hx hb d_law_196 ?_
  refine va_sld hx hb hX hbl hbA hI.2.2.2.2 h3 d_law_197 ?_
  refine lv_i2l hx hb d_law_198 rfl ?_
  refine lv_ldc2 hx hb hown (hts _ wq_600) d_law_199 ?_
  refine lv_land hx hb d_law_202 ?_
  refine lv_lor hx hb d_law_203 ?_
  refine mp_mi (mp_runV (As := [.int (xs (x3 + 1).toNatClampNeg), .long (((xs (x3 + 2).toNatClampNeg).toInt64 <<< ((32 : Int32).toInt64 &&& 63)) ||| ((xs (x3 + 3).toNatClampNeg).toInt64 &&& 4294967295))]) (rest := [.int v]) cx kV_L_24 (cR_thread l k ar g (xs (x3 + 1).toNatClampNeg) (((xs (x3 + 2).toNatClampNeg).toInt64 <<< ((32 : Int32).toInt64 &&& 63)) ||| ((xs (x3 + 3).toNatClampNeg).toInt64 &&& 4294967295)) (v, g1) e2) ⟨rfl, rfl, Nat.le_of_ble_eq_true rfl, Nat.le_of_ble_eq_true rfl⟩ ⟨Nat.le_of_ble_eq_true rfl, Nat.le_of_ble_eq_true rfl⟩ hE hI.2.2.1 hI.2.2.2.1 hI.2.2.2.2 0 rfl rfl rfl hl.1 rfl (Nat.le_of_ble_eq_true rfl) d_law_204) hI.2.2.2.2 (fun q h9 => mp_new hI.2.2.2.1 rfl q h9) (fun H1 locs1 hP1 hk1 hS1 => ?_)
  have hI : lwI k am ar s S1 g1 H1 locs1 := hI.r hAp hP1 hk1 hS1
  exact lv_icmp_eq (tgt := 593) hx hb d_law_207 (by decide) (fun _ => kk S1 g1 _ _ hR1 hI) (fun h9 => (h9 rfl).elim)
set_option maxHeartbeats 4000000 in
set_option maxRecDepth 100000 in
theorem lw_c212 (C : lwC p s m meth c b L xs k am ar) {S : SM} {g : SR} {H : Heap} {locs : List Loc} (hI : lwI k am ar s S g H locs) (hR : Rel S g) {x3 : Int32} (h1 : vp_in (x3 + 1) L) (h2 : vp_in (x3 + 2) L) (h3 : vp_in (x3 + 3) L) {ls : Array Slot} (hl : lv_has ls 4 [(0, .ref b), (1, .ref (am 0)), (2, .ref (ar 0)), (3, .int x3)])
    (kk : ∀ (S1 : SM) (g1 : SR) (H1 : Heap) (locs1 : List Loc), Rel S1 g1 → lwI k am ar s S1 g1 H1 locs1 → W p l e room_1 s m #[Value.ref b] below meth c H1 locs1 53 2014 Q (F0 m 593 ls [])) : W p l e room_1 s m #[Value.ref b] below meth c H locs 53 2014 Q (F0 m 212 ls []) := by
  obtain ⟨cx, hE, hX, hbl, hbA, hAp⟩ := C
  obtain ⟨hx, hb, hr, hml, hown, hts, hlocks⟩ := id cx
  by_cases hB : (xs (x3 + 2).toNatClampNeg) = 0
  · obtain ⟨v, S1, g1, e1, e2, hR1⟩ := k_seal (a1 := (xs (x3 + 1).toNatClampNeg)) hR 0 (by omega)
    have e1 : fM_seal S (xs (x3 + 1).toNatClampNeg) 0 = some (v, S1) := e1
    have e2 : fR_seal g (xs (x3 + 1).toNatClampNeg) 0 = some (v, g1) := e2
    refine lv_aload_n hx hb d_law_212 rfl (lv_at hl 1 rfl) ?_
    refine lv_aload_n hx hb d_law_213 rfl (lv_at hl 0 rfl) ?_
    refine lv_iload_n hx hb d_law_214 rfl (lv_at hl 3 rfl) ?_
    refine lv_iconst (v := 1) hx hb d_law_215 (by decide) ?_
    refine lv_iadd hx hb d_law_216 ?_
    refine va_sld hx hb hX hbl hbA hI.2.2.2.2 h1 d_law_217 ?_
    refine lv_aload_n hx hb d_law_218 rfl (lv_at hl 0 rfl) ?_
    refine lv_iload_n hx hb d_law_219 rfl (lv_at hl 3 rfl) ?_
    refine lv_iconst (v := 2) hx hb d_law_220 (by decide) ?_
    refine lv_iadd hx hb d_law_221 ?_
    refine va_sld hx hb hX hbl hbA hI.2.2.2.2 h2 d_law_222 ?_
    refine lv_if_eq (tgt := 230) hx hb d_law_223 (by decide) (fun _ => ?_) (fun h9 => absurd hB h9)
    refine lv_iconst (v := 0) hx hb d_law_230 (by decide) ?_
    refine mp_mi (mp_runV (As := [.int (xs (x3 + 1).toNatClampNeg), .int 0]) (rest := []) cx kV_L_25 (cM_seal l k am S (xs (x3 + 1).toNatClampNeg) 0 (v, S1) e1) ⟨rfl, rfl, Nat.le_of_ble_eq_true rfl, Nat.le_of_ble_eq_true rfl⟩ ⟨Nat.le_of_ble_eq_true rfl, Nat.le_of_ble_eq_true rfl⟩ hE hI.1 hI.2.1 hI.2.2.2.2 0 rfl rfl rfl hl.1 rfl (Nat.le_of_ble_eq_true rfl) d_law_231) hI.2.2.2.2 (fun q h9 => mp_new hI.2.1 rfl q h9) (fun H1 locs1 hP1 hk1 hS1 => ?_)
    have hI : lwI k am ar s S1 g H1 locs1 := hI.m hAp hP1 hk1 hS1
    refine lv_aload_n hx hb d_law_234 rfl (lv_at hl 2 rfl) ?_
    refine lv_aload_n hx hb d_law_235 rfl (lv_at hl 0 rfl) ?_
    refine lv_iload_n hx hb d_law_236 rfl (lv_at hl 3 rfl) ?_
    refine lv_iconst (v := 1) hx hb d_law_237 (by decide) ?_
    refine lv_iadd hx hb d_law_238 ?_
    refine va_sld hx hb hX hbl hbA hI.2.2.2.2 h1 d_law_239 ?_
    refine lv_aload_n hx hb d_law_240 rfl (lv_at hl 0 rfl) ?_
    refine lv_iload_n hx hb d_law_241 rfl (lv_at hl 3 rfl) ?_
    refine lv_iconst (v := 2) hx hb d_law_242 (by decide) ?_
    refine lv_iadd hx hb d_law_243 ?_
    refine va_sld hx hb hX hbl hbA hI.2.2.2.2 h2 d_law_244 ?_
    refine lv_if_eq (tgt := 252) hx hb d_law_245 (by decide) (fun _ => ?_) (fun h9 => absurd hB h9)
    refine lv_iconst (v := 0) hx hb d_law_252 (by decide) ?_
    refine mp_mi (mp_runV (As := [.int (xs (x3 + 1).toNatClampNeg), .int 0]) (rest := [.int v]) cx kV_L_29 (cR_seal l k ar g (xs (x3 + 1).toNatClampNeg) 0 (v, g1) e2) ⟨rfl, rfl, Nat.le_of_ble_eq_true rfl, Nat.le_of_ble_eq_true rfl⟩ ⟨Nat.le_of_ble_eq_true rfl, Nat.le_of_ble_eq_true rfl⟩ hE hI.2.2.1 hI.2.2.2.1 hI.2.2.2.2 0 rfl rfl rfl hl.1 rfl (Nat.le_of_ble_eq_true rfl) d_law_253) hI.2.2.2.2 (fun q h9 => mp_new hI.2.2.2.1 rfl q h9) (fun H1 locs1 hP1 hk1 hS1 => ?_)
    have hI : lwI k am ar s S1 g1 H1 locs1 := hI.r hAp hP1 hk1 hS1
    exact lv_icmp_eq (tgt := 593) hx hb d_law_256 (by decide) (fun _ => kk S1 g1 _ _ hR1 hI) (fun h9 => (h9 rfl).elim)
  · obtain ⟨v, S1, g1, e1, e2, hR1⟩ := k_seal (a1 := (xs (x3 + 1).toNatClampNeg)) hR 1 (by omega)
    have e1 : fM_seal S (xs (x3 + 1).toNatClampNeg) 1 = some (v, S1) := e1
    have e2 : fR_seal g (xs (x3 + 1).toNatClampNeg) 1 = some (v, g1) := e2
    refine lv_aload_n hx hb d_law_212 rfl (lv_at hl 1 rfl) ?_
    refine lv_aload_n hx hb d_law_213 rfl (lv_at hl 0 rfl) ?_
    refine lv_iload_n hx hb d_law_214 rfl (lv_at hl 3 rfl) ?_
    refine lv_iconst (v := 1) hx hb d_law_215 (by decide) ?_
    refine lv_iadd hx hb d_law_216 ?_
    refine va_sld hx hb hX hbl hbA hI.2.2.2.2 h1 d_law_217 ?_
    refine lv_aload_n hx hb d_law_218 rfl (lv_at hl 0 rfl) ?_
    refine lv_iload_n hx hb d_law_219 rfl (lv_at hl 3 rfl) ?_
    refine lv_iconst (v := 2) hx hb d_law_220 (by decide) ?_
    refine lv_iadd hx hb d_law_221 ?_
    refine va_sld hx hb hX hbl hbA hI.2.2.2.2 h2 d_law_222 ?_
    refine lv_if_eq (tgt := 230) hx hb d_law_223 (by decide) (fun h9 => absurd h9 hB) (fun _ => ?_)
    refine lv_iconst (v := 1) hx hb d_law_226 (by decide) ?_
    refine lv_goto (tgt := 231) hx hb d_law_227 (by decide) ?_
    refine mp_mi (mp_runV (As := [.int (xs (x3 + 1).toNatClampNeg), .int 1]) (rest := []) cx kV_L_25 (cM_seal l k am S (xs (x3 + 1).toNatClampNeg) 1 (v, S1) e1) ⟨rfl, rfl, Nat.le_of_ble_eq_true rfl, Nat.le_of_ble_eq_true rfl⟩ ⟨Nat.le_of_ble_eq_true rfl, Nat.le_of_ble_eq_true rfl⟩ hE hI.1 hI.2.1 hI.2.2.2.2 0 rfl rfl rfl hl.1 rfl (Nat.le_of_ble_eq_true rfl) d_law_231) hI.2.2.2.2 (fun q h9 => mp_new hI.2.1 rfl q h9) (fun H1 locs1 hP1 hk1 hS1 => ?_)
    have hI : lwI k am ar s S1 g H1 locs1 := hI.m hAp hP1 hk1 hS1
    refine lv_aload_n hx hb d_law_234 rfl (lv_at hl 2 rfl) ?_
    refine lv_aload_n hx hb d_law_235 rfl (lv_at hl 0 rfl) ?_
    refine lv_iload_n hx hb d_law_236 rfl (lv_at hl 3 rfl) ?_
    refine lv_iconst (v := 1) hx hb d_law_237 (by decide) ?_
    refine lv_iadd hx hb d_law_238 ?_
    refine va_sld hx hb hX hbl hbA hI.2.2.2.2 h1 d_law_239 ?_
    refine lv_aload_n hx hb d_law_240 rfl (lv_at hl 0 rfl) ?_
    refine lv_iload_n hx hb d_law_241 rfl (lv_at hl 3 rfl) ?_
    refine lv_iconst (v := 2) hx hb d_law_242 (by decide) ?_
    refine lv_iadd hx hb d_law_243 ?_
    refine va_sld hx hb hX hbl hbA hI.2.2.2.2 h2 d_law_244 ?_
    refine lv_if_eq (tgt := 252) hx hb d_law_245 (by decide) (fun h9 => absurd h9 hB) (fun _ => ?_)
    refine lv_iconst (v := 1) hx hb d_law_248 (by decide) ?_
    refine lv_goto (tgt := 253) hx hb d_law_249 (by decide) ?_
    refine mp_mi (mp_runV (As := [.int (xs (x3 + 1).toNatClampNeg), .int 1]) (rest := [.int v]) cx kV_L_29 (cR_seal l k ar g (xs (x3 + 1).toNatClampNeg) 1 (v, g1) e2) ⟨rfl, rfl, Nat.le_of_ble_eq_true rfl, Nat.le_of_ble_eq_true rfl⟩ ⟨Nat.le_of_ble_eq_true rfl, Nat.le_of_ble_eq_true rfl⟩ hE hI.2.2.1 hI.2.2.2.1 hI.2.2.2.2 0 rfl rfl rfl hl.1 rfl (Nat.le_of_ble_eq_true rfl) d_law_253) hI.2.2.2.2 (fun q h9 => mp_new hI.2.2.2.1 rfl q h9) (fun H1 locs1 hP1 hk1 hS1 => ?_)
    have hI : lwI k am ar s S1 g1 H1 locs1 := hI.r hAp hP1 hk1 hS1
    exact lv_icmp_eq (tgt := 593) hx hb d_law_256 (by decide) (fun _ => kk S1 g1 _ _ hR1 hI) (fun h9 => (h9 rfl).elim)
set_option maxHeartbeats 4000000 in
set_option maxRecDepth 100000 in
theorem lw_c261 (C : lwC p s m meth c b L xs k am ar) {S : SM} {g : SR} {H : Heap} {locs : List Loc} (hI : lwI k am ar s S g H locs) (hR : Rel S g) {x3 : Int32} (h1 : vp_in (x3 + 1) L) (h2 : vp_in (x3 + 2) L) (h3 : vp_in (x3 + 3) L) {ls : Array Slot} (hl : lv_has ls 4 [(0, .ref b), (1, .ref (am 0)), (2, .ref (ar 0)), (3, .int x3)])
    (kk : ∀ (S1 : SM) (g1 : SR) (H1 : Heap) (locs1 : List Loc), Rel S1 g1 → lwI k am ar s S1 g1 H1 locs1 → W p l e room_1 s m #[Value.ref b] below meth c H1 locs1 53 2014 Q (F0 m 593 ls [])) : W p l e room_1 s m #[Value.ref b] below meth c H locs 53 2014 Q (F0 m 261 ls []) := by
  obtain ⟨cx, hE, hX, hbl, hbA, hAp⟩ := C
  obtain ⟨hx, hb, hr, hml, hown, hts, hlocks⟩ := id cx
  obtain ⟨v, S1, g1, e1, e2, hR1⟩ := k_message (a1 := (xs (x3 + 1).toNatClampNeg)) (a2 := (xs (x3 + 2).toNatClampNeg)) hR
  refine lv_aload_n hx hb d_law_261 rfl (lv_at hl 1 rfl) ?_
  refine lv_aload_n hx hb d_law_262 rfl (lv_at hl 0 rfl) ?_
  refine lv_iload_n hx hb d_law_263 rfl (lv_at hl 3 rfl) ?_
  refine lv_iconst (v := 1) hx hb d_law_264 (by decide) ?_
  refine lv_iadd hx hb d_law_265 ?_
  refine va_sld hx hb hX hbl hbA hI.2.2.2.2 h1 d_law_266 ?_
  refine lv_aload_n hx hb d_law_267 rfl (lv_at hl 0 rfl) ?_
  refine lv_iload_n hx hb d_law_268 rfl (lv_at hl 3 rfl) ?_
  refine lv_iconst (v := 2) hx hb d_law_269 (by decide) ?_
  refine lv_iadd hx hb d_law_270 ?_
  refine va_sld hx hb hX hbl hbA hI.2.2.2.2 h2 d_law_271 ?_
  refine mp_mi (mp_runV (As := [.int (xs (x3 + 1).toNatClampNeg), .int (xs (x3 + 2).toNatClampNeg)]) (rest := []) cx kV_L_30 (cM_message l k am S (xs (x3 + 1).toNatClampNeg) (xs (x3 + 2).toNatClampNeg) (v, S1) e1) ⟨rfl, rfl, Nat.le_of_ble_eq_true rfl, Nat.le_of_ble_eq_true rfl⟩ ⟨Nat.le_of_ble_eq_true rfl, Nat.le_of_ble_eq_true rfl⟩ hE hI.1 hI.2.1 hI.2.2.2.2 0 rfl rfl rfl hl.1 rfl (Nat.le_of_ble_eq_true rfl) d_law_272) hI.2.2.2.2 (fun q h9 => mp_new hI.2.1 rfl q h9) (fun H1 locs1 hP1 hk1 hS1 => ?_)
  have hI : lwI k am ar s S1 g H1 locs1 := hI.m hAp hP1 hk1 hS1
  refine lv_aload_n hx hb d_law_275 rfl (lv_at hl 2 rfl) ?_
  refine lv_aload_n hx hb d_law_276 rfl (lv_at hl 0 rfl) ?_
  refine lv_iload_n hx hb d_law_277 rfl (lv_at hl 3 rfl) ?_
  refine lv_iconst (v := 1) hx hb d_law_278 (by decide) ?_
  refine lv_iadd hx hb d_law_279 ?_
  refine va_sld hx hb hX hbl hbA hI.2.2.2.2 h1 d_law_280 ?_
  refine lv_aload_n hx hb d_law_281 rfl (lv_at hl 0 rfl) ?_
  refine lv_iload_n hx hb d_law_282 rfl (lv_at hl 3 rfl) ?_
  refine lv_iconst (v := 2) hx hb d_law_283 (by decide) ?_
  refine lv_iadd hx hb d_law_284 ?_
  refine va_sld hx hb hX hbl hbA hI.2.2.2.2 h2 d_law_285 ?_
  refine mp_mi (mp_runV (As := [.int (xs (x3 + 1).toNatClampNeg), .int (xs (x3 + 2).toNatClampNeg)]) (rest := [.int v]) cx kV_L_33 (cR_message l k ar g (xs (x3 + 1).toNatClampNeg) (xs (x3 + 2).toNatClampNeg) (v, g1) e2) ⟨rfl, rfl, Nat.le_of_ble_eq_true rfl, Nat.le_of_ble_eq_true rfl⟩ ⟨Nat.le_of_ble_eq_true rfl, Nat.le_of_ble_eq_true rfl⟩ hE hI.2.2.1 hI.2.2.2.1 hI.2.2.2.2 0 rfl rfl rfl hl.1 rfl (Nat.le_of_ble_eq_true rfl) d_law_286) hI.2.2.2.2 (fun q h9 => mp_new hI.2.2.2.1 rfl q h9) (fun H1 locs1 hP1 hk1 hS1 => ?_)
  have hI : lwI k am ar s S1 g1 H1 locs1 := hI.r hAp hP1 hk1 hS1
  exact lv_icmp_eq (tgt := 593) hx hb d_law_289 (by decide) (fun _ => kk S1 g1 _ _ hR1 hI) (fun h9 => (h9 rfl).elim)
set_option maxHeartbeats 4000000 in
set_option maxRecDepth 100000 in
theorem lw_c294 (C : lwC p s m meth c b L xs k am ar) {S : SM} {g : SR} {H : Heap} {locs : List Loc} (hI : lwI k am ar s S g H locs) (hR : Rel S g) {x3 : Int32} (h1 : vp_in (x3 + 1) L) (h2 : vp_in (x3 + 2) L) (h3 : vp_in (x3 + 3) L) {ls : Array Slot} (hl : lv_has ls 4 [(0, .ref b), (1, .ref (am 0)), (2, .ref (ar 0)), (3, .int x3)])
    (kk : ∀ (S1 : SM) (g1 : SR) (H1 : Heap) (locs1 : List Loc), Rel S1 g1 → lwI k am ar s S1 g1 H1 locs1 → W p l e room_1 s m #[Value.ref b] below meth c H1 locs1 53 2014 Q (F0 m 593 ls [])) : W p l e room_1 s m #[Value.ref b] below meth c H locs 53 2014 Q (F0 m 294 ls []) := by
  obtain ⟨cx, hE, hX, hbl, hbA, hAp⟩ := C
  obtain ⟨hx, hb, hr, hml, hown, hts, hlocks⟩ := id cx
  obtain ⟨v, e1, e2⟩ := k_ofPlace (a1 := (xs (x3 + 1).toNatClampNeg)) (a2 := (xs (x3 + 2).toNatClampNeg)) hR
  refine lv_aload_n hx hb d_law_294 rfl (lv_at hl 1 rfl) ?_
  refine lv_aload_n hx hb d_law_295 rfl (lv_at hl 0 rfl) ?_
  refine lv_iload_n hx hb d_law_296 rfl (lv_at hl 3 rfl) ?_
  refine lv_iconst (v := 1) hx hb d_law_297 (by decide) ?_
  refine lv_iadd hx hb d_law_298 ?_
  refine va_sld hx hb hX hbl hbA hI.2.2.2.2 h1 d_law_299 ?_
  refine lv_aload_n hx hb d_law_300 rfl (lv_at hl 0 rfl) ?_
  refine lv_iload_n hx hb d_law_301 rfl (lv_at hl 3 rfl) ?_
  refine lv_iconst (v := 2) hx hb d_law_302 (by decide) ?_
  refine lv_iadd hx hb d_law_303 ?_
  refine va_sld hx hb hX hbl hbA hI.2.2.2.2 h2 d_law_304 ?_
  refine mp_si (mp_runV (As := [.int (xs (x3 + 1).toNatClampNeg), .int (xs (x3 + 2).toNatClampNeg)]) (rest := []) cx kV_L_34 (cM_ofPlace l k am S (xs (x3 + 1).toNatClampNeg) (xs (x3 + 2).toNatClampNeg) v e1) ⟨rfl, rfl, Nat.le_of_ble_eq_true rfl, Nat.le_of_ble_eq_true rfl⟩ ⟨Nat.le_of_ble_eq_true rfl, Nat.le_of_ble_eq_true rfl⟩ hE hI.1 hI.2.1 hI.2.2.2.2 0 rfl rfl rfl hl.1 rfl (Nat.le_of_ble_eq_true rfl) d_law_305) ?_
  refine lv_aload_n hx hb d_law_308 rfl (lv_at hl 2 rfl) ?_
  refine lv_aload_n hx hb d_law_309 rfl (lv_at hl 0 rfl) ?_
  refine lv_iload_n hx hb d_law_310 rfl (lv_at hl 3 rfl) ?_
  refine lv_iconst (v := 1) hx hb d_law_311 (by decide) ?_
  refine lv_iadd hx hb d_law_312 ?_
  refine va_sld hx hb hX hbl hbA hI.2.2.2.2 h1 d_law_313 ?_
  refine lv_aload_n hx hb d_law_314 rfl (lv_at hl 0 rfl) ?_
  refine lv_iload_n hx hb d_law_315 rfl (lv_at hl 3 rfl) ?_
  refine lv_iconst (v := 2) hx hb d_law_316 (by decide) ?_
  refine lv_iadd hx hb d_law_317 ?_
  refine va_sld hx hb hX hbl hbA hI.2.2.2.2 h2 d_law_318 ?_
  refine mp_si (mp_runV (As := [.int (xs (x3 + 1).toNatClampNeg), .int (xs (x3 + 2).toNatClampNeg)]) (rest := [.int v]) cx kV_L_37 (cR_ofPlace l k ar g (xs (x3 + 1).toNatClampNeg) (xs (x3 + 2).toNatClampNeg) v e2) ⟨rfl, rfl, Nat.le_of_ble_eq_true rfl, Nat.le_of_ble_eq_true rfl⟩ ⟨Nat.le_of_ble_eq_true rfl, Nat.le_of_ble_eq_true rfl⟩ hE hI.2.2.1 hI.2.2.2.1 hI.2.2.2.2 0 rfl rfl rfl hl.1 rfl (Nat.le_of_ble_eq_true rfl) d_law_319) ?_
  exact lv_icmp_eq (tgt := 593) hx hb d_law_322 (by decide) (fun _ => kk S g _ _ hR hI) (fun h9 => (h9 rfl).elim)
set_option maxHeartbeats 4000000 in
set_option maxRecDepth 100000 in
theorem lw_c327 (C : lwC p s m meth c b L xs k am ar) {S : SM} {g : SR} {H : Heap} {locs : List Loc} (hI : lwI k am ar s S g H locs) (hR : Rel S g) {x3 : Int32} (h1 : vp_in (x3 + 1) L) (h2 : vp_in (x3 + 2) L) (h3 : vp_in (x3 + 3) L) {ls : Array Slot} (hl : lv_has ls 4 [(0, .ref b), (1, .ref (am 0)), (2, .ref (ar 0)), (3, .int x3)])
    (kk : ∀ (S1 : SM) (g1 : SR) (H1 : Heap) (locs1 : List Loc), Rel S1 g1 → lwI k am ar s S1 g1 H1 locs1 → W p l e room_1 s m #[Value.ref b] below meth c H1 locs1 53 2014 Q (F0 m 593 ls [])) : W p l e room_1 s m #[Value.ref b] below meth c H locs 53 2014 Q (F0 m 327 ls []) := by
  obtain ⟨cx, hE, hX, hbl, hbA, hAp⟩ := C
  obtain ⟨hx, hb, hr, hml, hown, hts, hlocks⟩ := id cx
  obtain ⟨v, e1, e2⟩ := k_ofThread (a1 := (xs (x3 + 1).toNatClampNeg)) (a2 := (xs (x3 + 2).toNatClampNeg)) hR
  refine lv_aload_n hx hb d_law_327 rfl (lv_at hl 1 rfl) ?_
  refine lv_aload_n hx hb d_law_328 rfl (lv_at hl 0 rfl) ?_
  refine lv_iload_n hx hb d_law_329 rfl (lv_at hl 3 rfl) ?_
  refine lv_iconst (v := 1) hx hb d_law_330 (by decide) ?_
  refine lv_iadd hx hb d_law_331 ?_
  refine va_sld hx hb hX hbl hbA hI.2.2.2.2 h1 d_law_332 ?_
  refine lv_aload_n hx hb d_law_333 rfl (lv_at hl 0 rfl) ?_
  refine lv_iload_n hx hb d_law_334 rfl (lv_at hl 3 rfl) ?_
  refine lv_iconst (v := 2) hx hb d_law_335 (by decide) ?_
  refine lv_iadd hx hb d_law_336 ?_
  refine va_sld hx hb hX hbl hbA hI.2.2.2.2 h2 d_law_337 ?_
  refine mp_si (mp_runV (As := [.int (xs (x3 + 1).toNatClampNeg), .int (xs (x3 + 2).toNatClampNeg)]) (rest := []) cx kV_L_38 (cM_ofThread l k am S (xs (x3 + 1).toNatClampNeg) (xs (x3 + 2).toNatClampNeg) v e1) ⟨rfl, rfl, Nat.le_of_ble_eq_true rfl, Nat.le_of_ble_eq_true rfl⟩ ⟨Nat.le_of_ble_eq_true rfl, Nat.le_of_ble_eq_true rfl⟩ hE hI.1 hI.2.1 hI.2.2.2.2 0 rfl rfl rfl hl.1 rfl (Nat.le_of_ble_eq_true rfl) d_law_338) ?_
  refine lv_aload_n hx hb d_law_341 rfl (lv_at hl 2 rfl) ?_
  refine lv_aload_n hx hb d_law_342 rfl (lv_at hl 0 rfl) ?_
  refine lv_iload_n hx hb d_law_343 rfl (lv_at hl 3 rfl) ?_
  refine lv_iconst (v := 1) hx hb d_law_344 (by decide) ?_
  refine lv_iadd hx hb d_law_345 ?_
  refine va_sld hx hb hX hbl hbA hI.2.2.2.2 h1 d_law_346 ?_
  refine lv_aload_n hx hb d_law_347 rfl (lv_at hl 0 rfl) ?_
  refine lv_iload_n hx hb d_law_348 rfl (lv_at hl 3 rfl) ?_
  refine lv_iconst (v := 2) hx hb d_law_349 (by decide) ?_
  refine lv_iadd hx hb d_law_350 ?_
  refine va_sld hx hb hX hbl hbA hI.2.2.2.2 h2 d_law_351 ?_
  refine mp_si (mp_runV (As := [.int (xs (x3 + 1).toNatClampNeg), .int (xs (x3 + 2).toNatClampNeg)]) (rest := [.int v]) cx kV_L_41 (cR_ofThread l k ar g (xs (x3 + 1).toNatClampNeg) (xs (x3 + 2).toNatClampNeg) v e2) ⟨rfl, rfl, Nat.le_of_ble_eq_true rfl, Nat.le_of_ble_eq_true rfl⟩ ⟨Nat.le_of_ble_eq_true rfl, Nat.le_of_ble_eq_true rfl⟩ hE hI.2.2.1 hI.2.2.2.1 hI.2.2.2.2 0 rfl rfl rfl hl.1 rfl (Nat.le_of_ble_eq_true rfl) d_law_352) ?_
  exact lv_icmp_eq (tgt := 593) hx hb d_law_355 (by decide) (fun _ => kk S g _ _ hR hI) (fun h9 => (h9 rfl).elim)
end LWC
