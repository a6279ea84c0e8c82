set_option maxHeartbeats 4000000 in
set_option maxRecDepth 100000 in
theorem t_M_midnightOf_255 {p : Program} {l : Launch} {e : Env} {s : State} {m : MethodId} {args : Array Value} {below : List Frame} {meth : Method} {c : Code} {D : va_G} {cy : Nat → ClassId} {ad : Nat → Nat} {A : Nat → Prop} (C : Cx p s m args meth c D cy cX10_midnightOf 8 RX10 (some .int) A (wM cy ad)) {N : Nat} {k60 : St → Int32 → Int32 → Int32 → Option (Int32 × St)} {r : Int32 × St} (h60 : ∀ (X : St) (v1 : Int32) (v2 : Int32) (v3 : Int32), k60 X v1 v2 v3 = some r → SW p l e ({ frames := 4, cells := 0, slots := 0, locals := 92 } : Room) s m args below meth c D 8 A (wM cy ad) (MQ below (poI D (wM cy ad) A r.1 r.2) args s 0 0 A) X [(0, .ref (ad 0)), (1, .int v1), (2, .int v2), (3, .int v3)] 60 []) : ∀ (X : St) (v1 : Int32) (v2 : Int32) (v3 : Int32), jM_midnightOf_255 N k60 X v1 v2 v3 = some r → SW p l e ({ frames := 4, cells := 0, slots := 0, locals := 92 } : Room) s m args below meth c D 8 A (wM cy ad) (MQ below (poI D (wM cy ad) A r.1 r.2) args s 0 0 A) X [(0, .ref (ad 0)), (1, .int v1), (2, .int v2), (3, .int v3)] 255 [] := by
  intro X v1 v2 v3 hJ
  unfold jM_midnightOf_255 at hJ
  refine sw_goto (pc := 255) (tgt := 60) C dX10_midnightOf_255 (by decide) ?_
  exact sw_sub [0, 1, 2, 3] (by rfl) (h60 _ _ _ _ hJ)
set_option maxHeartbeats 4000000 in
set_option maxRecDepth 100000 in
theorem t_M_midnightOf_211 {p : Program} {l : Launch} {e : Env} {s : State} {m : MethodId} {args : Array Value} {below : List Frame} {meth : Method} {c : Code} {D : va_G} {cy : Nat → ClassId} {ad : Nat → Nat} {A : Nat → Prop} (C : Cx p s m args meth c D cy cX10_midnightOf 8 RX10 (some .int) A (wM cy ad)) {N : Nat} {k60 : St → Int32 → Int32 → Int32 → Option (Int32 × St)} {r : Int32 × St} (h60 : ∀ (X : St) (v1 : Int32) (v2 : Int32) (v3 : Int32), k60 X v1 v2 v3 = some r → SW p l e ({ frames := 4, cells := 0, slots := 0, locals := 92 } : Room) s m args below meth c D 8 A (wM cy ad) (MQ below (poI D (wM cy ad) A r.1 r.2) args s 0 0 A) X [(0, .ref (ad 0)), (1, .int v1), (2, .int v2), (3, .int v3)] 60 []) : ∀ (X : St) (v1 : Int32) (v2 : Int32) (v3 : Int32) (s0 : Int32), jM_midnightOf_211 N k60 X v1 v2 v3 s0 = some r → SW p l e ({ frames := 4, cells := 0, slots := 0, locals := 92 } : Room) s m args below meth c D 8 A (wM cy ad) (MQ below (poI D (wM cy ad) A r.1 r.2) args s 0 0 A) X [(0, .ref (ad 0)), (1, .int v1), (2, .int v2), (3, .int v3)] 211 [.int s0] := by
  intro X v1 v2 v3 s0 hJ
  unfold jM_midnightOf_211 at hJ
  refine sw_istore (pc := 211) C dX10_midnightOf_211 (by decide) (ll2 := [(7, .int s0), (0, .ref (ad 0)), (1, .int v1), (2, .int v2), (3, .int v3)]) rfl ?_
  refine sw_iload_n (pc := 213) C 3 dX10_midnightOf_213 rfl rfl ?_
  refine sw_iconst (pc := 214) C (v := (1 : Int32)) dX10_midnightOf_214 (by decide) ?_
  refine sw_iadd (pc := 215) C dX10_midnightOf_215 ?_
  refine sw_iload_n (pc := 216) C 2 dX10_midnightOf_216 rfl rfl ?_
  refine sw_icmp_ne (pc := 217) (tgt := 232) C dX10_midnightOf_217 (by decide) (fun hb217 => ?_) (fun hb217 => ?_)
  · replace hJ := iten hb217 hJ
    refine sw_iinc (pc := 232) C 3 dX10_midnightOf_232 rfl (v := (v2 + (1 : Int32))) (congrArg (fun z => v2 + z) (by decide)) (by decide) (ll2 := [(2, .int (v2 + (1 : Int32))), (7, .int s0), (0, .ref (ad 0)), (1, .int v1), (3, .int v3)]) rfl ?_
    refine sw_aload_n (pc := 235) C 2 dX10_midnightOf_235 rfl rfl ?_
    refine sw_iload_n (pc := 236) C 0 dX10_midnightOf_236 rfl rfl ?_
    obtain ⟨q237, hq237, hJ⟩ := bind_some hJ
    refine sw_callV_v (pc := 237) C (st := []) (As := [.int (v2 + (1 : Int32))]) (k_M_saveAt C.2.2.2.2.2.2.1 hq237) pk_X10_saveAt wd_31_5 0 rfl rfl rfl ⟨Nat.le_of_ble_eq_true rfl, Nat.le_of_ble_eq_true rfl⟩ ⟨rfl, rfl⟩ rfl rfl (Nat.le_of_ble_eq_true rfl) dX10_midnightOf_237 ?_
    refine sw_aload_n (pc := 240) C 2 dX10_midnightOf_240 rfl rfl ?_
    refine gM_0_26 (pc := 241) C wd_4_23 dX10_midnightOf_241 ?_
    refine sw_iload_n (pc := 244) C 0 dX10_midnightOf_244 rfl rfl ?_
    refine sw_iconst (pc := 245) C (v := (-1 : Int32)) dX10_midnightOf_245 (by decide) ?_
    obtain ⟨hi246, hJ⟩ := gd hJ
    refine tM_12 (pc := 246) C hi246 dX10_midnightOf_246 ?_
    refine sw_aload_n (pc := 247) C 2 dX10_midnightOf_247 rfl rfl ?_
    refine gM_0_27 (pc := 248) C wd_5_0 dX10_midnightOf_248 ?_
    refine sw_iload_n (pc := 251) C 0 dX10_midnightOf_251 rfl rfl ?_
    refine sw_bipush (pc := 252) C (v := (-2 : Int32)) dX10_midnightOf_252 (by decide) ?_
    obtain ⟨hi254, hJ⟩ := gd hJ
    refine tM_13 (pc := 254) C hi254 dX10_midnightOf_254 ?_
    exact sw_sub [2, 3, 0, 4] (by rfl) (t_M_midnightOf_255 C h60 _ _ _ _ hJ)
  · replace hJ := itep hb217 hJ
    refine sw_aload_n (pc := 220) C 1 dX10_midnightOf_220 rfl rfl ?_
    refine sw_iload_n (pc := 221) C 3 dX10_midnightOf_221 rfl rfl ?_
    refine sw_aload_n (pc := 222) C 1 dX10_midnightOf_222 rfl rfl ?_
    obtain ⟨q223, hq223, hJ⟩ := bind_some hJ
    refine sw_callV_i (pc := 223) C (st := [.int v2, .ref (ad 0)]) (As := []) (k_M_onTop C.2.2.2.2.2.2.1 hq223) pk_X10_onTop wd_31_21 0 rfl rfl rfl ⟨Nat.le_of_ble_eq_true rfl, Nat.le_of_ble_eq_true rfl⟩ ⟨rfl, rfl⟩ rfl rfl (Nat.le_of_ble_eq_true rfl) dX10_midnightOf_223 ?_
    obtain ⟨q226, hq226, hJ⟩ := bind_some hJ
    refine sw_callV_v (pc := 226) C (st := []) (As := [.int v2, .int q223]) (k_M_keep C.2.2.2.2.2.2.1 hq226) pk_X10_keep wd_31_17 0 rfl rfl rfl ⟨Nat.le_of_ble_eq_true rfl, Nat.le_of_ble_eq_true rfl⟩ ⟨rfl, rfl⟩ rfl rfl (Nat.le_of_ble_eq_true rfl) dX10_midnightOf_226 ?_
    refine sw_goto (pc := 229) (tgt := 255) C dX10_midnightOf_229 (by decide) ?_
    exact sw_sub [1, 2, 3, 4] (by rfl) (t_M_midnightOf_255 C h60 _ _ _ _ hJ)
set_option maxHeartbeats 4000000 in
set_option maxRecDepth 100000 in
theorem t_M_midnightOf_210 {p : Program} {l : Launch} {e : Env} {s : State} {m : MethodId} {args : Array Value} {below : List Frame} {meth : Method} {c : Code} {D : va_G} {cy : Nat → ClassId} {ad : Nat → Nat} {A : Nat → Prop} (C : Cx p s m args meth c D cy cX10_midnightOf 8 RX10 (some .int) A (wM cy ad)) {N : Nat} {k60 : St → Int32 → Int32 → Int32 → Option (Int32 × St)} {r : Int32 × St} (h60 : ∀ (X : St) (v1 : Int32) (v2 : Int32) (v3 : Int32), k60 X v1 v2 v3 = some r → SW p l e ({ frames := 4, cells := 0, slots := 0, locals := 92 } : Room) s m args below meth c D 8 A (wM cy ad) (MQ below (poI D (wM cy ad) A r.1 r.2) args s 0 0 A) X [(0, .ref (ad 0)), (1, .int v1), (2, .int v2), (3, .int v3)] 60 []) : ∀ (X : St) (v1 : Int32) (v2 : Int32) (v3 : Int32), jM_midnightOf_210 N k60 X v1 v2 v3 = some r → SW p l e ({ frames := 4, cells := 0, slots := 0, locals := 92 } : Room) s m args below meth c D 8 A (wM cy ad) (MQ below (poI D (wM cy ad) A r.1 r.2) args s 0 0 A) X [(0, .ref (ad 0)), (1, .int v1), (2, .int v2), (3, .int v3)] 210 [] := by
  intro X v1 v2 v3 hJ
  unfold jM_midnightOf_210 at hJ
  refine sw_iconst (pc := 210) C (v := (0 : Int32)) dX10_midnightOf_210 (by decide) ?_
  exact sw_sub [0, 1, 2, 3] (by rfl) (t_M_midnightOf_211 C h60 _ _ _ _ _ hJ)
set_option maxHeartbeats 4000000 in
set_option maxRecDepth 100000 in
theorem t_M_midnightOf_190 {p : Program} {l : Launch} {e : Env} {s : State} {m : MethodId} {args : Array Value} {below : List Frame} {meth : Method} {c : Code} {D : va_G} {cy : Nat → ClassId} {ad : Nat → Nat} {A : Nat → Prop} (C : Cx p s m args meth c D cy cX10_midnightOf 8 RX10 (some .int) A (wM cy ad)) {N : Nat} {k60 : St → Int32 → Int32 → Int32 → Option (Int32 × St)} {r : Int32 × St} (h60 : ∀ (X : St) (v1 : Int32) (v2 : Int32) (v3 : Int32), k60 X v1 v2 v3 = some r → SW p l e ({ frames := 4, cells := 0, slots := 0, locals := 92 } : Room) s m args below meth c D 8 A (wM cy ad) (MQ below (poI D (wM cy ad) A r.1 r.2) args s 0 0 A) X [(0, .ref (ad 0)), (1, .int v1), (2, .int v2), (3, .int v3)] 60 []) : ∀ (X : St) (v1 : Int32) (v2 : Int32) (v3 : Int32) (v5 : Int32) (s1 : Int32) (s2 : Int32), jM_midnightOf_190 N k60 X v1 v2 v3 v5 s1 s2 = some r → SW p l e ({ frames := 4, cells := 0, slots := 0, locals := 92 } : Room) s m args below meth c D 8 A (wM cy ad) (MQ below (poI D (wM cy ad) A r.1 r.2) args s 0 0 A) X [(0, .ref (ad 0)), (1, .int v1), (2, .int v2), (3, .int v3), (5, .int v5)] 190 [.int s2, .int s1, .ref (ad 12)] := by
  intro X v1 v2 v3 v5 s1 s2 hJ
  unfold jM_midnightOf_190 at hJ
  obtain ⟨hi190, hJ⟩ := gd hJ
  refine tM_12 (pc := 190) C hi190 dX10_midnightOf_190 ?_
  refine sw_iload (pc := 191) C 4 dX10_midnightOf_191 rfl ?_
  refine sw_iconst (pc := 193) C (v := (-1 : Int32)) dX10_midnightOf_193 (by decide) ?_
  refine sw_icmp_eq (pc := 194) (tgt := 210) C dX10_midnightOf_194 (by decide) (fun hb194 => ?_) (fun hb194 => ?_)
  · replace hJ := itep hb194 hJ
    exact sw_sub [0, 1, 2, 3] (by rfl) (t_M_midnightOf_210 C h60 _ _ _ _ hJ)
  · replace hJ := iten hb194 hJ
    refine sw_aload_n (pc := 197) C 0 dX10_midnightOf_197 rfl rfl ?_
    refine sw_iload (pc := 198) C 4 dX10_midnightOf_198 rfl ?_
    obtain ⟨q200, hq200, hJ⟩ := bind_some hJ
    refine sw_callV_i (pc := 200) C (st := []) (As := [.int v5]) (k_M_rises C.2.2.2.2.2.2.1 hq200) pk_X10_rises wd_24_9 0 rfl rfl rfl ⟨Nat.le_of_ble_eq_true rfl, Nat.le_of_ble_eq_true rfl⟩ ⟨rfl, rfl⟩ rfl rfl (Nat.le_of_ble_eq_true rfl) dX10_midnightOf_200 ?_
    refine sw_if_eq (pc := 203) (tgt := 210) C dX10_midnightOf_203 (by decide) (fun hb203 => ?_) (fun hb203 => ?_)
    · replace hJ := itep hb203 hJ
      exact sw_sub [0, 1, 2, 3] (by rfl) (t_M_midnightOf_210 C h60 _ _ _ _ hJ)
    · replace hJ := iten hb203 hJ
      refine sw_iconst (pc := 206) C (v := (1 : Int32)) dX10_midnightOf_206 (by decide) ?_
      refine sw_goto (pc := 207) (tgt := 211) C dX10_midnightOf_207 (by decide) ?_
      exact sw_sub [0, 1, 2, 3] (by rfl) (t_M_midnightOf_211 C h60 _ _ _ _ _ hJ)
set_option maxHeartbeats 4000000 in
set_option maxRecDepth 100000 in
theorem t_M_midnightOf_154 {p : Program} {l : Launch} {e : Env} {s : State} {m : MethodId} {args : Array Value} {below : List Frame} {meth : Method} {c : Code} {D : va_G} {cy : Nat → ClassId} {ad : Nat → Nat} {A : Nat → Prop} (C : Cx p s m args meth c D cy cX10_midnightOf 8 RX10 (some .int) A (wM cy ad)) {N : Nat} {k60 : St → Int32 → Int32 → Int32 → Option (Int32 × St)} {r : Int32 × St} (h60 : ∀ (X : St) (v1 : Int32) (v2 : Int32) (v3 : Int32), k60 X v1 v2 v3 = some r → SW p l e ({ frames := 4, cells := 0, slots := 0, locals := 92 } : Room) s m args below meth c D 8 A (wM cy ad) (MQ below (poI D (wM cy ad) A r.1 r.2) args s 0 0 A) X [(0, .ref (ad 0)), (1, .int v1), (2, .int v2), (3, .int v3)] 60 []) : ∀ (X : St) (v1 : Int32) (v2 : Int32) (s0 : Int32), jM_midnightOf_154 N k60 X v1 v2 s0 = some r → SW p l e ({ frames := 4, cells := 0, slots := 0, locals := 92 } : Room) s m args below meth c D 8 A (wM cy ad) (MQ below (poI D (wM cy ad) A r.1 r.2) args s 0 0 A) X [(0, .ref (ad 0)), (1, .int v1), (2, .int v2)] 154 [.int s0] := by
  intro X v1 v2 s0 hJ
  unfold jM_midnightOf_154 at hJ
  refine sw_istore_n (pc := 154) C dX10_midnightOf_154 rfl (by decide) (ll2 := [(3, .int s0), (0, .ref (ad 0)), (1, .int v1), (2, .int v2)]) rfl ?_
  refine sw_iinc (pc := 155) C 3 dX10_midnightOf_155 rfl (v := (v2 + (-1 : Int32))) (congrArg (fun z => v2 + z) (by decide)) (by decide) (ll2 := [(2, .int (v2 + (-1 : Int32))), (3, .int s0), (0, .ref (ad 0)), (1, .int v1)]) rfl ?_
  refine sw_iload_n (pc := 158) C 0 dX10_midnightOf_158 rfl rfl ?_
  refine sw_if_lt (pc := 159) (tgt := 255) C dX10_midnightOf_159 (by decide) (fun hb159 => ?_) (fun hb159 => ?_)
  · replace hJ := itep hb159 hJ
    exact sw_sub [2, 3, 0, 1] (by rfl) (t_M_midnightOf_255 C h60 _ _ _ _ hJ)
  · replace hJ := iten hb159 hJ
    refine sw_aload_n (pc := 162) C 2 dX10_midnightOf_162 rfl rfl ?_
    refine sw_iload_n (pc := 163) C 0 dX10_midnightOf_163 rfl rfl ?_
    refine sw_iload_n (pc := 164) C 1 dX10_midnightOf_164 rfl rfl ?_
    obtain ⟨q165, hq165, hJ⟩ := bind_some hJ
    refine sw_callV_v (pc := 165) C (st := []) (As := [.int (v2 + (-1 : Int32)), .int s0]) (k_M_keep C.2.2.2.2.2.2.1 hq165) pk_X10_keep wd_31_17 0 rfl rfl rfl ⟨Nat.le_of_ble_eq_true rfl, Nat.le_of_ble_eq_true rfl⟩ ⟨rfl, rfl⟩ rfl rfl (Nat.le_of_ble_eq_true rfl) dX10_midnightOf_165 ?_
    refine sw_goto (pc := 168) (tgt := 255) C dX10_midnightOf_168 (by decide) ?_
    exact sw_sub [2, 3, 0, 1] (by rfl) (t_M_midnightOf_255 C h60 _ _ _ _ hJ)
set_option maxHeartbeats 4000000 in
set_option maxRecDepth 100000 in
theorem t_M_midnightOf_126 {p : Program} {l : Launch} {e : Env} {s : State} {m : MethodId} {args : Array Value} {below : List Frame} {meth : Method} {c : Code} {D : va_G} {cy : Nat → ClassId} {ad : Nat → Nat} {A : Nat → Prop} (C : Cx p s m args meth c D cy cX10_midnightOf 8 RX10 (some .int) A (wM cy ad)) {N : Nat} {k60 : St → Int32 → Int32 → Int32 → Option (Int32 × St)} {r : Int32 × St} (h60 : ∀ (X : St) (v1 : Int32) (v2 : Int32) (v3 : Int32), k60 X v1 v2 v3 = some r → SW p l e ({ frames := 4, cells := 0, slots := 0, locals := 92 } : Room) s m args below meth c D 8 A (wM cy ad) (MQ below (poI D (wM cy ad) A r.1 r.2) args s 0 0 A) X [(0, .ref (ad 0)), (1, .int v1), (2, .int v2), (3, .int v3)] 60 []) : ∀ (X : St) (v1 : Int32) (v2 : Int32) (v3 : Int32) (v4 : Int32) (v5 : Int32) (s0 : Int32), jM_midnightOf_126 N k60 X v1 v2 v3 v4 v5 s0 = some r → SW p l e ({ frames := 4, cells := 0, slots := 0, locals := 92 } : Room) s m args below meth c D 8 A (wM cy ad) (MQ below (poI D (wM cy ad) A r.1 r.2) args s 0 0 A) X [(0, .ref (ad 0)), (1, .int v1), (2, .int v2), (3, .int v3), (4, .int v4), (5, .int v5)] 126 [.int s0] := by
  intro X v1 v2 v3 v4 v5 s0 hJ
  unfold jM_midnightOf_126 at hJ
  refine sw_istore (pc := 126) C dX10_midnightOf_126 (by decide) (ll2 := [(6, .int s0), (0, .ref (ad 0)), (1, .int v1), (2, .int v2), (3, .int v3), (4, .int v4), (5, .int v5)]) rfl ?_
  refine sw_iload (pc := 128) C 0 dX10_midnightOf_128 rfl ?_
  refine sw_if_eq (pc := 130) (tgt := 171) C dX10_midnightOf_130 (by decide) (fun hb130 => ?_) (fun hb130 => ?_)
  · replace hJ := itep hb130 hJ
    refine sw_aload_n (pc := 171) C 1 dX10_midnightOf_171 rfl rfl ?_
    refine gM_0_26 (pc := 172) C wd_4_23 dX10_midnightOf_172 ?_
    refine sw_iload_n (pc := 175) C 3 dX10_midnightOf_175 rfl rfl ?_
    refine sw_iload (pc := 176) C 6 dX10_midnightOf_176 rfl ?_
    refine sw_iconst (pc := 178) C (v := (-1 : Int32)) dX10_midnightOf_178 (by decide) ?_
    refine sw_icmp_ne (pc := 179) (tgt := 186) C dX10_midnightOf_179 (by decide) (fun hb179 => ?_) (fun hb179 => ?_)
    · replace hJ := iten hb179 hJ
      refine sw_iload (pc := 186) C 6 dX10_midnightOf_186 rfl ?_
      refine sw_iconst (pc := 188) C (v := (1 : Int32)) dX10_midnightOf_188 (by decide) ?_
      refine sw_iadd (pc := 189) C dX10_midnightOf_189 ?_
      exact sw_sub [1, 2, 3, 4, 6] (by rfl) (t_M_midnightOf_190 C h60 _ _ _ _ _ _ _ hJ)
    · replace hJ := itep hb179 hJ
      refine sw_iconst (pc := 182) C (v := (0 : Int32)) dX10_midnightOf_182 (by decide) ?_
      refine sw_goto (pc := 183) (tgt := 190) C dX10_midnightOf_183 (by decide) ?_
      exact sw_sub [1, 2, 3, 4, 6] (by rfl) (t_M_midnightOf_190 C h60 _ _ _ _ _ _ _ hJ)
  · replace hJ := iten hb130 hJ
    refine sw_iload (pc := 133) C 5 dX10_midnightOf_133 rfl ?_
    refine sw_if_ne (pc := 135) (tgt := 147) C dX10_midnightOf_135 (by decide) (fun hb135 => ?_) (fun hb135 => ?_)
    · replace hJ := iten hb135 hJ
      refine sw_aload_n (pc := 147) C 1 dX10_midnightOf_147 rfl rfl ?_
      refine gM_0_27 (pc := 148) C wd_5_0 dX10_midnightOf_148 ?_
      refine sw_iload_n (pc := 151) C 3 dX10_midnightOf_151 rfl rfl ?_
      obtain ⟨hi152, hJ⟩ := gd hJ
      refine lM_13 (pc := 152) C hi152 dX10_midnightOf_152 ?_
      refine sw_ineg (pc := 153) C dX10_midnightOf_153 ?_
      exact sw_sub [1, 2, 3] (by rfl) (t_M_midnightOf_154 C h60 _ _ _ _ hJ)
    · replace hJ := itep hb135 hJ
      refine sw_aload_n (pc := 138) C 1 dX10_midnightOf_138 rfl rfl ?_
      refine gM_0_27 (pc := 139) C wd_5_0 dX10_midnightOf_139 ?_
      refine sw_iload_n (pc := 142) C 3 dX10_midnightOf_142 rfl rfl ?_
      obtain ⟨hi143, hJ⟩ := gd hJ
      refine lM_13 (pc := 143) C hi143 dX10_midnightOf_143 ?_
      refine sw_goto (pc := 144) (tgt := 154) C dX10_midnightOf_144 (by decide) ?_
      exact sw_sub [1, 2, 3] (by rfl) (t_M_midnightOf_154 C h60 _ _ _ _ hJ)
set_option maxHeartbeats 4000000 in
set_option maxRecDepth 100000 in
theorem t_M_midnightOf_125 {p : Program} {l : Launch} {e : Env} {s : State} {m : MethodId} {args : Array Value} {below : List Frame} {meth : Method} {c : Code} {D : va_G} {cy : Nat → ClassId} {ad : Nat → Nat} {A : Nat → Prop} (C : Cx p s m args meth c D cy cX10_midnightOf 8 RX10 (some .int) A (wM cy ad)) {N : Nat} {k60 : St → Int32 → Int32 → Int32 → Option (Int32 × St)} {r : Int32 × St} (h60 : ∀ (X : St) (v1 : Int32) (v2 : Int32) (v3 : Int32), k60 X v1 v2 v3 = some r → SW p l e ({ frames := 4, cells := 0, slots := 0, locals := 92 } : Room) s m args below meth c D 8 A (wM cy ad) (MQ below (poI D (wM cy ad) A r.1 r.2) args s 0 0 A) X [(0, .ref (ad 0)), (1, .int v1), (2, .int v2), (3, .int v3)] 60 []) : ∀ (X : St) (v1 : Int32) (v2 : Int32) (v3 : Int32) (v4 : Int32) (v5 : Int32), jM_midnightOf_125 N k60 X v1 v2 v3 v4 v5 = some r → SW p l e ({ frames := 4, cells := 0, slots := 0, locals := 92 } : Room) s m args below meth c D 8 A (wM cy ad) (MQ below (poI D (wM cy ad) A r.1 r.2) args s 0 0 A) X [(0, .ref (ad 0)), (1, .int v1), (2, .int v2), (3, .int v3), (4, .int v4), (5, .int v5)] 125 [] := by
  intro X v1 v2 v3 v4 v5 hJ
  unfold jM_midnightOf_125 at hJ
  refine sw_iconst (pc := 125) C (v := (0 : Int32)) dX10_midnightOf_125 (by decide) ?_
  exact sw_sub [0, 1, 2, 3, 4, 5] (by rfl) (t_M_midnightOf_126 C h60 _ _ _ _ _ _ _ hJ)
set_option maxHeartbeats 4000000 in
set_option maxRecDepth 100000 in
theorem t_M_midnightOf_100 {p : Program} {l : Launch} {e : Env} {s : State} {m : MethodId} {args : Array Value} {below : List Frame} {meth : Method} {c : Code} {D : va_G} {cy : Nat → ClassId} {ad : Nat → Nat} {A : Nat → Prop} (C : Cx p s m args meth c D cy cX10_midnightOf 8 RX10 (some .int) A (wM cy ad)) {N : Nat} {k60 : St → Int32 → Int32 → Int32 → Option (Int32 × St)} {r : Int32 × St} (h60 : ∀ (X : St) (v1 : Int32) (v2 : Int32) (v3 : Int32), k60 X v1 v2 v3 = some r → SW p l e ({ frames := 4, cells := 0, slots := 0, locals := 92 } : Room) s m args below meth c D 8 A (wM cy ad) (MQ below (poI D (wM cy ad) A r.1 r.2) args s 0 0 A) X [(0, .ref (ad 0)), (1, .int v1), (2, .int v2), (3, .int v3)] 60 []) : ∀ (X : St) (v1 : Int32) (v2 : Int32) (v3 : Int32) (v4 : Int32) (s0 : Int32), jM_midnightOf_100 N k60 X v1 v2 v3 v4 s0 = some r → SW p l e ({ frames := 4, cells := 0, slots := 0, locals := 92 } : Room) s m args below meth c D 8 A (wM cy ad) (MQ below (poI D (wM cy ad) A r.1 r.2) args s 0 0 A) X [(0, .ref (ad 0)), (1, .int v1), (2, .int v2), (3, .int v3), (4, .int v4)] 100 [.int s0] := by
  intro X v1 v2 v3 v4 s0 hJ
  unfold jM_midnightOf_100 at hJ
  refine sw_istore (pc := 100) C dX10_midnightOf_100 (by decide) (ll2 := [(5, .int s0), (0, .ref (ad 0)), (1, .int v1), (2, .int v2), (3, .int v3), (4, .int v4)]) rfl ?_
  refine sw_iload (pc := 102) C 0 dX10_midnightOf_102 rfl ?_
  refine sw_aload_n (pc := 104) C 1 dX10_midnightOf_104 rfl rfl ?_
  refine gM_0_12 (pc := 105) C wd_14_18 dX10_midnightOf_105 ?_
  refine sw_icmp_ne (pc := 108) (tgt := 125) C dX10_midnightOf_108 (by decide) (fun hb108 => ?_) (fun hb108 => ?_)
  · replace hJ := iten hb108 hJ
    exact sw_sub [1, 2, 3, 4, 5, 0] (by rfl) (t_M_midnightOf_125 C h60 _ _ _ _ _ _ hJ)
  · replace hJ := itep hb108 hJ
    refine sw_aload_n (pc := 111) C 1 dX10_midnightOf_111 rfl rfl ?_
    refine gM_0_26 (pc := 112) C wd_4_23 dX10_midnightOf_112 ?_
    refine sw_iload_n (pc := 115) C 3 dX10_midnightOf_115 rfl rfl ?_
    obtain ⟨hi116, hJ⟩ := gd hJ
    refine lM_12 (pc := 116) C hi116 dX10_midnightOf_116 ?_
    refine sw_iconst (pc := 117) C (v := (-1 : Int32)) dX10_midnightOf_117 (by decide) ?_
    refine sw_icmp_eq (pc := 118) (tgt := 125) C dX10_midnightOf_118 (by decide) (fun hb118 => ?_) (fun hb118 => ?_)
    · replace hJ := itep hb118 hJ
      exact sw_sub [1, 2, 3, 4, 5, 0] (by rfl) (t_M_midnightOf_125 C h60 _ _ _ _ _ _ hJ)
    · replace hJ := iten hb118 hJ
      refine sw_iconst (pc := 121) C (v := (1 : Int32)) dX10_midnightOf_121 (by decide) ?_
      refine sw_goto (pc := 122) (tgt := 126) C dX10_midnightOf_122 (by decide) ?_
      exact sw_sub [1, 2, 3, 4, 5, 0] (by rfl) (t_M_midnightOf_126 C h60 _ _ _ _ _ _ _ hJ)
set_option maxHeartbeats 4000000 in
set_option maxRecDepth 100000 in
theorem t_M_midnightOf_60 {p : Program} {l : Launch} {e : Env} {s : State} {m : MethodId} {args : Array Value} {below : List Frame} {meth : Method} {c : Code} {D : va_G} {cy : Nat → ClassId} {ad : Nat → Nat} {A : Nat → Prop} (C : Cx p s m args meth c D cy cX10_midnightOf 8 RX10 (some .int) A (wM cy ad)) {N : Nat} {r : Int32 × St} : ∀ (n : Nat) (X : St) (v1 : Int32) (v2 : Int32) (v3 : Int32), jM_midnightOf_60 N n X v1 v2 v3 = some r → SW p l e ({ frames := 4, cells := 0, slots := 0, locals := 92 } : Room) s m args below meth c D 8 A (wM cy ad) (MQ below (poI D (wM cy ad) A r.1 r.2) args s 0 0 A) X [(0, .ref (ad 0)), (1, .int v1), (2, .int v2), (3, .int v3)] 60 [] := by
  intro n
  induction n with
  | zero => intro X v1 v2 v3 hJ; exact absurd (show (none : Option (Int32 × St)) = some r from hJ) (fun h => by cases h)
  | succ n ih =>
    intro X v1 v2 v3 hJ
    rw [jM_midnightOf_60] at hJ
    refine sw_iload_n (pc := 60) C 2 dX10_midnightOf_60 rfl rfl ?_
    refine sw_if_lt (pc := 61) (tgt := 258) C dX10_midnightOf_61 (by decide) (fun hb61 => ?_) (fun hb61 => ?_)
    · replace hJ := itep hb61 hJ
      refine sw_iload_n (pc := 258) C 3 dX10_midnightOf_258 rfl rfl ?_
      obtain rfl := Option.some.inj hJ
      exact sw_iret (pc := 259) C dX10_midnightOf_259
    · replace hJ := iten hb61 hJ
      refine sw_iload_n (pc := 64) C 2 dX10_midnightOf_64 rfl rfl ?_
      refine sw_iconst (pc := 65) C (v := (2 : Int32)) dX10_midnightOf_65 (by decide) ?_
      refine sw_irem (pc := 66) C dX10_midnightOf_66 (by decide) ?_
      refine sw_istore (pc := 67) C dX10_midnightOf_67 (by decide) (ll2 := [(4, .int (v2 - v2 / (2 : Int32) * (2 : Int32))), (0, .ref (ad 0)), (1, .int v1), (2, .int v2), (3, .int v3)]) rfl ?_
      refine sw_aload_n (pc := 69) C 1 dX10_midnightOf_69 rfl rfl ?_
      refine sw_iload_n (pc := 70) C 3 dX10_midnightOf_70 rfl rfl ?_
      obtain ⟨q71, hq71, hJ⟩ := bind_some hJ
      refine sw_callV_v (pc := 71) C (st := []) (As := [.int v2]) (k_M_backTo C.2.2.2.2.2.2.1 hq71) pk_X10_backTo wd_31_9 0 rfl rfl rfl ⟨Nat.le_of_ble_eq_true rfl, Nat.le_of_ble_eq_true rfl⟩ ⟨rfl, rfl⟩ rfl rfl (Nat.le_of_ble_eq_true rfl) dX10_midnightOf_71 ?_
      refine sw_aload_n (pc := 74) C 1 dX10_midnightOf_74 rfl rfl ?_
      refine gM_0_26 (pc := 75) C wd_4_23 dX10_midnightOf_75 ?_
      refine sw_iload_n (pc := 78) C 3 dX10_midnightOf_78 rfl rfl ?_
      obtain ⟨hi79, hJ⟩ := gd hJ
      refine lM_12 (pc := 79) C hi79 dX10_midnightOf_79 ?_
      refine sw_iconst (pc := 80) C (v := (-1 : Int32)) dX10_midnightOf_80 (by decide) ?_
      refine sw_icmp_ne (pc := 81) (tgt := 88) C dX10_midnightOf_81 (by decide) (fun hb81 => ?_) (fun hb81 => ?_)
      · replace hJ := iten hb81 hJ
        refine sw_aload_n (pc := 88) C 1 dX10_midnightOf_88 rfl rfl ?_
        refine sw_aload_n (pc := 89) C 1 dX10_midnightOf_89 rfl rfl ?_
        refine gM_0_26 (pc := 90) C wd_4_23 dX10_midnightOf_90 ?_
        refine sw_iload_n (pc := 93) C 3 dX10_midnightOf_93 rfl rfl ?_
        obtain ⟨hi94, hJ⟩ := gd hJ
        refine lM_12 (pc := 94) C hi94 dX10_midnightOf_94 ?_
        refine sw_iload (pc := 95) C 0 dX10_midnightOf_95 rfl ?_
        obtain ⟨q97, hq97, hJ⟩ := bind_some hJ
        refine sw_callV_i (pc := 97) C (st := []) (As := [.int (sA q71 12 v2.toNatClampNeg), .int (v2 - v2 / (2 : Int32) * (2 : Int32))]) (k_M_nextOne C.2.2.2.2.2.2.1 hq97) pk_X10_nextOne wd_31_13 0 rfl rfl rfl ⟨Nat.le_of_ble_eq_true rfl, Nat.le_of_ble_eq_true rfl⟩ ⟨rfl, rfl⟩ rfl rfl (Nat.le_of_ble_eq_true rfl) dX10_midnightOf_97 ?_
        exact sw_sub [1, 2, 3, 4, 0] (by rfl) (t_M_midnightOf_100 C ih _ _ _ _ _ _ hJ)
      · replace hJ := itep hb81 hJ
        refine sw_iconst (pc := 84) C (v := (-1 : Int32)) dX10_midnightOf_84 (by decide) ?_
        refine sw_goto (pc := 85) (tgt := 100) C dX10_midnightOf_85 (by decide) ?_
        exact sw_sub [1, 2, 3, 4, 0] (by rfl) (t_M_midnightOf_100 C ih _ _ _ _ _ _ hJ)
set_option maxHeartbeats 4000000 in
set_option maxRecDepth 100000 in
theorem t_M_midnightOf_2 {p : Program} {l : Launch} {e : Env} {s : State} {m : MethodId} {args : Array Value} {below : List Frame} {meth : Method} {c : Code} {D : va_G} {cy : Nat → ClassId} {ad : Nat → Nat} {A : Nat → Prop} (C : Cx p s m args meth c D cy cX10_midnightOf 8 RX10 (some .int) A (wM cy ad)) {N : Nat} {r : Int32 × St} : ∀ (n : Nat) (X : St) (v1 : Int32) (v2 : Int32), jM_midnightOf_2 N n X v1 v2 = some r → SW p l e ({ frames := 4, cells := 0, slots := 0, locals := 92 } : Room) s m args below meth c D 8 A (wM cy ad) (MQ below (poI D (wM cy ad) A r.1 r.2) args s 0 0 A) X [(0, .ref (ad 0)), (1, .int v1), (2, .int v2)] 2 [] := by
  intro n
  induction n with
  | zero => intro X v1 v2 hJ; exact absurd (show (none : Option (Int32 × St)) = some r from hJ) (fun h => by cases h)
  | succ n ih =>
    intro X v1 v2 hJ
    rw [jM_midnightOf_2] at hJ
    refine sw_iload_n (pc := 2) C 2 dX10_midnightOf_2 rfl rfl ?_
    refine sw_aload_n (pc := 3) C 0 dX10_midnightOf_3 rfl rfl ?_
    refine gM_0_14 (pc := 4) C wd_17_4 dX10_midnightOf_4 ?_
    refine sw_icmp_ge (pc := 7) (tgt := 28) C dX10_midnightOf_7 (by decide) (fun hb7 => ?_) (fun hb7 => ?_)
    · replace hJ := itep hb7 hJ
      refine sw_aload_n (pc := 28) C 0 dX10_midnightOf_28 rfl rfl ?_
      refine sw_aload_n (pc := 29) C 0 dX10_midnightOf_29 rfl rfl ?_
      refine gM_0_14 (pc := 30) C wd_17_4 dX10_midnightOf_30 ?_
      refine pM_0_18 (pc := 33) C wd_24_4 dX10_midnightOf_33 ?_
      refine sw_iconst (pc := 36) C (v := (0 : Int32)) dX10_midnightOf_36 (by decide) ?_
      refine sw_istore_n (pc := 37) C dX10_midnightOf_37 rfl (by decide) (ll2 := [(2, .int (0 : Int32)), (0, .ref (ad 0)), (1, .int v1)]) rfl ?_
      refine sw_aload_n (pc := 38) C 1 dX10_midnightOf_38 rfl rfl ?_
      refine sw_iconst (pc := 39) C (v := (0 : Int32)) dX10_midnightOf_39 (by decide) ?_
      obtain ⟨q40, hq40, hJ⟩ := bind_some hJ
      refine sw_callV_v (pc := 40) C (st := []) (As := [.int (0 : Int32)]) (k_M_saveAt C.2.2.2.2.2.2.1 hq40) pk_X10_saveAt wd_31_5 0 rfl rfl rfl ⟨Nat.le_of_ble_eq_true rfl, Nat.le_of_ble_eq_true rfl⟩ ⟨rfl, rfl⟩ rfl rfl (Nat.le_of_ble_eq_true rfl) dX10_midnightOf_40 ?_
      refine sw_aload_n (pc := 43) C 1 dX10_midnightOf_43 rfl rfl ?_
      refine gM_0_26 (pc := 44) C wd_4_23 dX10_midnightOf_44 ?_
      refine sw_iconst (pc := 47) C (v := (0 : Int32)) dX10_midnightOf_47 (by decide) ?_
      refine sw_iconst (pc := 48) C (v := (-1 : Int32)) dX10_midnightOf_48 (by decide) ?_
      obtain ⟨hi49, hJ⟩ := gd hJ
      refine tM_12 (pc := 49) C hi49 dX10_midnightOf_49 ?_
      refine sw_aload_n (pc := 50) C 1 dX10_midnightOf_50 rfl rfl ?_
      refine gM_0_27 (pc := 51) C wd_5_0 dX10_midnightOf_51 ?_
      refine sw_iconst (pc := 54) C (v := (0 : Int32)) dX10_midnightOf_54 (by decide) ?_
      refine sw_bipush (pc := 55) C (v := (-2 : Int32)) dX10_midnightOf_55 (by decide) ?_
      obtain ⟨hi57, hJ⟩ := gd hJ
      refine tM_13 (pc := 57) C hi57 dX10_midnightOf_57 ?_
      refine sw_iconst (pc := 58) C (v := (0 : Int32)) dX10_midnightOf_58 (by decide) ?_
      refine sw_istore_n (pc := 59) C dX10_midnightOf_59 rfl (by decide) (ll2 := [(3, .int (0 : Int32)), (2, .int (0 : Int32)), (0, .ref (ad 0)), (1, .int v1)]) rfl ?_
      exact sw_sub [2, 3, 1, 0] (by rfl) (t_M_midnightOf_60 C _ _ _ _ _ hJ)
    · replace hJ := iten hb7 hJ
      refine sw_aload_n (pc := 10) C 0 dX10_midnightOf_10 rfl rfl ?_
      refine gM_0_17 (pc := 11) C wd_4_17 dX10_midnightOf_11 ?_
      refine sw_iload_n (pc := 14) C 2 dX10_midnightOf_14 rfl rfl ?_
      refine sw_aload_n (pc := 15) C 0 dX10_midnightOf_15 rfl rfl ?_
      refine gM_0_15 (pc := 16) C wd_4_16 dX10_midnightOf_16 ?_
      refine sw_iload_n (pc := 19) C 2 dX10_midnightOf_19 rfl rfl ?_
      obtain ⟨hi20, hJ⟩ := gd hJ
      refine lM_6 (pc := 20) C hi20 dX10_midnightOf_20 ?_
      obtain ⟨hi21, hJ⟩ := gd hJ
      refine tM_7 (pc := 21) C hi21 dX10_midnightOf_21 ?_
      refine sw_iinc (pc := 22) C 2 dX10_midnightOf_22 rfl (v := (v2 + (1 : Int32))) (congrArg (fun z => v2 + z) (by decide)) (by decide) (ll2 := [(2, .int (v2 + (1 : Int32))), (0, .ref (ad 0)), (1, .int v1)]) rfl ?_
      refine sw_goto (pc := 25) (tgt := 2) C dX10_midnightOf_25 (by decide) ?_
      exact sw_sub [1, 2, 0] (by rfl) (ih _ _ _ hJ)
set_option maxHeartbeats 4000000 in
set_option maxRecDepth 100000 in
theorem t_M_midnightOf {p : Program} {l : Launch} {e : Env} {s : State} {m : MethodId} {args : Array Value} {below : List Frame} {meth : Method} {c : Code} {D : va_G} {cy : Nat → ClassId} {ad : Nat → Nat} {A : Nat → Prop} (C : Cx p s m args meth c D cy cX10_midnightOf 8 RX10 (some .int) A (wM cy ad)) {N : Nat} {r : Int32 × St} : ∀ (X : St) (a1 : Int32), jM_midnightOf N X a1 = some r → SW p l e ({ frames := 4, cells := 0, slots := 0, locals := 92 } : Room) s m args below meth c D 8 A (wM cy ad) (MQ below (poI D (wM cy ad) A r.1 r.2) args s 0 0 A) X [(0, .ref (ad 0)), (1, .int a1)] 0 [] := by
  intro X a1 hJ
  unfold jM_midnightOf at hJ
  refine sw_iconst (pc := 0) C (v := (0 : Int32)) dX10_midnightOf_0 (by decide) ?_
  refine sw_istore_n (pc := 1) C dX10_midnightOf_1 rfl (by decide) (ll2 := [(2, .int (0 : Int32)), (0, .ref (ad 0)), (1, .int a1)]) rfl ?_
  exact sw_sub [1, 2, 0] (by rfl) (t_M_midnightOf_2 C _ _ _ _ hJ)
set_option maxHeartbeats 4000000 in
set_option maxRecDepth 100000 in
theorem k_M_midnightOf {l : Launch} {D : va_G} {cy : Nat → ClassId} {ad : Nat → Nat} {A : Nat → Prop} (hD : ∀ X, va_D A (wM cy ad X)) {X : St} {N : Nat} {a1 : Int32} {r : Int32 × St} (hJ : jM_midnightOf N X a1 = some r) : Met l yX10_midnightOf (wsY yX10_midnightOf cX10_midnightOf 8 (some .int)) ({ frames := 4, cells := 0, slots := 0, locals := 92 } : Room) (prX D cy (wM cy ad) X [.ref (ad 0), .int a1]) (poI D (wM cy ad) A r.1 r.2) 0 0 A := sw_met (by decide +kernel) (Nat.le_of_ble_eq_true rfl) hD (fun p e s m args below meth c C => t_M_midnightOf C _ _ hJ)
set_option maxHeartbeats 4000000 in
set_option maxRecDepth 100000 in
theorem t_M_midnight {p : Program} {l : Launch} {e : Env} {s : State} {m : MethodId} {args : Array Value} {below : List Frame} {meth : Method} {c : Code} {D : va_G} {cy : Nat → ClassId} {ad : Nat → Nat} {A : Nat → Prop} (C : Cx p s m args meth c D cy cX10_midnight 2 RX10 (some .int) A (wM cy ad)) {N : Nat} {r : Int32 × St} : ∀ (X : St) (a1 : Int32), jM_midnight N X a1 = some r → SW p l e ({ frames := 5, cells := 0, slots := 0, locals := 119 } : Room) s m args below meth c D 2 A (wM cy ad) (MQ below (poI D (wM cy ad) A r.1 r.2) args s 0 0 A) X [(0, .ref (ad 0)), (1, .int a1)] 0 [] := by
  intro X a1 hJ
  unfold jM_midnight at hJ
  refine sw_iload_n (pc := 0) C 1 dX10_midnight_0 rfl rfl ?_
  refine sw_i2l (pc := 1) C dX10_midnight_1 ?_
  refine sw_lconst (pc := 2) C (v := (1 : Int64)) dX10_midnight_2 (by decide) ?_
  refine sw_ldc2 (pc := 3) C (v := (5 : Int64)) wd_30_21 dX10_midnight_3 ?_
  obtain ⟨q6, hq6, hJ⟩ := bind_some hJ
  refine sw_callS_i (pc := 6) C (st := []) (As := [.long a1.toInt64, .long (1 : Int64), .long (5 : Int64)]) (k_M_in C.2.2.2.2.2.2.1 hq6) pk_X10_in wd_10_4 ⟨Nat.le_of_ble_eq_true rfl, Nat.le_of_ble_eq_true rfl⟩ ⟨rfl, rfl⟩ rfl rfl (Nat.le_of_ble_eq_true rfl) dX10_midnight_6 ?_
  refine sw_if_ne (pc := 9) (tgt := 15) C dX10_midnight_9 (by decide) (fun hb9 => ?_) (fun hb9 => ?_)
  · replace hJ := iten hb9 hJ
    refine sw_aload_n (pc := 15) C 0 dX10_midnight_15 rfl rfl ?_
    refine gM_0_25 (pc := 16) C wd_30_23 dX10_midnight_16 ?_
    refine sw_bipush (pc := 19) C (v := (30 : Int32)) dX10_midnight_19 (by decide) ?_
    refine sw_icmp_ne (pc := 21) (tgt := 27) C dX10_midnight_21 (by decide) (fun hb21 => ?_) (fun hb21 => ?_)
    · replace hJ := iten hb21 hJ
      refine sw_aload_n (pc := 27) C 0 dX10_midnight_27 rfl rfl ?_
      refine sw_dup (pc := 28) C dX10_midnight_28 rfl ?_
      refine gM_0_25 (pc := 29) C wd_30_23 dX10_midnight_29 ?_
      refine sw_iconst (pc := 32) C (v := (1 : Int32)) dX10_midnight_32 (by decide) ?_
      refine sw_iadd (pc := 33) C dX10_midnight_33 ?_
      refine pM_0_25 (pc := 34) C wd_30_23 dX10_midnight_34 ?_
      refine sw_aload_n (pc := 37) C 0 dX10_midnight_37 rfl rfl ?_
      refine sw_iload_n (pc := 38) C 1 dX10_midnight_38 rfl rfl ?_
      obtain ⟨q39, hq39, hJ⟩ := bind_some hJ
      refine sw_callV_i (pc := 39) C (st := []) (As := [.int a1]) (k_M_midnightOf C.2.2.2.2.2.2.1 hq39) pk_X10_midnightOf wd_31_1 0 rfl rfl rfl ⟨Nat.le_of_ble_eq_true rfl, Nat.le_of_ble_eq_true rfl⟩ ⟨rfl, rfl⟩ rfl rfl (Nat.le_of_ble_eq_true rfl) dX10_midnight_39 ?_
      obtain rfl := Option.some.inj hJ
      exact sw_iret (pc := 42) C dX10_midnight_42
    · replace hJ := itep hb21 hJ
      refine sw_ldc (pc := 24) C (v := (-100103 : Int32)) wd_31_0 dX10_midnight_24 ?_
      obtain rfl := Option.some.inj hJ
      exact sw_iret (pc := 26) C dX10_midnight_26
  · replace hJ := itep hb9 hJ
    refine sw_ldc (pc := 12) C (v := (-100102 : Int32)) wd_30_22 dX10_midnight_12 ?_
    obtain rfl := Option.some.inj hJ
    exact sw_iret (pc := 14) C dX10_midnight_14
set_option maxHeartbeats 4000000 in
set_option maxRecDepth 100000 in
theorem k_M_midnight {l : Launch} {D : va_G} {cy : Nat → ClassId} {ad : Nat → Nat} {A : Nat → Prop} (hD : ∀ X, va_D A (wM cy ad X)) {X : St} {N : Nat} {a1 : Int32} {r : Int32 × St} (hJ : jM_midnight N X a1 = some r) : Met l yX10_midnight (wsY yX10_midnight cX10_midnight 2 (some .int)) ({ frames := 5, cells := 0, slots := 0, locals := 119 } : Room) (prX D cy (wM cy ad) X [.ref (ad 0), .int a1]) (poI D (wM cy ad) A r.1 r.2) 0 0 A := sw_met (by decide +kernel) (Nat.le_of_ble_eq_true rfl) hD (fun p e s m args below meth c C => t_M_midnight C _ _ hJ)
set_option maxHeartbeats 4000000 in
set_option maxRecDepth 100000 in
theorem t_M_draw {p : Program} {l : Launch} {e : Env} {s : State} {m : MethodId} {args : Array Value} {below : List Frame} {meth : Method} {c : Code} {D : va_G} {cy : Nat → ClassId} {ad : Nat → Nat} {A : Nat → Prop} (C : Cx p s m args meth c D cy cX10_draw 2 RX10 (some .int) A (wM cy ad)) {r : Int32 × St} : ∀ (X : St) (a1 : Int32), jM_draw X a1 = some r → SW p l e ({ frames := 0, cells := 0, slots := 0, locals := 0 } : Room) s m args below meth c D 2 A (wM cy ad) (MQ below (poI D (wM cy ad) A r.1 r.2) args s 0 0 A) X [(0, .ref (ad 0)), (1, .int a1)] 0 [] := by
  intro X a1 hJ
  unfold jM_draw at hJ
  refine sw_aload_n (pc := 0) C 0 dX10_draw_0 rfl rfl ?_
  refine sw_ldc2 (pc := 1) C (v := (1103515245 : Int64)) wd_32_19 dX10_draw_1 ?_
  refine sw_aload_n (pc := 4) C 0 dX10_draw_4 rfl rfl ?_
  refine gM_0_30 (pc := 5) C wd_32_14 dX10_draw_5 ?_
  refine sw_i2l (pc := 8) C dX10_draw_8 ?_
  refine sw_lmul (pc := 9) C dX10_draw_9 ?_
  refine sw_ldc2 (pc := 10) C (v := (12345 : Int64)) wd_32_20 dX10_draw_10 ?_
  refine sw_ladd (pc := 13) C dX10_draw_13 ?_
  refine sw_ldc2 (pc := 14) C (v := (2147483647 : Int64)) wd_32_21 dX10_draw_14 ?_
  refine sw_land (pc := 17) C dX10_draw_17 ?_
  refine sw_l2i (pc := 18) C dX10_draw_18 ?_
  refine pM_0_30 (pc := 19) C wd_32_14 dX10_draw_19 ?_
  refine sw_aload_n (pc := 22) C 0 dX10_draw_22 rfl rfl ?_
  refine gM_0_30 (pc := 23) C wd_32_14 dX10_draw_23 ?_
  refine sw_ldc (pc := 26) C (v := (65536 : Int32)) wd_32_22 dX10_draw_26 ?_
  refine sw_idiv (pc := 28) C dX10_draw_28 (by decide) ?_
  refine sw_iload_n (pc := 29) C 1 dX10_draw_29 rfl rfl ?_
  obtain ⟨hd30, hJ⟩ := gdn hJ
  refine sw_irem (pc := 30) C dX10_draw_30 hd30 ?_
  obtain rfl := Option.some.inj hJ
  exact sw_iret (pc := 31) C dX10_draw_31
set_option maxHeartbeats 4000000 in
set_option maxRecDepth 100000 in
theorem k_M_draw {l : Launch} {D : va_G} {cy : Nat → ClassId} {ad : Nat → Nat} {A : Nat → Prop} (hD : ∀ X, va_D A (wM cy ad X)) {X : St} {a1 : Int32} {r : Int32 × St} (hJ : jM_draw X a1 = some r) : Met l yX10_draw (wsY yX10_draw cX10_draw 2 (some .int)) ({ frames := 0, cells := 0, slots := 0, locals := 0 } : Room) (prX D cy (wM cy ad) X [.ref (ad 0), .int a1]) (poI D (wM cy ad) A r.1 r.2) 0 0 A := sw_met (by decide +kernel) (Nat.le_of_ble_eq_true rfl) hD (fun p e s m args below meth c C => t_M_draw C _ _ hJ)
set_option maxHeartbeats 4000000 in
set_option maxRecDepth 100000 in
theorem t_M_sessions_147 {p : Program} {l : Launch} {e : Env} {s : State} {m : MethodId} {args : Array Value} {below : List Frame} {meth : Method} {c : Code} {D : va_G} {cy : Nat → ClassId} {ad : Nat → Nat} {A : Nat → Prop} (C : Cx p s m args meth c D cy cX10_sessions 7 RX10 (some .int) A (wM cy ad)) {r : Int32 × St} : ∀ (X : St) (v3 : Int32) (v4 : Int32), jM_sessions_147 X v3 v4 = some r → SW p l e ({ frames := 4, cells := 0, slots := 0, locals := 92 } : Room) s m args below meth c D 7 A (wM cy ad) (MQ below (poI D (wM cy ad) A r.1 r.2) args s 0 0 A) X [(0, .ref (ad 0)), (3, .int v3), (4, .int v4)] 147 [] := by
  intro X v3 v4 hJ
  unfold jM_sessions_147 at hJ
  refine sw_iload_n (pc := 147) C 1 dX10_sessions_147 rfl rfl ?_
  refine sw_if_ne (pc := 148) (tgt := 158) C dX10_sessions_148 (by decide) (fun hb148 => ?_) (fun hb148 => ?_)
  · replace hJ := iten hb148 hJ
    refine sw_iload_n (pc := 158) C 1 dX10_sessions_158 rfl rfl ?_
    refine sw_iconst (pc := 159) C (v := (1 : Int32)) dX10_sessions_159 (by decide) ?_
    refine sw_icmp_ne (pc := 160) (tgt := 168) C dX10_sessions_160 (by decide) (fun hb160 => ?_) (fun hb160 => ?_)
    · replace hJ := iten hb160 hJ
      refine sw_iload_n (pc := 168) C 1 dX10_sessions_168 rfl rfl ?_
      refine sw_iconst (pc := 169) C (v := (2 : Int32)) dX10_sessions_169 (by decide) ?_
      refine sw_icmp_ne (pc := 170) (tgt := 188) C dX10_sessions_170 (by decide) (fun hb170 => ?_) (fun hb170 => ?_)
      · replace hJ := iten hb170 hJ
        refine sw_aload_n (pc := 188) C 0 dX10_sessions_188 rfl rfl ?_
        refine gM_0_30 (pc := 189) C wd_32_14 dX10_sessions_189 ?_
        obtain rfl := Option.some.inj hJ
        exact sw_iret (pc := 192) C dX10_sessions_192
      · replace hJ := itep hb170 hJ
        refine sw_aload_n (pc := 173) C 0 dX10_sessions_173 rfl rfl ?_
        refine sw_aload_n (pc := 174) C 0 dX10_sessions_174 rfl rfl ?_
        refine gM_0_17 (pc := 175) C wd_4_17 dX10_sessions_175 ?_
        refine sw_aload_n (pc := 178) C 0 dX10_sessions_178 rfl rfl ?_
        refine gM_0_18 (pc := 179) C wd_24_4 dX10_sessions_179 ?_
        obtain ⟨q182, hq182, hJ⟩ := bind_some hJ
        refine sw_callV_i (pc := 182) C (st := []) (As := [.ref (ad 7), .int (sF X 18)]) (k_M_billOf C.2.2.2.2.2.2.1 a7_7 hq182) pk_X10_billOf wd_23_4 0 rfl rfl rfl ⟨Nat.le_of_ble_eq_true rfl, Nat.le_of_ble_eq_true rfl⟩ ⟨rfl, rfl⟩ rfl rfl (Nat.le_of_ble_eq_true rfl) dX10_sessions_182 ?_
        refine sw_goto (pc := 185) (tgt := 192) C dX10_sessions_185 (by decide) ?_
        obtain rfl := Option.some.inj hJ
        exact sw_iret (pc := 192) C dX10_sessions_192
    · replace hJ := itep hb160 hJ
      refine sw_iload (pc := 163) C 2 dX10_sessions_163 rfl ?_
      refine sw_goto (pc := 165) (tgt := 192) C dX10_sessions_165 (by decide) ?_
      obtain rfl := Option.some.inj hJ
      exact sw_iret (pc := 192) C dX10_sessions_192
  · replace hJ := itep hb148 hJ
    refine sw_aload_n (pc := 151) C 0 dX10_sessions_151 rfl rfl ?_
    refine gM_0_18 (pc := 152) C wd_24_4 dX10_sessions_152 ?_
    refine sw_goto (pc := 155) (tgt := 192) C dX10_sessions_155 (by decide) ?_
    obtain rfl := Option.some.inj hJ
    exact sw_iret (pc := 192) C dX10_sessions_192
set_option maxHeartbeats 4000000 in
set_option maxRecDepth 100000 in
theorem t_M_sessions_141 {p : Program} {l : Launch} {e : Env} {s : State} {m : MethodId} {args : Array Value} {below : List Frame} {meth : Method} {c : Code} {D : va_G} {cy : Nat → ClassId} {ad : Nat → Nat} {A : Nat → Prop} (C : Cx p s m args meth c D cy cX10_sessions 7 RX10 (some .int) A (wM cy ad)) {k82 : St → Int32 → Int32 → Int32 → Int32 → Option (Int32 × St)} {r : Int32 × St} (h82 : ∀ (X : St) (v1 : Int32) (v3 : Int32) (v4 : Int32) (v5 : Int32), k82 X v1 v3 v4 v5 = some r → SW p l e ({ frames := 4, cells := 0, slots := 0, locals := 92 } : Room) s m args below meth c D 7 A (wM cy ad) (MQ below (poI D (wM cy ad) A r.1 r.2) args s 0 0 A) X [(0, .ref (ad 0)), (1, .int v1), (3, .int v3), (4, .int v4), (5, .int v5)] 82 []) : ∀ (X : St) (v1 : Int32) (v3 : Int32) (v4 : Int32) (v5 : Int32), jM_sessions_141 k82 X v1 v3 v4 v5 = some r → SW p l e ({ frames := 4, cells := 0, slots := 0, locals := 92 } : Room) s m args below meth c D 7 A (wM cy ad) (MQ below (poI D (wM cy ad) A r.1 r.2) args s 0 0 A) X [(0, .ref (ad 0)), (1, .int v1), (3, .int v3), (4, .int v4), (5, .int v5)] 141 [] := by
  intro X v1 v3 v4 v5 hJ
  unfold jM_sessions_141 at hJ
  refine sw_iinc (pc := 141) C 4 dX10_sessions_141 rfl (v := (v5 + (1 : Int32))) (congrArg (fun z => v5 + z) (by decide)) (by decide) (ll2 := [(5, .int (v5 + (1 : Int32))), (0, .ref (ad 0)), (1, .int v1), (3, .int v3), (4, .int v4)]) rfl ?_
  refine sw_goto (pc := 144) (tgt := 82) C dX10_sessions_144 (by decide) ?_
  exact sw_sub [1, 2, 3, 4, 0] (by rfl) (h82 _ _ _ _ _ hJ)
set_option maxHeartbeats 4000000 in
set_option maxRecDepth 100000 in
theorem t_M_sessions_138 {p : Program} {l : Launch} {e : Env} {s : State} {m : MethodId} {args : Array Value} {below : List Frame} {meth : Method} {c : Code} {D : va_G} {cy : Nat → ClassId} {ad : Nat → Nat} {A : Nat → Prop} (C : Cx p s m args meth c D cy cX10_sessions 7 RX10 (some .int) A (wM cy ad)) {k82 : St → Int32 → Int32 → Int32 → Int32 → Option (Int32 × St)} {r : Int32 × St} (h82 : ∀ (X : St) (v1 : Int32) (v3 : Int32) (v4 : Int32) (v5 : Int32), k82 X v1 v3 v4 v5 = some r → SW p l e ({ frames := 4, cells := 0, slots := 0, locals := 92 } : Room) s m args below meth c D 7 A (wM cy ad) (MQ below (poI D (wM cy ad) A r.1 r.2) args s 0 0 A) X [(0, .ref (ad 0)), (1, .int v1), (3, .int v3), (4, .int v4), (5, .int v5)] 82 []) : ∀ (X : St) (v1 : Int32) (v3 : Int32) (v5 : Int32) (s0 : Int32) (s1 : Int32), jM_sessions_138 k82 X v1 v3 v5 s0 s1 = some r → SW p l e ({ frames := 4, cells := 0, slots := 0, locals := 92 } : Room) s m args below meth c D 7 A (wM cy ad) (MQ below (poI D (wM cy ad) A r.1 r.2) args s 0 0 A) X [(0, .ref (ad 0)), (1, .int v1), (3, .int v3), (5, .int v5)] 138 [.int s1, .int s0] := by
  intro X v1 v3 v5 s0 s1 hJ
  unfold jM_sessions_138 at hJ
  refine sw_iadd (pc := 138) C dX10_sessions_138 ?_
  refine sw_istore (pc := 139) C dX10_sessions_139 (by decide) (ll2 := [(4, .int (s0 + s1)), (0, .ref (ad 0)), (1, .int v1), (3, .int v3), (5, .int v5)]) rfl ?_
  exact sw_sub [1, 2, 3, 0, 4] (by rfl) (t_M_sessions_141 C h82 _ _ _ _ _ hJ)
set_option maxHeartbeats 4000000 in
set_option maxRecDepth 100000 in
theorem t_M_sessions_82 {p : Program} {l : Launch} {e : Env} {s : State} {m : MethodId} {args : Array Value} {below : List Frame} {meth : Method} {c : Code} {D : va_G} {cy : Nat → ClassId} {ad : Nat → Nat} {A : Nat → Prop} (C : Cx p s m args meth c D cy cX10_sessions 7 RX10 (some .int) A (wM cy ad)) {r : Int32 × St} : ∀ (n : Nat) (X : St) (v1 : Int32) (v3 : Int32) (v4 : Int32) (v5 : Int32), jM_sessions_82 n X v1 v3 v4 v5 = some r → SW p l e ({ frames := 4, cells := 0, slots := 0, locals := 92 } : Room) s m args below meth c D 7 A (wM cy ad) (MQ below (poI D (wM cy ad) A r.1 r.2) args s 0 0 A) X [(0, .ref (ad 0)), (1, .int v1), (3, .int v3), (4, .int v4), (5, .int v5)] 82 [] := by
  intro n
  induction n with
  | zero => intro X v1 v3 v4 v5 hJ; exact absurd (show (none : Option (Int32 × St)) = some r from hJ) (fun h => by cases h)
  | succ n ih =>
    intro X v1 v3 v4 v5 hJ
    rw [jM_sessions_82] at hJ
    refine sw_iload (pc := 82) C 4 dX10_sessions_82 rfl ?_
    refine sw_iload_n (pc := 84) C 1 dX10_sessions_84 rfl rfl ?_
    refine sw_icmp_ge (pc := 85) (tgt := 147) C dX10_sessions_85 (by decide) (fun hb85 => ?_) (fun hb85 => ?_)
    · replace hJ := itep hb85 hJ
      exact sw_sub [0, 2, 3] (by rfl) (t_M_sessions_147 C _ _ _ hJ)
    · replace hJ := iten hb85 hJ
      refine sw_aload_n (pc := 88) C 0 dX10_sessions_88 rfl rfl ?_
      refine gM_0_12 (pc := 89) C wd_14_18 dX10_sessions_89 ?_
      refine sw_if_le (pc := 92) (tgt := 147) C dX10_sessions_92 (by decide) (fun hb92 => ?_) (fun hb92 => ?_)
      · replace hJ := itep hb92 hJ
        exact sw_sub [0, 2, 3] (by rfl) (t_M_sessions_147 C _ _ _ hJ)
      · replace hJ := iten hb92 hJ
        refine sw_aload_n (pc := 95) C 0 dX10_sessions_95 rfl rfl ?_
        refine sw_aload_n (pc := 96) C 0 dX10_sessions_96 rfl rfl ?_
        refine gM_0_12 (pc := 97) C wd_14_18 dX10_sessions_97 ?_
        obtain ⟨q100, hq100, hJ⟩ := bind_some hJ
        refine sw_callV_i (pc := 100) C (st := []) (As := [.int (sF X 12)]) (k_M_draw C.2.2.2.2.2.2.1 hq100) pk_X10_draw wd_32_15 0 rfl rfl rfl ⟨Nat.le_of_ble_eq_true rfl, Nat.le_of_ble_eq_true rfl⟩ ⟨rfl, rfl⟩ rfl rfl (Nat.le_of_ble_eq_true rfl) dX10_sessions_100 ?_
        refine sw_istore (pc := 103) C dX10_sessions_103 (by decide) (ll2 := [(6, .int q100.1), (0, .ref (ad 0)), (1, .int v1), (3, .int v3), (4, .int v4), (5, .int v5)]) rfl ?_
        refine sw_aload_n (pc := 105) C 1 dX10_sessions_105 rfl rfl ?_
        refine sw_iload (pc := 106) C 0 dX10_sessions_106 rfl ?_
        refine sw_aload_n (pc := 108) C 1 dX10_sessions_108 rfl rfl ?_
        refine gM_0_17 (pc := 109) C wd_4_17 dX10_sessions_109 ?_
        refine sw_aload_n (pc := 112) C 1 dX10_sessions_112 rfl rfl ?_
        refine gM_0_18 (pc := 113) C wd_24_4 dX10_sessions_113 ?_
        obtain ⟨q116, hq116, hJ⟩ := bind_some hJ
        refine sw_callV_i (pc := 116) C (st := []) (As := [.int q100.1, .ref (ad 7), .int (sF q100.2 18)]) (k_M_mayRise C.2.2.2.2.2.2.1 a7_7 hq116) pk_X10_mayRise wd_19_7 0 rfl rfl rfl ⟨Nat.le_of_ble_eq_true rfl, Nat.le_of_ble_eq_true rfl⟩ ⟨rfl, rfl⟩ rfl rfl (Nat.le_of_ble_eq_true rfl) dX10_sessions_116 ?_
        refine sw_if_eq (pc := 119) (tgt := 141) C dX10_sessions_119 (by decide) (fun hb119 => ?_) (fun hb119 => ?_)
        · replace hJ := itep hb119 hJ
          exact sw_sub [1, 2, 3, 4, 5] (by rfl) (t_M_sessions_141 C ih _ _ _ _ _ hJ)
        · replace hJ := iten hb119 hJ
          refine sw_iload (pc := 122) C 4 dX10_sessions_122 rfl ?_
          refine sw_aload_n (pc := 124) C 1 dX10_sessions_124 rfl rfl ?_
          refine sw_iload (pc := 125) C 0 dX10_sessions_125 rfl ?_
          obtain ⟨q127, hq127, hJ⟩ := bind_some hJ
          refine sw_callV_i (pc := 127) C (st := [.int v4]) (As := [.int q100.1]) (k_M_rises C.2.2.2.2.2.2.1 hq127) pk_X10_rises wd_24_9 0 rfl rfl rfl ⟨Nat.le_of_ble_eq_true rfl, Nat.le_of_ble_eq_true rfl⟩ ⟨rfl, rfl⟩ rfl rfl (Nat.le_of_ble_eq_true rfl) dX10_sessions_127 ?_
          refine sw_if_eq (pc := 130) (tgt := 137) C dX10_sessions_130 (by decide) (fun hb130 => ?_) (fun hb130 => ?_)
          · replace hJ := itep hb130 hJ
            refine sw_iconst (pc := 137) C (v := (0 : Int32)) dX10_sessions_137 (by decide) ?_
            exact sw_sub [1, 2, 3, 5] (by rfl) (t_M_sessions_138 C ih _ _ _ _ _ _ hJ)
          · replace hJ := iten hb130 hJ
            refine sw_iconst (pc := 133) C (v := (1 : Int32)) dX10_sessions_133 (by decide) ?_
            refine sw_goto (pc := 134) (tgt := 138) C dX10_sessions_134 (by decide) ?_
            exact sw_sub [1, 2, 3, 5] (by rfl) (t_M_sessions_138 C ih _ _ _ _ _ _ hJ)
set_option maxHeartbeats 4000000 in
set_option maxRecDepth 100000 in
theorem t_M_sessions_34 {p : Program} {l : Launch} {e : Env} {s : State} {m : MethodId} {args : Array Value} {below : List Frame} {meth : Method} {c : Code} {D : va_G} {cy : Nat → ClassId} {ad : Nat → Nat} {A : Nat → Prop} (C : Cx p s m args meth c D cy cX10_sessions 7 RX10 (some .int) A (wM cy ad)) {r : Int32 × St} : ∀ (n : Nat) (X : St) (v1 : Int32) (v2 : Int32) (v3 : Int32) (v4 : Int32), jM_sessions_34 n X v1 v2 v3 v4 = some r → SW p l e ({ frames := 4, cells := 0, slots := 0, locals := 92 } : Room) s m args below meth c D 7 A (wM cy ad) (MQ below (poI D (wM cy ad) A r.1 r.2) args s 0 0 A) X [(0, .ref (ad 0)), (1, .int v1), (2, .int v2), (3, .int v3), (4, .int v4)] 34 [] := by
  intro n
  induction n with
  | zero => intro X v1 v2 v3 v4 hJ; exact absurd (show (none : Option (Int32 × St)) = some r from hJ) (fun h => by cases h)
  | succ n ih =>
    intro X v1 v2 v3 v4 hJ
    rw [jM_sessions_34] at hJ
    refine sw_iload (pc := 34) C 4 dX10_sessions_34 rfl ?_
    refine sw_aload_n (pc := 36) C 0 dX10_sessions_36 rfl rfl ?_
    refine gM_0_14 (pc := 37) C wd_17_4 dX10_sessions_37 ?_
    refine sw_icmp_ge (pc := 40) (tgt := 63) C dX10_sessions_40 (by decide) (fun hb40 => ?_) (fun hb40 => ?_)
    · replace hJ := itep hb40 hJ
      refine sw_aload_n (pc := 63) C 0 dX10_sessions_63 rfl rfl ?_
      refine sw_aload_n (pc := 64) C 0 dX10_sessions_64 rfl rfl ?_
      refine gM_0_14 (pc := 65) C wd_17_4 dX10_sessions_65 ?_
      refine pM_0_18 (pc := 68) C wd_24_4 dX10_sessions_68 ?_
      refine sw_aload_n (pc := 71) C 0 dX10_sessions_71 rfl rfl ?_
      refine sw_iload_n (pc := 72) C 2 dX10_sessions_72 rfl rfl ?_
      refine pM_0_30 (pc := 73) C wd_32_14 dX10_sessions_73 ?_
      refine sw_iconst (pc := 76) C (v := (0 : Int32)) dX10_sessions_76 (by decide) ?_
      refine sw_istore (pc := 77) C dX10_sessions_77 (by decide) (ll2 := [(4, .int (0 : Int32)), (0, .ref (ad 0)), (1, .int v1), (2, .int v2), (3, .int v3)]) rfl ?_
      refine sw_iconst (pc := 79) C (v := (0 : Int32)) dX10_sessions_79 (by decide) ?_
      refine sw_istore (pc := 80) C dX10_sessions_80 (by decide) (ll2 := [(5, .int (0 : Int32)), (4, .int (0 : Int32)), (0, .ref (ad 0)), (1, .int v1), (2, .int v2), (3, .int v3)]) rfl ?_
      exact sw_sub [2, 3, 5, 1, 0] (by rfl) (t_M_sessions_82 C _ _ _ _ _ _ hJ)
    · replace hJ := iten hb40 hJ
      refine sw_aload_n (pc := 43) C 0 dX10_sessions_43 rfl rfl ?_
      refine gM_0_17 (pc := 44) C wd_4_17 dX10_sessions_44 ?_
      refine sw_iload (pc := 47) C 4 dX10_sessions_47 rfl ?_
      refine sw_aload_n (pc := 49) C 0 dX10_sessions_49 rfl rfl ?_
      refine gM_0_15 (pc := 50) C wd_4_16 dX10_sessions_50 ?_
      refine sw_iload (pc := 53) C 4 dX10_sessions_53 rfl ?_
      obtain ⟨hi55, hJ⟩ := gd hJ
      refine lM_6 (pc := 55) C hi55 dX10_sessions_55 ?_
      obtain ⟨hi56, hJ⟩ := gd hJ
      refine tM_7 (pc := 56) C hi56 dX10_sessions_56 ?_
      refine sw_iinc (pc := 57) C 4 dX10_sessions_57 rfl (v := (v4 + (1 : Int32))) (congrArg (fun z => v4 + z) (by decide)) (by decide) (ll2 := [(4, .int (v4 + (1 : Int32))), (0, .ref (ad 0)), (1, .int v1), (2, .int v2), (3, .int v3)]) rfl ?_
      refine sw_goto (pc := 60) (tgt := 34) C dX10_sessions_60 (by decide) ?_
      exact sw_sub [1, 2, 3, 4, 0] (by rfl) (ih _ _ _ _ _ hJ)
set_option maxHeartbeats 4000000 in
set_option maxRecDepth 100000 in
theorem t_M_sessions {p : Program} {l : Launch} {e : Env} {s : State} {m : MethodId} {args : Array Value} {below : List Frame} {meth : Method} {c : Code} {D : va_G} {cy : Nat → ClassId} {ad : Nat → Nat} {A : Nat → Prop} (C : Cx p s m args meth c D cy cX10_sessions 7 RX10 (some .int) A (wM cy ad)) {r : Int32 × St} : ∀ (X : St) (a1 : Int32) (a2 : Int32) (a3 : Int32), jM_sessions X a1 a2 a3 = some r → SW p l e ({ frames := 4, cells := 0, slots := 0, locals := 92 } : Room) s m args below meth c D 7 A (wM cy ad) (MQ below (poI D (wM cy ad) A r.1 r.2) args s 0 0 A) X [(0, .ref (ad 0)), (1, .int a1), (2, .int a2), (3, .int a3)] 0 [] := by
  intro X a1 a2 a3 hJ
  unfold jM_sessions at hJ
  refine sw_iload_n (pc := 0) C 1 dX10_sessions_0 rfl rfl ?_
  refine sw_i2l (pc := 1) C dX10_sessions_1 ?_
  refine sw_lconst (pc := 2) C (v := (1 : Int64)) dX10_sessions_2 (by decide) ?_
  refine sw_ldc2 (pc := 3) C (v := (60 : Int64)) wd_32_13 dX10_sessions_3 ?_
  obtain ⟨q6, hq6, hJ⟩ := bind_some hJ
  refine sw_callS_i (pc := 6) C (st := []) (As := [.long a1.toInt64, .long (1 : Int64), .long (60 : Int64)]) (k_M_in C.2.2.2.2.2.2.1 hq6) pk_X10_in wd_10_4 ⟨Nat.le_of_ble_eq_true rfl, Nat.le_of_ble_eq_true rfl⟩ ⟨rfl, rfl⟩ rfl rfl (Nat.le_of_ble_eq_true rfl) dX10_sessions_6 ?_
  refine sw_if_eq (pc := 9) (tgt := 28) C dX10_sessions_9 (by decide) (fun hb9 => ?_) (fun hb9 => ?_)
  · replace hJ := itep hb9 hJ
    refine sw_bipush (pc := 28) C (v := (-102 : Int32)) dX10_sessions_28 (by decide) ?_
    obtain rfl := Option.some.inj hJ
    exact sw_iret (pc := 30) C dX10_sessions_30
  · replace hJ := iten hb9 hJ
    refine sw_iload_n (pc := 12) C 2 dX10_sessions_12 rfl rfl ?_
    refine sw_if_lt (pc := 13) (tgt := 28) C dX10_sessions_13 (by decide) (fun hb13 => ?_) (fun hb13 => ?_)
    · replace hJ := itep hb13 hJ
      refine sw_bipush (pc := 28) C (v := (-102 : Int32)) dX10_sessions_28 (by decide) ?_
      obtain rfl := Option.some.inj hJ
      exact sw_iret (pc := 30) C dX10_sessions_30
    · replace hJ := iten hb13 hJ
      refine sw_iload_n (pc := 16) C 3 dX10_sessions_16 rfl rfl ?_
      refine sw_i2l (pc := 17) C dX10_sessions_17 ?_
      refine sw_lconst (pc := 18) C (v := (0 : Int64)) dX10_sessions_18 (by decide) ?_
      refine sw_ldc2 (pc := 19) C (v := (3 : Int64)) wd_14_15 dX10_sessions_19 ?_
      obtain ⟨q22, hq22, hJ⟩ := bind_some hJ
      refine sw_callS_i (pc := 22) C (st := []) (As := [.long a3.toInt64, .long (0 : Int64), .long (3 : Int64)]) (k_M_in C.2.2.2.2.2.2.1 hq22) pk_X10_in wd_10_4 ⟨Nat.le_of_ble_eq_true rfl, Nat.le_of_ble_eq_true rfl⟩ ⟨rfl, rfl⟩ rfl rfl (Nat.le_of_ble_eq_true rfl) dX10_sessions_22 ?_
      refine sw_if_ne (pc := 25) (tgt := 31) C dX10_sessions_25 (by decide) (fun hb25 => ?_) (fun hb25 => ?_)
      · replace hJ := iten hb25 hJ
        refine sw_iconst (pc := 31) C (v := (0 : Int32)) dX10_sessions_31 (by decide) ?_
        refine sw_istore (pc := 32) C dX10_sessions_32 (by decide) (ll2 := [(4, .int (0 : Int32)), (0, .ref (ad 0)), (1, .int a1), (2, .int a2), (3, .int a3)]) rfl ?_
        exact sw_sub [1, 2, 3, 4, 0] (by rfl) (t_M_sessions_34 C _ _ _ _ _ _ hJ)
      · replace hJ := itep hb25 hJ
        refine sw_bipush (pc := 28) C (v := (-102 : Int32)) dX10_sessions_28 (by decide) ?_
        obtain rfl := Option.some.inj hJ
        exact sw_iret (pc := 30) C dX10_sessions_30
set_option maxHeartbeats 4000000 in
set_option maxRecDepth 100000 in
theorem k_M_sessions {l : Launch} {D : va_G} {cy : Nat → ClassId} {ad : Nat → Nat} {A : Nat → Prop} (hD : ∀ X, va_D A (wM cy ad X)) {X : St} {a1 : Int32} {a2 : Int32} {a3 : Int32} {r : Int32 × St} (hJ : jM_sessions X a1 a2 a3 = some r) : Met l yX10_sessions (wsY yX10_sessions cX10_sessions 7 (some .int)) ({ frames := 4, cells := 0, slots := 0, locals := 92 } : Room) (prX D cy (wM cy ad) X [.ref (ad 0), .int a1, .int a2, .int a3]) (poI D (wM cy ad) A r.1 r.2) 0 0 A := sw_met (by decide +kernel) (Nat.le_of_ble_eq_true rfl) hD (fun p e s m args below meth c C => t_M_sessions C _ _ _ _ hJ)
set_option maxHeartbeats 4000000 in
set_option maxRecDepth 100000 in
theorem t_M_image_2 {p : Program} {l : Launch} {e : Env} {s : State} {m : MethodId} {args : Array Value} {below : List Frame} {meth : Method} {c : Code} {D : va_G} {cy : Nat → ClassId} {ad : Nat → Nat} {A : Nat → Prop} (C : Cx p s m args meth c D cy cX10_image 2 RX10 (some .int) A (wM cy ad)) {r : Int32 × St} : ∀ (n : Nat) (X : St) (v1 : Int32), jM_image_2 n X v1 = some r → SW p l e ({ frames := 0, cells := 0, slots := 0, locals := 0 } : Room) s m args below meth c D 2 A (wM cy ad) (MQ below (poI D (wM cy ad) A r.1 r.2) args s 0 0 A) X [(0, .ref (ad 0)), (1, .int v1)] 2 [] := by
  intro n
  induction n with
  | zero => intro X v1 hJ; exact absurd (show (none : Option (Int32 × St)) = some r from hJ) (fun h => by cases h)
  | succ n ih =>
    intro X v1 hJ
    rw [jM_image_2] at hJ
    refine sw_iload_n (pc := 2) C 1 dX10_image_2 rfl rfl ?_
    refine sw_bipush (pc := 3) C (v := (7 : Int32)) dX10_image_3 (by decide) ?_
    refine sw_icmp_ge (pc := 5) (tgt := 61) C dX10_image_5 (by decide) (fun hb5 => ?_) (fun hb5 => ?_)
    · replace hJ := itep hb5 hJ
      refine sw_aload_n (pc := 61) C 0 dX10_image_61 rfl rfl ?_
      refine sw_aload_n (pc := 62) C 0 dX10_image_62 rfl rfl ?_
      refine gM_0_14 (pc := 63) C wd_17_4 dX10_image_63 ?_
      refine pM_0_31 (pc := 66) C wd_5_6 dX10_image_66 ?_
      refine sw_aload_n (pc := 69) C 0 dX10_image_69 rfl rfl ?_
      refine sw_aload_n (pc := 70) C 0 dX10_image_70 rfl rfl ?_
      refine gM_0_12 (pc := 71) C wd_14_18 dX10_image_71 ?_
      refine pM_0_32 (pc := 74) C wd_33_14 dX10_image_74 ?_
      refine sw_aload_n (pc := 77) C 0 dX10_image_77 rfl rfl ?_
      refine gM_0_14 (pc := 78) C wd_17_4 dX10_image_78 ?_
      obtain rfl := Option.some.inj hJ
      exact sw_iret (pc := 81) C dX10_image_81
    · replace hJ := iten hb5 hJ
      refine sw_aload_n (pc := 8) C 0 dX10_image_8 rfl rfl ?_
      refine gM_0_33 (pc := 9) C wd_5_3 dX10_image_9 ?_
      refine sw_iload_n (pc := 12) C 1 dX10_image_12 rfl rfl ?_
      refine sw_aload_n (pc := 13) C 0 dX10_image_13 rfl rfl ?_
      refine gM_0_15 (pc := 14) C wd_4_16 dX10_image_14 ?_
      refine sw_iload_n (pc := 17) C 1 dX10_image_17 rfl rfl ?_
      obtain ⟨hi18, hJ⟩ := gd hJ
      refine lM_6 (pc := 18) C hi18 dX10_image_18 ?_
      obtain ⟨hi19, hJ⟩ := gd hJ
      refine tM_16 (pc := 19) C hi19 dX10_image_19 ?_
      refine sw_aload_n (pc := 20) C 0 dX10_image_20 rfl rfl ?_
      refine gM_0_34 (pc := 21) C wd_5_4 dX10_image_21 ?_
      refine sw_iload_n (pc := 24) C 1 dX10_image_24 rfl rfl ?_
      refine sw_aload_n (pc := 25) C 0 dX10_image_25 rfl rfl ?_
      refine gM_0_13 (pc := 26) C wd_4_15 dX10_image_26 ?_
      refine sw_bipush (pc := 29) C (v := (8 : Int32)) dX10_image_29 (by decide) ?_
      refine sw_iload_n (pc := 31) C 1 dX10_image_31 rfl rfl ?_
      refine sw_imul (pc := 32) C dX10_image_32 ?_
      refine sw_bipush (pc := 33) C (v := (7 : Int32)) dX10_image_33 (by decide) ?_
      refine sw_iadd (pc := 35) C dX10_image_35 ?_
      obtain ⟨hi36, hJ⟩ := gd hJ
      refine lM_5 (pc := 36) C hi36 dX10_image_36 ?_
      obtain ⟨hi37, hJ⟩ := gd hJ
      refine tM_17 (pc := 37) C hi37 dX10_image_37 ?_
      refine sw_aload_n (pc := 38) C 0 dX10_image_38 rfl rfl ?_
      refine gM_0_35 (pc := 39) C wd_5_5 dX10_image_39 ?_
      refine sw_iload_n (pc := 42) C 1 dX10_image_42 rfl rfl ?_
      refine sw_aload_n (pc := 43) C 0 dX10_image_43 rfl rfl ?_
      refine gM_0_13 (pc := 44) C wd_4_15 dX10_image_44 ?_
      refine sw_bipush (pc := 47) C (v := (8 : Int32)) dX10_image_47 (by decide) ?_
      refine sw_iload_n (pc := 49) C 1 dX10_image_49 rfl rfl ?_
      refine sw_imul (pc := 50) C dX10_image_50 ?_
      refine sw_iconst (pc := 51) C (v := (4 : Int32)) dX10_image_51 (by decide) ?_
      refine sw_iadd (pc := 52) C dX10_image_52 ?_
      obtain ⟨hi53, hJ⟩ := gd hJ
      refine lM_5 (pc := 53) C hi53 dX10_image_53 ?_
      obtain ⟨hi54, hJ⟩ := gd hJ
      refine tM_18 (pc := 54) C hi54 dX10_image_54 ?_
      refine sw_iinc (pc := 55) C 1 dX10_image_55 rfl (v := (v1 + (1 : Int32))) (congrArg (fun z => v1 + z) (by decide)) (by decide) (ll2 := [(1, .int (v1 + (1 : Int32))), (0, .ref (ad 0))]) rfl ?_
      refine sw_goto (pc := 58) (tgt := 2) C dX10_image_58 (by decide) ?_
      exact sw_sub [1, 0] (by rfl) (ih _ _ hJ)
set_option maxHeartbeats 4000000 in
set_option maxRecDepth 100000 in
theorem t_M_image {p : Program} {l : Launch} {e : Env} {s : State} {m : MethodId} {args : Array Value} {below : List Frame} {meth : Method} {c : Code} {D : va_G} {cy : Nat → ClassId} {ad : Nat → Nat} {A : Nat → Prop} (C : Cx p s m args meth c D cy cX10_image 2 RX10 (some .int) A (wM cy ad)) {r : Int32 × St} : ∀ (X : St), jM_image X = some r → SW p l e ({ frames := 0, cells := 0, slots := 0, locals := 0 } : Room) s m args below meth c D 2 A (wM cy ad) (MQ below (poI D (wM cy ad) A r.1 r.2) args s 0 0 A) X [(0, .ref (ad 0))] 0 [] := by
  intro X hJ
  unfold jM_image at hJ
  refine sw_iconst (pc := 0) C (v := (0 : Int32)) dX10_image_0 (by decide) ?_
  refine sw_istore_n (pc := 1) C dX10_image_1 rfl (by decide) (ll2 := [(1, .int (0 : Int32)), (0, .ref (ad 0))]) rfl ?_
  exact sw_sub [1, 0] (by rfl) (t_M_image_2 C _ _ _ hJ)
set_option maxHeartbeats 4000000 in
set_option maxRecDepth 100000 in
theorem k_M_image {l : Launch} {D : va_G} {cy : Nat → ClassId} {ad : Nat → Nat} {A : Nat → Prop} (hD : ∀ X, va_D A (wM cy ad X)) {X : St}  {r : Int32 × St} (hJ : jM_image X = some r) : Met l yX10_image (wsY yX10_image cX10_image 2 (some .int)) ({ frames := 0, cells := 0, slots := 0, locals := 0 } : Room) (prX D cy (wM cy ad) X [.ref (ad 0)]) (poI D (wM cy ad) A r.1 r.2) 0 0 A := sw_met (by decide +kernel) (Nat.le_of_ble_eq_true rfl) hD (fun p e s m args below meth c C => t_M_image C _ hJ)
set_option maxHeartbeats 4000000 in
set_option maxRecDepth 100000 in
theorem t_M_restore_24 {p : Program} {l : Launch} {e : Env} {s : State} {m : MethodId} {args : Array Value} {below : List Frame} {meth : Method} {c : Code} {D : va_G} {cy : Nat → ClassId} {ad : Nat → Nat} {A : Nat → Prop} (C : Cx p s m args meth c D cy cX10_restore 2 RX10 (some .int) A (wM cy ad)) {r : Int32 × St} : ∀ (n : Nat) (X : St) (v1 : Int32), jM_restore_24 n X v1 = some r → SW p l e ({ frames := 0, cells := 0, slots := 0, locals := 0 } : Room) s m args below meth c D 2 A (wM cy ad) (MQ below (poI D (wM cy ad) A r.1 r.2) args s 0 0 A) X [(0, .ref (ad 0)), (1, .int v1)] 24 [] := by
  intro n
  induction n with
  | zero => intro X v1 hJ; exact absurd (show (none : Option (Int32 × St)) = some r from hJ) (fun h => by cases h)
  | succ n ih =>
    intro X v1 hJ
    rw [jM_restore_24] at hJ
    refine sw_iload_n (pc := 24) C 1 dX10_restore_24 rfl rfl ?_
    refine sw_bipush (pc := 25) C (v := (7 : Int32)) dX10_restore_25 (by decide) ?_
    refine sw_icmp_ge (pc := 27) (tgt := 83) C dX10_restore_27 (by decide) (fun hb27 => ?_) (fun hb27 => ?_)
    · replace hJ := itep hb27 hJ
      refine sw_aload_n (pc := 83) C 0 dX10_restore_83 rfl rfl ?_
      refine sw_aload_n (pc := 84) C 0 dX10_restore_84 rfl rfl ?_
      refine gM_0_31 (pc := 85) C wd_5_6 dX10_restore_85 ?_
      refine pM_0_14 (pc := 88) C wd_17_4 dX10_restore_88 ?_
      refine sw_aload_n (pc := 91) C 0 dX10_restore_91 rfl rfl ?_
      refine gM_0_14 (pc := 92) C wd_17_4 dX10_restore_92 ?_
      obtain rfl := Option.some.inj hJ
      exact sw_iret (pc := 95) C dX10_restore_95
    · replace hJ := iten hb27 hJ
      refine sw_aload_n (pc := 30) C 0 dX10_restore_30 rfl rfl ?_
      refine gM_0_15 (pc := 31) C wd_4_16 dX10_restore_31 ?_
      refine sw_iload_n (pc := 34) C 1 dX10_restore_34 rfl rfl ?_
      refine sw_aload_n (pc := 35) C 0 dX10_restore_35 rfl rfl ?_
      refine gM_0_33 (pc := 36) C wd_5_3 dX10_restore_36 ?_
      refine sw_iload_n (pc := 39) C 1 dX10_restore_39 rfl rfl ?_
      obtain ⟨hi40, hJ⟩ := gd hJ
      refine lM_16 (pc := 40) C hi40 dX10_restore_40 ?_
      obtain ⟨hi41, hJ⟩ := gd hJ
      refine tM_6 (pc := 41) C hi41 dX10_restore_41 ?_
      refine sw_aload_n (pc := 42) C 0 dX10_restore_42 rfl rfl ?_
      refine gM_0_13 (pc := 43) C wd_4_15 dX10_restore_43 ?_
      refine sw_bipush (pc := 46) C (v := (8 : Int32)) dX10_restore_46 (by decide) ?_
      refine sw_iload_n (pc := 48) C 1 dX10_restore_48 rfl rfl ?_
      refine sw_imul (pc := 49) C dX10_restore_49 ?_
      refine sw_bipush (pc := 50) C (v := (7 : Int32)) dX10_restore_50 (by decide) ?_
      refine sw_iadd (pc := 52) C dX10_restore_52 ?_
      refine sw_aload_n (pc := 53) C 0 dX10_restore_53 rfl rfl ?_
      refine gM_0_34 (pc := 54) C wd_5_4 dX10_restore_54 ?_
      refine sw_iload_n (pc := 57) C 1 dX10_restore_57 rfl rfl ?_
      obtain ⟨hi58, hJ⟩ := gd hJ
      refine lM_17 (pc := 58) C hi58 dX10_restore_58 ?_
      obtain ⟨hi59, hJ⟩ := gd hJ
      refine tM_5 (pc := 59) C hi59 dX10_restore_59 ?_
      refine sw_aload_n (pc := 60) C 0 dX10_restore_60 rfl rfl ?_
      refine gM_0_13 (pc := 61) C wd_4_15 dX10_restore_61 ?_
      refine sw_bipush (pc := 64) C (v := (8 : Int32)) dX10_restore_64 (by decide) ?_
      refine sw_iload_n (pc := 66) C 1 dX10_restore_66 rfl rfl ?_
      refine sw_imul (pc := 67) C dX10_restore_67 ?_
      refine sw_iconst (pc := 68) C (v := (4 : Int32)) dX10_restore_68 (by decide) ?_
      refine sw_iadd (pc := 69) C dX10_restore_69 ?_
      refine sw_aload_n (pc := 70) C 0 dX10_restore_70 rfl rfl ?_
      refine gM_0_35 (pc := 71) C wd_5_5 dX10_restore_71 ?_
      refine sw_iload_n (pc := 74) C 1 dX10_restore_74 rfl rfl ?_
      obtain ⟨hi75, hJ⟩ := gd hJ
      refine lM_18 (pc := 75) C hi75 dX10_restore_75 ?_
      obtain ⟨hi76, hJ⟩ := gd hJ
      refine tM_5 (pc := 76) C hi76 dX10_restore_76 ?_
      refine sw_iinc (pc := 77) C 1 dX10_restore_77 rfl (v := (v1 + (1 : Int32))) (congrArg (fun z => v1 + z) (by decide)) (by decide) (ll2 := [(1, .int (v1 + (1 : Int32))), (0, .ref (ad 0))]) rfl ?_
      refine sw_goto (pc := 80) (tgt := 24) C dX10_restore_80 (by decide) ?_
      exact sw_sub [1, 0] (by rfl) (ih _ _ hJ)
set_option maxHeartbeats 4000000 in
set_option maxRecDepth 100000 in
theorem t_M_restore {p : Program} {l : Launch} {e : Env} {s : State} {m : MethodId} {args : Array Value} {below : List Frame} {meth : Method} {c : Code} {D : va_G} {cy : Nat → ClassId} {ad : Nat → Nat} {A : Nat → Prop} (C : Cx p s m args meth c D cy cX10_restore 2 RX10 (some .int) A (wM cy ad)) {r : Int32 × St} : ∀ (X : St), jM_restore X = some r → SW p l e ({ frames := 0, cells := 0, slots := 0, locals := 0 } : Room) s m args below meth c D 2 A (wM cy ad) (MQ below (poI D (wM cy ad) A r.1 r.2) args s 0 0 A) X [(0, .ref (ad 0))] 0 [] := by
  intro X hJ
  unfold jM_restore at hJ
  refine sw_aload_n (pc := 0) C 0 dX10_restore_0 rfl rfl ?_
  refine gM_0_31 (pc := 1) C wd_5_6 dX10_restore_1 ?_
  refine sw_iconst (pc := 4) C (v := (-1 : Int32)) dX10_restore_4 (by decide) ?_
  refine sw_icmp_eq (pc := 5) (tgt := 19) C dX10_restore_5 (by decide) (fun hb5 => ?_) (fun hb5 => ?_)
  · replace hJ := itep hb5 hJ
    refine sw_bipush (pc := 19) C (v := (-103 : Int32)) dX10_restore_19 (by decide) ?_
    obtain rfl := Option.some.inj hJ
    exact sw_iret (pc := 21) C dX10_restore_21
  · replace hJ := iten hb5 hJ
    refine sw_aload_n (pc := 8) C 0 dX10_restore_8 rfl rfl ?_
    refine gM_0_32 (pc := 9) C wd_33_14 dX10_restore_9 ?_
    refine sw_aload_n (pc := 12) C 0 dX10_restore_12 rfl rfl ?_
    refine gM_0_12 (pc := 13) C wd_14_18 dX10_restore_13 ?_
    refine sw_icmp_eq (pc := 16) (tgt := 22) C dX10_restore_16 (by decide) (fun hb16 => ?_) (fun hb16 => ?_)
    · replace hJ := itep hb16 hJ
      refine sw_iconst (pc := 22) C (v := (0 : Int32)) dX10_restore_22 (by decide) ?_
      refine sw_istore_n (pc := 23) C dX10_restore_23 rfl (by decide) (ll2 := [(1, .int (0 : Int32)), (0, .ref (ad 0))]) rfl ?_
      exact sw_sub [1, 0] (by rfl) (t_M_restore_24 C _ _ _ hJ)
    · replace hJ := iten hb16 hJ
      refine sw_bipush (pc := 19) C (v := (-103 : Int32)) dX10_restore_19 (by decide) ?_
      obtain rfl := Option.some.inj hJ
      exact sw_iret (pc := 21) C dX10_restore_21
set_option maxHeartbeats 4000000 in
set_option maxRecDepth 100000 in
theorem k_M_restore {l : Launch} {D : va_G} {cy : Nat → ClassId} {ad : Nat → Nat} {A : Nat → Prop} (hD : ∀ X, va_D A (wM cy ad X)) {X : St}  {r : Int32 × St} (hJ : jM_restore X = some r) : Met l yX10_restore (wsY yX10_restore cX10_restore 2 (some .int)) ({ frames := 0, cells := 0, slots := 0, locals := 0 } : Room) (prX D cy (wM cy ad) X [.ref (ad 0)]) (poI D (wM cy ad) A r.1 r.2) 0 0 A := sw_met (by decide +kernel) (Nat.le_of_ble_eq_true rfl) hD (fun p e s m args below meth c C => t_M_restore C _ hJ)
set_option maxHeartbeats 4000000 in
set_option maxRecDepth 100000 in
theorem t_M_countOf {p : Program} {l : Launch} {e : Env} {s : State} {m : MethodId} {args : Array Value} {below : List Frame} {meth : Method} {c : Code} {D : va_G} {cy : Nat → ClassId} {ad : Nat → Nat} {A : Nat → Prop} (C : Cx p s m args meth c D cy cX10_countOf 2 RX10 (some .int) A (wM cy ad)) {X : St} {r : Int32} : ∀ (a1 : Int32), jM_countOf X a1 = some r → SW p l e ({ frames := 0, cells := 0, slots := 0, locals := 0 } : Room) s m args below meth c D 2 A (wM cy ad) (MQ below (poI D (wM cy ad) A r X) args s 0 0 A) X [(0, .ref (ad 0)), (1, .int a1)] 0 [] := by
  intro a1 hJ
  unfold jM_countOf at hJ
  refine sw_iload_n (pc := 0) C 1 dX10_countOf_0 rfl rfl ?_
  by_cases hs1_0 : a1 = (0 : Int32)
  · replace hJ := itep hs1_0 hJ
    refine sw_tblIn (pc := 1) C (0 : Int32) (off := 47) (tgt := 48) dX10_countOf_1 hs1_0 (by decide) (by decide) rfl (by decide) ?_
    refine sw_aload_n (pc := 48) C 0 dX10_countOf_48 rfl rfl ?_
    refine gM_0_12 (pc := 49) C wd_14_18 dX10_countOf_49 ?_
    obtain rfl := Option.some.inj hJ
    exact sw_iret (pc := 52) C dX10_countOf_52
  replace hJ := iten hs1_0 hJ
  by_cases hs1_1 : a1 = (1 : Int32)
  · replace hJ := itep hs1_1 hJ
    refine sw_tblIn (pc := 1) C (1 : Int32) (off := 52) (tgt := 53) dX10_countOf_1 hs1_1 (by decide) (by decide) rfl (by decide) ?_
    refine sw_aload_n (pc := 53) C 0 dX10_countOf_53 rfl rfl ?_
    refine gM_0_14 (pc := 54) C wd_17_4 dX10_countOf_54 ?_
    obtain rfl := Option.some.inj hJ
    exact sw_iret (pc := 57) C dX10_countOf_57
  replace hJ := iten hs1_1 hJ
  by_cases hs1_2 : a1 = (2 : Int32)
  · replace hJ := itep hs1_2 hJ
    refine sw_tblIn (pc := 1) C (2 : Int32) (off := 57) (tgt := 58) dX10_countOf_1 hs1_2 (by decide) (by decide) rfl (by decide) ?_
    refine sw_aload_n (pc := 58) C 0 dX10_countOf_58 rfl rfl ?_
    refine gM_0_3 (pc := 59) C wd_12_7 dX10_countOf_59 ?_
    obtain rfl := Option.some.inj hJ
    exact sw_iret (pc := 62) C dX10_countOf_62
  replace hJ := iten hs1_2 hJ
  by_cases hs1_3 : a1 = (3 : Int32)
  · replace hJ := itep hs1_3 hJ
    refine sw_tblIn (pc := 1) C (3 : Int32) (off := 62) (tgt := 63) dX10_countOf_1 hs1_3 (by decide) (by decide) rfl (by decide) ?_
    refine sw_aload_n (pc := 63) C 0 dX10_countOf_63 rfl rfl ?_
    refine gM_0_4 (pc := 64) C wd_5_7 dX10_countOf_64 ?_
    obtain rfl := Option.some.inj hJ
    exact sw_iret (pc := 67) C dX10_countOf_67
  replace hJ := iten hs1_3 hJ
  by_cases hs1_4 : a1 = (4 : Int32)
  · replace hJ := itep hs1_4 hJ
    refine sw_tblIn (pc := 1) C (4 : Int32) (off := 67) (tgt := 68) dX10_countOf_1 hs1_4 (by decide) (by decide) rfl (by decide) ?_
    refine sw_aload_n (pc := 68) C 0 dX10_countOf_68 rfl rfl ?_
    refine gM_0_1 (pc := 69) C wd_6_12 dX10_countOf_69 ?_
    obtain rfl := Option.some.inj hJ
    exact sw_iret (pc := 72) C dX10_countOf_72
  replace hJ := iten hs1_4 hJ
  by_cases hs1_5 : a1 = (5 : Int32)
  · replace hJ := itep hs1_5 hJ
    refine sw_tblIn (pc := 1) C (5 : Int32) (off := 72) (tgt := 73) dX10_countOf_1 hs1_5 (by decide) (by decide) rfl (by decide) ?_
    refine sw_aload_n (pc := 73) C 0 dX10_countOf_73 rfl rfl ?_
    refine gM_0_16 (pc := 74) C wd_20_18 dX10_countOf_74 ?_
    obtain rfl := Option.some.inj hJ
    exact sw_iret (pc := 77) C dX10_countOf_77
  replace hJ := iten hs1_5 hJ
  by_cases hs1_6 : a1 = (6 : Int32)
  · replace hJ := itep hs1_6 hJ
    refine sw_tblIn (pc := 1) C (6 : Int32) (off := 77) (tgt := 78) dX10_countOf_1 hs1_6 (by decide) (by decide) rfl (by decide) ?_
    refine sw_aload_n (pc := 78) C 0 dX10_countOf_78 rfl rfl ?_
    refine gM_0_19 (pc := 79) C wd_26_10 dX10_countOf_79 ?_
    obtain rfl := Option.some.inj hJ
    exact sw_iret (pc := 82) C dX10_countOf_82
  replace hJ := iten hs1_6 hJ
  by_cases hs1_7 : a1 = (7 : Int32)
  · replace hJ := itep hs1_7 hJ
    refine sw_tblIn (pc := 1) C (7 : Int32) (off := 82) (tgt := 83) dX10_countOf_1 hs1_7 (by decide) (by decide) rfl (by decide) ?_
    refine sw_aload_n (pc := 83) C 0 dX10_countOf_83 rfl rfl ?_
    refine gM_0_25 (pc := 84) C wd_30_23 dX10_countOf_84 ?_
    obtain rfl := Option.some.inj hJ
    exact sw_iret (pc := 87) C dX10_countOf_87
  replace hJ := iten hs1_7 hJ
  have e1_0 := tbl_ne (0 : Int32) (a := 0) hs1_0 (by decide)
  have e1_1 := tbl_ne (1 : Int32) (a := 1) hs1_1 (by decide)
  have e1_2 := tbl_ne (2 : Int32) (a := 2) hs1_2 (by decide)
  have e1_3 := tbl_ne (3 : Int32) (a := 3) hs1_3 (by decide)
  have e1_4 := tbl_ne (4 : Int32) (a := 4) hs1_4 (by decide)
  have e1_5 := tbl_ne (5 : Int32) (a := 5) hs1_5 (by decide)
  have e1_6 := tbl_ne (6 : Int32) (a := 6) hs1_6 (by decide)
  have e1_7 := tbl_ne (7 : Int32) (a := 7) hs1_7 (by decide)
  refine sw_tblOut (pc := 1) (tgt := 88) C dX10_countOf_1 (by omega) (by decide) ?_
  refine sw_bipush (pc := 88) C (v := (-102 : Int32)) dX10_countOf_88 (by decide) ?_
  obtain rfl := Option.some.inj hJ
  exact sw_iret (pc := 90) C dX10_countOf_90
set_option maxHeartbeats 4000000 in
set_option maxRecDepth 100000 in
theorem k_M_countOf {l : Launch} {D : va_G} {cy : Nat → ClassId} {ad : Nat → Nat} {A : Nat → Prop} (hD : ∀ X, va_D A (wM cy ad X)) {X : St} {a1 : Int32} {r : Int32} (hJ : jM_countOf X a1 = some r) : Met l yX10_countOf (wsY yX10_countOf cX10_countOf 2 (some .int)) ({ frames := 0, cells := 0, slots := 0, locals := 0 } : Room) (prX D cy (wM cy ad) X [.ref (ad 0), .int a1]) (poI D (wM cy ad) A r X) 0 0 A := sw_met (by decide +kernel) (Nat.le_of_ble_eq_true rfl) hD (fun p e s m args below meth c C => t_M_countOf C _ hJ)
set_option maxHeartbeats 4000000 in
set_option maxRecDepth 100000 in
theorem t_M_count {p : Program} {l : Launch} {e : Env} {s : State} {m : MethodId} {args : Array Value} {below : List Frame} {meth : Method} {c : Code} {D : va_G} {cy : Nat → ClassId} {ad : Nat → Nat} {A : Nat → Prop} (C : Cx p s m args meth c D cy cX10_count 2 RX10 (some .int) A (wM cy ad)) {X : St} {r : Int32} : ∀ (a1 : Int32), jM_count X a1 = some r → SW p l e ({ frames := 1, cells := 0, slots := 0, locals := 21 } : Room) s m args below meth c D 2 A (wM cy ad) (MQ below (poI D (wM cy ad) A r X) args s 0 0 A) X [(0, .ref (ad 0)), (1, .int a1)] 0 [] := by
  intro a1 hJ
  unfold jM_count at hJ
  refine sw_aload_n (pc := 0) C 0 dX10_count_0 rfl rfl ?_
  refine sw_iload_n (pc := 1) C 1 dX10_count_1 rfl rfl ?_
  obtain ⟨q2, hq2, hJ⟩ := bind_some hJ
  refine sw_callV_i (pc := 2) C (st := []) (As := [.int a1]) (k_M_countOf C.2.2.2.2.2.2.1 hq2) pk_X10_countOf wd_34_19 0 rfl rfl rfl ⟨Nat.le_of_ble_eq_true rfl, Nat.le_of_ble_eq_true rfl⟩ ⟨rfl, rfl⟩ rfl rfl (Nat.le_of_ble_eq_true rfl) dX10_count_2 ?_
  obtain rfl := Option.some.inj hJ
  exact sw_iret (pc := 5) C dX10_count_5
set_option maxHeartbeats 4000000 in
set_option maxRecDepth 100000 in
theorem k_M_count {l : Launch} {D : va_G} {cy : Nat → ClassId} {ad : Nat → Nat} {A : Nat → Prop} (hD : ∀ X, va_D A (wM cy ad X)) {X : St} {a1 : Int32} {r : Int32} (hJ : jM_count X a1 = some r) : Met l yX10_count (wsY yX10_count cX10_count 2 (some .int)) ({ frames := 1, cells := 0, slots := 0, locals := 21 } : Room) (prX D cy (wM cy ad) X [.ref (ad 0), .int a1]) (poI D (wM cy ad) A r X) 0 0 A := sw_met (by decide +kernel) (Nat.le_of_ble_eq_true rfl) hD (fun p e s m args below meth c C => t_M_count C _ hJ)
set_option maxHeartbeats 4000000 in
set_option maxRecDepth 100000 in
theorem t_M_say {p : Program} {l : Launch} {e : Env} {s : State} {m : MethodId} {args : Array Value} {below : List Frame} {meth : Method} {c : Code} {D : va_G} {cy : Nat → ClassId} {ad : Nat → Nat} {A : Nat → Prop} (C : Cx p s m args meth c D cy cX10_say 3 RX10 none A (wM cy ad)) {r : St} : ∀ (X : St) (a1 : Int64), jM_say X a1 = some r → SW p l e ({ frames := 0, cells := 0, slots := 0, locals := 0 } : Room) s m args below meth c D 3 A (wM cy ad) (MQ below (poV D (wM cy ad) A r) args s 0 0 A) X [(0, .ref (ad 0)), (1, .long a1)] 0 [] := by
  intro X a1 hJ
  unfold jM_say at hJ
  refine sw_aload_n (pc := 0) C 0 dX10_say_0 rfl rfl ?_
  refine sw_ldc2 (pc := 1) C (v := (31 : Int64)) wd_35_23 dX10_say_1 ?_
  refine sw_aload_n (pc := 4) C 0 dX10_say_4 rfl rfl ?_
  refine gM_0_36 (pc := 5) C wd_35_18 dX10_say_5 ?_
  refine sw_lmul (pc := 8) C dX10_say_8 ?_
  refine sw_lload_n (pc := 9) C 1 dX10_say_9 rfl rfl ?_
  refine sw_ladd (pc := 10) C dX10_say_10 ?_
  refine pM_0_36 (pc := 11) C wd_35_18 dX10_say_11 ?_
  obtain rfl := Option.some.inj hJ
  exact sw_vret (pc := 14) C dX10_say_14
set_option maxHeartbeats 4000000 in
set_option maxRecDepth 100000 in
theorem k_M_say {l : Launch} {D : va_G} {cy : Nat → ClassId} {ad : Nat → Nat} {A : Nat → Prop} (hD : ∀ X, va_D A (wM cy ad X)) {X : St} {a1 : Int64} {r : St} (hJ : jM_say X a1 = some r) : Met l yX10_say (wsY yX10_say cX10_say 3 none) ({ frames := 0, cells := 0, slots := 0, locals := 0 } : Room) (prX D cy (wM cy ad) X [.ref (ad 0), .long a1]) (poV D (wM cy ad) A r) 0 0 A := sw_met (by decide +kernel) (Nat.le_of_ble_eq_true rfl) hD (fun p e s m args below meth c C => t_M_say C _ _ hJ)
set_option maxHeartbeats 4000000 in
set_option maxRecDepth 100000 in
theorem t_M_digest_190 {p : Program} {l : Launch} {e : Env} {s : State} {m : MethodId} {args : Array Value} {below : List Frame} {meth : Method} {c : Code} {D : va_G} {cy : Nat → ClassId} {ad : Nat → Nat} {A : Nat → Prop} (C : Cx p s m args meth c D cy cX10_digest 3 RX10 (some .long) A (wM cy ad)) {N : Nat} {r : Int64 × St} : ∀ (n : Nat) (X : St) (v1 : Int32), jM_digest_190 N n X v1 = some r → SW p l e ({ frames := 3, cells := 0, slots := 0, locals := 72 } : Room) s m args below meth c D 3 A (wM cy ad) (MQ below (poL D (wM cy ad) A r.1 r.2) args s 0 0 A) X [(0, .ref (ad 0)), (1, .int v1)] 190 [] := by
  intro n
  induction n with
  | zero => intro X v1 hJ; exact absurd (show (none : Option (Int64 × St)) = some r from hJ) (fun h => by cases h)
  | succ n ih =>
    intro X v1 hJ
    rw [jM_digest_190] at hJ
    refine sw_iload_n (pc := 190) C 1 dX10_digest_190 rfl rfl ?_
    refine sw_bipush (pc := 191) C (v := (8 : Int32)) dX10_digest_191 (by decide) ?_
    refine sw_icmp_ge (pc := 193) (tgt := 212) C dX10_digest_193 (by decide) (fun hb193 => ?_) (fun hb193 => ?_)
    · replace hJ := itep hb193 hJ
      refine sw_aload_n (pc := 212) C 0 dX10_digest_212 rfl rfl ?_
      refine gM_0_36 (pc := 213) C wd_35_18 dX10_digest_213 ?_
      obtain rfl := Option.some.inj hJ
      exact sw_lret (pc := 216) C dX10_digest_216
    · replace hJ := iten hb193 hJ
      refine sw_aload_n (pc := 196) C 0 dX10_digest_196 rfl rfl ?_
      refine sw_aload_n (pc := 197) C 0 dX10_digest_197 rfl rfl ?_
      refine sw_iload_n (pc := 198) C 1 dX10_digest_198 rfl rfl ?_
      obtain ⟨q199, hq199, hJ⟩ := bind_some hJ
      refine sw_callV_i (pc := 199) C (st := [.ref (ad 0)]) (As := [.int v1]) (k_M_countOf C.2.2.2.2.2.2.1 hq199) pk_X10_countOf wd_34_19 0 rfl rfl rfl ⟨Nat.le_of_ble_eq_true rfl, Nat.le_of_ble_eq_true rfl⟩ ⟨rfl, rfl⟩ rfl rfl (Nat.le_of_ble_eq_true rfl) dX10_digest_199 ?_
      refine sw_i2l (pc := 202) C dX10_digest_202 ?_
      obtain ⟨q203, hq203, hJ⟩ := bind_some hJ
      refine sw_callV_v (pc := 203) C (st := []) (As := [.long q199.toInt64]) (k_M_say C.2.2.2.2.2.2.1 hq203) pk_X10_say wd_35_19 0 rfl rfl rfl ⟨Nat.le_of_ble_eq_true rfl, Nat.le_of_ble_eq_true rfl⟩ ⟨rfl, rfl⟩ rfl rfl (Nat.le_of_ble_eq_true rfl) dX10_digest_203 ?_
      refine sw_iinc (pc := 206) C 1 dX10_digest_206 rfl (v := (v1 + (1 : Int32))) (congrArg (fun z => v1 + z) (by decide)) (by decide) (ll2 := [(1, .int (v1 + (1 : Int32))), (0, .ref (ad 0))]) rfl ?_
      refine sw_goto (pc := 209) (tgt := 190) C dX10_digest_209 (by decide) ?_
      exact sw_sub [1, 0] (by rfl) (ih _ _ hJ)
set_option maxHeartbeats 4000000 in
set_option maxRecDepth 100000 in
theorem t_M_digest_163 {p : Program} {l : Launch} {e : Env} {s : State} {m : MethodId} {args : Array Value} {below : List Frame} {meth : Method} {c : Code} {D : va_G} {cy : Nat → ClassId} {ad : Nat → Nat} {A : Nat → Prop} (C : Cx p s m args meth c D cy cX10_digest 3 RX10 (some .long) A (wM cy ad)) {N : Nat} {r : Int64 × St} : ∀ (n : Nat) (X : St) (v1 : Int32), jM_digest_163 N n X v1 = some r → SW p l e ({ frames := 3, cells := 0, slots := 0, locals := 72 } : Room) s m args below meth c D 3 A (wM cy ad) (MQ below (poL D (wM cy ad) A r.1 r.2) args s 0 0 A) X [(0, .ref (ad 0)), (1, .int v1)] 163 [] := by
  intro n
  induction n with
  | zero => intro X v1 hJ; exact absurd (show (none : Option (Int64 × St)) = some r from hJ) (fun h => by cases h)
  | succ n ih =>
    intro X v1 hJ
    rw [jM_digest_163] at hJ
    refine sw_iload_n (pc := 163) C 1 dX10_digest_163 rfl rfl ?_
    refine sw_aload_n (pc := 164) C 0 dX10_digest_164 rfl rfl ?_
    refine gM_0_1 (pc := 165) C wd_6_12 dX10_digest_165 ?_
    refine sw_icmp_ge (pc := 168) (tgt := 188) C dX10_digest_168 (by decide) (fun hb168 => ?_) (fun hb168 => ?_)
    · replace hJ := itep hb168 hJ
      refine sw_iconst (pc := 188) C (v := (0 : Int32)) dX10_digest_188 (by decide) ?_
      refine sw_istore_n (pc := 189) C dX10_digest_189 rfl (by decide) (ll2 := [(1, .int (0 : Int32)), (0, .ref (ad 0))]) rfl ?_
      exact sw_sub [1, 0] (by rfl) (t_M_digest_190 C _ _ _ hJ)
    · replace hJ := iten hb168 hJ
      refine sw_aload_n (pc := 171) C 0 dX10_digest_171 rfl rfl ?_
      refine sw_aload_n (pc := 172) C 0 dX10_digest_172 rfl rfl ?_
      refine gM_0_0 (pc := 173) C wd_4_11 dX10_digest_173 ?_
      refine sw_iload_n (pc := 176) C 1 dX10_digest_176 rfl rfl ?_
      obtain ⟨hi177, hJ⟩ := gd hJ
      refine lM_1 (pc := 177) C hi177 dX10_digest_177 ?_
      refine sw_i2l (pc := 178) C dX10_digest_178 ?_
      obtain ⟨q179, hq179, hJ⟩ := bind_some hJ
      refine sw_callV_v (pc := 179) C (st := []) (As := [.long (sA X 1 v1.toNatClampNeg).toInt64]) (k_M_say C.2.2.2.2.2.2.1 hq179) pk_X10_say wd_35_19 0 rfl rfl rfl ⟨Nat.le_of_ble_eq_true rfl, Nat.le_of_ble_eq_true rfl⟩ ⟨rfl, rfl⟩ rfl rfl (Nat.le_of_ble_eq_true rfl) dX10_digest_179 ?_
      refine sw_iinc (pc := 182) C 1 dX10_digest_182 rfl (v := (v1 + (1 : Int32))) (congrArg (fun z => v1 + z) (by decide)) (by decide) (ll2 := [(1, .int (v1 + (1 : Int32))), (0, .ref (ad 0))]) rfl ?_
      refine sw_goto (pc := 185) (tgt := 163) C dX10_digest_185 (by decide) ?_
      exact sw_sub [1, 0] (by rfl) (ih _ _ hJ)
set_option maxHeartbeats 4000000 in
set_option maxRecDepth 100000 in
theorem t_M_digest_110 {p : Program} {l : Launch} {e : Env} {s : State} {m : MethodId} {args : Array Value} {below : List Frame} {meth : Method} {c : Code} {D : va_G} {cy : Nat → ClassId} {ad : Nat → Nat} {A : Nat → Prop} (C : Cx p s m args meth c D cy cX10_digest 3 RX10 (some .long) A (wM cy ad)) {N : Nat} {r : Int64 × St} : ∀ (n : Nat) (X : St) (v1 : Int32), jM_digest_110 N n X v1 = some r → SW p l e ({ frames := 3, cells := 0, slots := 0, locals := 72 } : Room) s m args below meth c D 3 A (wM cy ad) (MQ below (poL D (wM cy ad) A r.1 r.2) args s 0 0 A) X [(0, .ref (ad 0)), (1, .int v1)] 110 [] := by
  intro n
  induction n with
  | zero => intro X v1 hJ; exact absurd (show (none : Option (Int64 × St)) = some r from hJ) (fun h => by cases h)
  | succ n ih =>
    intro X v1 hJ
    rw [jM_digest_110] at hJ
    refine sw_iload_n (pc := 110) C 1 dX10_digest_110 rfl rfl ?_
    refine sw_aload_n (pc := 111) C 0 dX10_digest_111 rfl rfl ?_
    refine gM_0_14 (pc := 112) C wd_17_4 dX10_digest_112 ?_
    refine sw_icmp_ge (pc := 115) (tgt := 135) C dX10_digest_115 (by decide) (fun hb115 => ?_) (fun hb115 => ?_)
    · replace hJ := itep hb115 hJ
      refine sw_aload_n (pc := 135) C 0 dX10_digest_135 rfl rfl ?_
      refine sw_aload_n (pc := 136) C 0 dX10_digest_136 rfl rfl ?_
      refine sw_aload_n (pc := 137) C 0 dX10_digest_137 rfl rfl ?_
      refine gM_0_15 (pc := 138) C wd_4_16 dX10_digest_138 ?_
      refine sw_aload_n (pc := 141) C 0 dX10_digest_141 rfl rfl ?_
      refine gM_0_14 (pc := 142) C wd_17_4 dX10_digest_142 ?_
      obtain ⟨q145, hq145, hJ⟩ := bind_some hJ
      refine sw_callV_i (pc := 145) C (st := [.ref (ad 0)]) (As := [.ref (ad 6), .int (sF X 14)]) (k_M_billOf C.2.2.2.2.2.2.1 a7_6 hq145) pk_X10_billOf wd_23_4 0 rfl rfl rfl ⟨Nat.le_of_ble_eq_true rfl, Nat.le_of_ble_eq_true rfl⟩ ⟨rfl, rfl⟩ rfl rfl (Nat.le_of_ble_eq_true rfl) dX10_digest_145 ?_
      refine sw_i2l (pc := 148) C dX10_digest_148 ?_
      obtain ⟨q149, hq149, hJ⟩ := bind_some hJ
      refine sw_callV_v (pc := 149) C (st := []) (As := [.long q145.toInt64]) (k_M_say C.2.2.2.2.2.2.1 hq149) pk_X10_say wd_35_19 0 rfl rfl rfl ⟨Nat.le_of_ble_eq_true rfl, Nat.le_of_ble_eq_true rfl⟩ ⟨rfl, rfl⟩ rfl rfl (Nat.le_of_ble_eq_true rfl) dX10_digest_149 ?_
      refine sw_aload_n (pc := 152) C 0 dX10_digest_152 rfl rfl ?_
      refine sw_aload_n (pc := 153) C 0 dX10_digest_153 rfl rfl ?_
      obtain ⟨q154, hq154, hJ⟩ := bind_some hJ
      refine sw_callV_i (pc := 154) C (st := [.ref (ad 0)]) (As := []) (k_M_changedOf C.2.2.2.2.2.2.1 hq154) pk_X10_changedOf wd_29_16 0 rfl rfl rfl ⟨Nat.le_of_ble_eq_true rfl, Nat.le_of_ble_eq_true rfl⟩ ⟨rfl, rfl⟩ rfl rfl (Nat.le_of_ble_eq_true rfl) dX10_digest_154 ?_
      refine sw_i2l (pc := 157) C dX10_digest_157 ?_
      obtain ⟨q158, hq158, hJ⟩ := bind_some hJ
      refine sw_callV_v (pc := 158) C (st := []) (As := [.long q154.1.toInt64]) (k_M_say C.2.2.2.2.2.2.1 hq158) pk_X10_say wd_35_19 0 rfl rfl rfl ⟨Nat.le_of_ble_eq_true rfl, Nat.le_of_ble_eq_true rfl⟩ ⟨rfl, rfl⟩ rfl rfl (Nat.le_of_ble_eq_true rfl) dX10_digest_158 ?_
      refine sw_iconst (pc := 161) C (v := (0 : Int32)) dX10_digest_161 (by decide) ?_
      refine sw_istore_n (pc := 162) C dX10_digest_162 rfl (by decide) (ll2 := [(1, .int (0 : Int32)), (0, .ref (ad 0))]) rfl ?_
      exact sw_sub [1, 0] (by rfl) (t_M_digest_163 C _ _ _ hJ)
    · replace hJ := iten hb115 hJ
      refine sw_aload_n (pc := 118) C 0 dX10_digest_118 rfl rfl ?_
      refine sw_aload_n (pc := 119) C 0 dX10_digest_119 rfl rfl ?_
      refine gM_0_15 (pc := 120) C wd_4_16 dX10_digest_120 ?_
      refine sw_iload_n (pc := 123) C 1 dX10_digest_123 rfl rfl ?_
      obtain ⟨hi124, hJ⟩ := gd hJ
      refine lM_6 (pc := 124) C hi124 dX10_digest_124 ?_
      refine sw_i2l (pc := 125) C dX10_digest_125 ?_
      obtain ⟨q126, hq126, hJ⟩ := bind_some hJ
      refine sw_callV_v (pc := 126) C (st := []) (As := [.long (sA X 6 v1.toNatClampNeg).toInt64]) (k_M_say C.2.2.2.2.2.2.1 hq126) pk_X10_say wd_35_19 0 rfl rfl rfl ⟨Nat.le_of_ble_eq_true rfl, Nat.le_of_ble_eq_true rfl⟩ ⟨rfl, rfl⟩ rfl rfl (Nat.le_of_ble_eq_true rfl) dX10_digest_126 ?_
      refine sw_iinc (pc := 129) C 1 dX10_digest_129 rfl (v := (v1 + (1 : Int32))) (congrArg (fun z => v1 + z) (by decide)) (by decide) (ll2 := [(1, .int (v1 + (1 : Int32))), (0, .ref (ad 0))]) rfl ?_
      refine sw_goto (pc := 132) (tgt := 110) C dX10_digest_132 (by decide) ?_
      exact sw_sub [1, 0] (by rfl) (ih _ _ hJ)
set_option maxHeartbeats 4000000 in
set_option maxRecDepth 100000 in
theorem t_M_digest_99 {p : Program} {l : Launch} {e : Env} {s : State} {m : MethodId} {args : Array Value} {below : List Frame} {meth : Method} {c : Code} {D : va_G} {cy : Nat → ClassId} {ad : Nat → Nat} {A : Nat → Prop} (C : Cx p s m args meth c D cy cX10_digest 3 RX10 (some .long) A (wM cy ad)) {N : Nat} {k44 : St → Int32 → Option (Int64 × St)} {r : Int64 × St} (h44 : ∀ (X : St) (v1 : Int32), k44 X v1 = some r → SW p l e ({ frames := 3, cells := 0, slots := 0, locals := 72 } : Room) s m args below meth c D 3 A (wM cy ad) (MQ below (poL D (wM cy ad) A r.1 r.2) args s 0 0 A) X [(0, .ref (ad 0)), (1, .int v1)] 44 []) : ∀ (X : St) (v1 : Int32) (s1 : Int64), jM_digest_99 N k44 X v1 s1 = some r → SW p l e ({ frames := 3, cells := 0, slots := 0, locals := 72 } : Room) s m args below meth c D 3 A (wM cy ad) (MQ below (poL D (wM cy ad) A r.1 r.2) args s 0 0 A) X [(0, .ref (ad 0)), (1, .int v1)] 99 [.long s1, .ref (ad 0)] := by
  intro X v1 s1 hJ
  unfold jM_digest_99 at hJ
  obtain ⟨q99, hq99, hJ⟩ := bind_some hJ
  refine sw_callV_v (pc := 99) C (st := []) (As := [.long s1]) (k_M_say C.2.2.2.2.2.2.1 hq99) pk_X10_say wd_35_19 0 rfl rfl rfl ⟨Nat.le_of_ble_eq_true rfl, Nat.le_of_ble_eq_true rfl⟩ ⟨rfl, rfl⟩ rfl rfl (Nat.le_of_ble_eq_true rfl) dX10_digest_99 ?_
  refine sw_iinc (pc := 102) C 1 dX10_digest_102 rfl (v := (v1 + (1 : Int32))) (congrArg (fun z => v1 + z) (by decide)) (by decide) (ll2 := [(1, .int (v1 + (1 : Int32))), (0, .ref (ad 0))]) rfl ?_
  refine sw_goto (pc := 105) (tgt := 44) C dX10_digest_105 (by decide) ?_
  exact sw_sub [1, 0] (by rfl) (h44 _ _ hJ)
set_option maxHeartbeats 4000000 in
set_option maxRecDepth 100000 in
theorem t_M_digest_54 {p : Program} {l : Launch} {e : Env} {s : State} {m : MethodId} {args : Array Value} {below : List Frame} {meth : Method} {c : Code} {D : va_G} {cy : Nat → ClassId} {ad : Nat → Nat} {A : Nat → Prop} (C : Cx p s m args meth c D cy cX10_digest 3 RX10 (some .long) A (wM cy ad)) {N : Nat} {k44 : St → Int32 → Option (Int64 × St)} {r : Int64 × St} (h44 : ∀ (X : St) (v1 : Int32), k44 X v1 = some r → SW p l e ({ frames := 3, cells := 0, slots := 0, locals := 72 } : Room) s m args below meth c D 3 A (wM cy ad) (MQ below (poL D (wM cy ad) A r.1 r.2) args s 0 0 A) X [(0, .ref (ad 0)), (1, .int v1)] 44 []) : ∀ (n : Nat) (X : St) (v1 : Int32) (v2 : Int32), jM_digest_54 N k44 n X v1 v2 = some r → SW p l e ({ frames := 3, cells := 0, slots := 0, locals := 72 } : Room) s m args below meth c D 3 A (wM cy ad) (MQ below (poL D (wM cy ad) A r.1 r.2) args s 0 0 A) X [(0, .ref (ad 0)), (1, .int v1), (2, .int v2)] 54 [] := by
  intro n
  induction n with
  | zero => intro X v1 v2 hJ; exact absurd (show (none : Option (Int64 × St)) = some r from hJ) (fun h => by cases h)
  | succ n ih =>
    intro X v1 v2 hJ
    rw [jM_digest_54] at hJ
    refine sw_iload_n (pc := 54) C 2 dX10_digest_54 rfl rfl ?_
    refine sw_bipush (pc := 55) C (v := (12 : Int32)) dX10_digest_55 (by decide) ?_
    refine sw_icmp_ge (pc := 57) (tgt := 77) C dX10_digest_57 (by decide) (fun hb57 => ?_) (fun hb57 => ?_)
    · replace hJ := itep hb57 hJ
      refine sw_aload_n (pc := 77) C 0 dX10_digest_77 rfl rfl ?_
      refine sw_aload_n (pc := 78) C 0 dX10_digest_78 rfl rfl ?_
      refine sw_iload_n (pc := 79) C 1 dX10_digest_79 rfl rfl ?_
      refine sw_aload_n (pc := 80) C 0 dX10_digest_80 rfl rfl ?_
      refine gM_0_15 (pc := 81) C wd_4_16 dX10_digest_81 ?_
      refine sw_aload_n (pc := 84) C 0 dX10_digest_84 rfl rfl ?_
      refine gM_0_14 (pc := 85) C wd_17_4 dX10_digest_85 ?_
      obtain ⟨q88, hq88, hJ⟩ := bind_some hJ
      refine sw_callV_i (pc := 88) C (st := [.ref (ad 0)]) (As := [.int v1, .ref (ad 6), .int (sF X 14)]) (k_M_mayRise C.2.2.2.2.2.2.1 a7_6 hq88) pk_X10_mayRise wd_19_7 0 rfl rfl rfl ⟨Nat.le_of_ble_eq_true rfl, Nat.le_of_ble_eq_true rfl⟩ ⟨rfl, rfl⟩ rfl rfl (Nat.le_of_ble_eq_true rfl) dX10_digest_88 ?_
      refine sw_if_eq (pc := 91) (tgt := 98) C dX10_digest_91 (by decide) (fun hb91 => ?_) (fun hb91 => ?_)
      · replace hJ := itep hb91 hJ
        refine sw_lconst (pc := 98) C (v := (0 : Int64)) dX10_digest_98 (by decide) ?_
        exact sw_sub [0, 1] (by rfl) (t_M_digest_99 C h44 _ _ _ hJ)
      · replace hJ := iten hb91 hJ
        refine sw_lconst (pc := 94) C (v := (1 : Int64)) dX10_digest_94 (by decide) ?_
        refine sw_goto (pc := 95) (tgt := 99) C dX10_digest_95 (by decide) ?_
        exact sw_sub [0, 1] (by rfl) (t_M_digest_99 C h44 _ _ _ hJ)
    · replace hJ := iten hb57 hJ
      refine sw_aload_n (pc := 60) C 0 dX10_digest_60 rfl rfl ?_
      refine sw_aload_n (pc := 61) C 0 dX10_digest_61 rfl rfl ?_
      refine sw_iload_n (pc := 62) C 1 dX10_digest_62 rfl rfl ?_
      refine sw_iload_n (pc := 63) C 2 dX10_digest_63 rfl rfl ?_
      obtain ⟨q64, hq64, hJ⟩ := bind_some hJ
      refine sw_callV_i (pc := 64) C (st := [.ref (ad 0)]) (As := [.int v1, .int v2]) (k_M_tell C.2.2.2.2.2.2.1 hq64) pk_X10_tell wd_17_0 0 rfl rfl rfl ⟨Nat.le_of_ble_eq_true rfl, Nat.le_of_ble_eq_true rfl⟩ ⟨rfl, rfl⟩ rfl rfl (Nat.le_of_ble_eq_true rfl) dX10_digest_64 ?_
      refine sw_i2l (pc := 67) C dX10_digest_67 ?_
      obtain ⟨q68, hq68, hJ⟩ := bind_some hJ
      refine sw_callV_v (pc := 68) C (st := []) (As := [.long q64.toInt64]) (k_M_say C.2.2.2.2.2.2.1 hq68) pk_X10_say wd_35_19 0 rfl rfl rfl ⟨Nat.le_of_ble_eq_true rfl, Nat.le_of_ble_eq_true rfl⟩ ⟨rfl, rfl⟩ rfl rfl (Nat.le_of_ble_eq_true rfl) dX10_digest_68 ?_
      refine sw_iinc (pc := 71) C 2 dX10_digest_71 rfl (v := (v2 + (1 : Int32))) (congrArg (fun z => v2 + z) (by decide)) (by decide) (ll2 := [(2, .int (v2 + (1 : Int32))), (0, .ref (ad 0)), (1, .int v1)]) rfl ?_
      refine sw_goto (pc := 74) (tgt := 54) C dX10_digest_74 (by decide) ?_
      exact sw_sub [1, 2, 0] (by rfl) (ih _ _ _ hJ)
set_option maxHeartbeats 4000000 in
set_option maxRecDepth 100000 in
theorem t_M_digest_44 {p : Program} {l : Launch} {e : Env} {s : State} {m : MethodId} {args : Array Value} {below : List Frame} {meth : Method} {c : Code} {D : va_G} {cy : Nat → ClassId} {ad : Nat → Nat} {A : Nat → Prop} (C : Cx p s m args meth c D cy cX10_digest 3 RX10 (some .long) A (wM cy ad)) {N : Nat} {r : Int64 × St} : ∀ (n : Nat) (X : St) (v1 : Int32), jM_digest_44 N n X v1 = some r → SW p l e ({ frames := 3, cells := 0, slots := 0, locals := 72 } : Room) s m args below meth c D 3 A (wM cy ad) (MQ below (poL D (wM cy ad) A r.1 r.2) args s 0 0 A) X [(0, .ref (ad 0)), (1, .int v1)] 44 [] := by
  intro n
  induction n with
  | zero => intro X v1 hJ; exact absurd (show (none : Option (Int64 × St)) = some r from hJ) (fun h => by cases h)
  | succ n ih =>
    intro X v1 hJ
    rw [jM_digest_44] at hJ
    refine sw_iload_n (pc := 44) C 1 dX10_digest_44 rfl rfl ?_
    refine sw_aload_n (pc := 45) C 0 dX10_digest_45 rfl rfl ?_
    refine gM_0_12 (pc := 46) C wd_14_18 dX10_digest_46 ?_
    refine sw_icmp_ge (pc := 49) (tgt := 108) C dX10_digest_49 (by decide) (fun hb49 => ?_) (fun hb49 => ?_)
    · replace hJ := itep hb49 hJ
      refine sw_iconst (pc := 108) C (v := (0 : Int32)) dX10_digest_108 (by decide) ?_
      refine sw_istore_n (pc := 109) C dX10_digest_109 rfl (by decide) (ll2 := [(1, .int (0 : Int32)), (0, .ref (ad 0))]) rfl ?_
      exact sw_sub [1, 0] (by rfl) (t_M_digest_110 C _ _ _ hJ)
    · replace hJ := iten hb49 hJ
      refine sw_iconst (pc := 52) C (v := (0 : Int32)) dX10_digest_52 (by decide) ?_
      refine sw_istore_n (pc := 53) C dX10_digest_53 rfl (by decide) (ll2 := [(2, .int (0 : Int32)), (0, .ref (ad 0)), (1, .int v1)]) rfl ?_
      exact sw_sub [1, 2, 0] (by rfl) (t_M_digest_54 C ih _ _ _ _ hJ)
set_option maxHeartbeats 4000000 in
set_option maxRecDepth 100000 in
theorem t_M_digest_9 {p : Program} {l : Launch} {e : Env} {s : State} {m : MethodId} {args : Array Value} {below : List Frame} {meth : Method} {c : Code} {D : va_G} {cy : Nat → ClassId} {ad : Nat → Nat} {A : Nat → Prop} (C : Cx p s m args meth c D cy cX10_digest 3 RX10 (some .long) A (wM cy ad)) {N : Nat} {r : Int64 × St} : ∀ (n : Nat) (X : St) (v1 : Int32), jM_digest_9 N n X v1 = some r → SW p l e ({ frames := 3, cells := 0, slots := 0, locals := 72 } : Room) s m args below meth c D 3 A (wM cy ad) (MQ below (poL D (wM cy ad) A r.1 r.2) args s 0 0 A) X [(0, .ref (ad 0)), (1, .int v1)] 9 [] := by
  intro n
  induction n with
  | zero => intro X v1 hJ; exact absurd (show (none : Option (Int64 × St)) = some r from hJ) (fun h => by cases h)
  | succ n ih =>
    intro X v1 hJ
    rw [jM_digest_9] at hJ
    refine sw_iload_n (pc := 9) C 1 dX10_digest_9 rfl rfl ?_
    refine sw_bipush (pc := 10) C (v := (49 : Int32)) dX10_digest_10 (by decide) ?_
    refine sw_icmp_ge (pc := 12) (tgt := 42) C dX10_digest_12 (by decide) (fun hb12 => ?_) (fun hb12 => ?_)
    · replace hJ := itep hb12 hJ
      refine sw_iconst (pc := 42) C (v := (0 : Int32)) dX10_digest_42 (by decide) ?_
      refine sw_istore_n (pc := 43) C dX10_digest_43 rfl (by decide) (ll2 := [(1, .int (0 : Int32)), (0, .ref (ad 0))]) rfl ?_
      exact sw_sub [1, 0] (by rfl) (t_M_digest_44 C _ _ _ hJ)
    · replace hJ := iten hb12 hJ
      refine sw_aload_n (pc := 15) C 0 dX10_digest_15 rfl rfl ?_
      refine sw_aload_n (pc := 16) C 0 dX10_digest_16 rfl rfl ?_
      refine gM_0_2 (pc := 17) C wd_4_12 dX10_digest_17 ?_
      refine sw_iload_n (pc := 20) C 1 dX10_digest_20 rfl rfl ?_
      refine sw_bipush (pc := 21) C (v := (7 : Int32)) dX10_digest_21 (by decide) ?_
      refine sw_idiv (pc := 23) C dX10_digest_23 (by decide) ?_
      obtain ⟨hi24, hJ⟩ := gd hJ
      refine lM_2 (pc := 24) C hi24 dX10_digest_24 ?_
      refine sw_iload_n (pc := 25) C 1 dX10_digest_25 rfl rfl ?_
      refine sw_bipush (pc := 26) C (v := (7 : Int32)) dX10_digest_26 (by decide) ?_
      refine sw_irem (pc := 28) C dX10_digest_28 (by decide) ?_
      refine sw_ishr (pc := 29) C dX10_digest_29 ?_
      refine sw_iconst (pc := 30) C (v := (1 : Int32)) dX10_digest_30 (by decide) ?_
      refine sw_iand (pc := 31) C dX10_digest_31 ?_
      refine sw_i2l (pc := 32) C dX10_digest_32 ?_
      obtain ⟨q33, hq33, hJ⟩ := bind_some hJ
      refine sw_callV_v (pc := 33) C (st := []) (As := [.long (((sA X 2 (v1 / (7 : Int32)).toNatClampNeg) >>> ((v1 - v1 / (7 : Int32) * (7 : Int32)) &&& 31)) &&& (1 : Int32)).toInt64]) (k_M_say C.2.2.2.2.2.2.1 hq33) pk_X10_say wd_35_19 0 rfl rfl rfl ⟨Nat.le_of_ble_eq_true rfl, Nat.le_of_ble_eq_true rfl⟩ ⟨rfl, rfl⟩ rfl rfl (Nat.le_of_ble_eq_true rfl) dX10_digest_33 ?_
      refine sw_iinc (pc := 36) C 1 dX10_digest_36 rfl (v := (v1 + (1 : Int32))) (congrArg (fun z => v1 + z) (by decide)) (by decide) (ll2 := [(1, .int (v1 + (1 : Int32))), (0, .ref (ad 0))]) rfl ?_
      refine sw_goto (pc := 39) (tgt := 9) C dX10_digest_39 (by decide) ?_
      exact sw_sub [1, 0] (by rfl) (ih _ _ hJ)
set_option maxHeartbeats 4000000 in
set_option maxRecDepth 100000 in
theorem t_M_digest {p : Program} {l : Launch} {e : Env} {s : State} {m : MethodId} {args : Array Value} {below : List Frame} {meth : Method} {c : Code} {D : va_G} {cy : Nat → ClassId} {ad : Nat → Nat} {A : Nat → Prop} (C : Cx p s m args meth c D cy cX10_digest 3 RX10 (some .long) A (wM cy ad)) {N : Nat} {r : Int64 × St} : ∀ (X : St), jM_digest N X = some r → SW p l e ({ frames := 3, cells := 0, slots := 0, locals := 72 } : Room) s m args below meth c D 3 A (wM cy ad) (MQ below (poL D (wM cy ad) A r.1 r.2) args s 0 0 A) X [(0, .ref (ad 0))] 0 [] := by
  intro X hJ
  unfold jM_digest at hJ
  refine sw_aload_n (pc := 0) C 0 dX10_digest_0 rfl rfl ?_
  refine sw_ldc2 (pc := 1) C (v := (653 : Int64)) wd_35_17 dX10_digest_1 ?_
  refine pM_0_36 (pc := 4) C wd_35_18 dX10_digest_4 ?_
  refine sw_iconst (pc := 7) C (v := (0 : Int32)) dX10_digest_7 (by decide) ?_
  refine sw_istore_n (pc := 8) C dX10_digest_8 rfl (by decide) (ll2 := [(1, .int (0 : Int32)), (0, .ref (ad 0))]) rfl ?_
  exact sw_sub [1, 0] (by rfl) (t_M_digest_9 C _ _ _ hJ)
set_option maxHeartbeats 4000000 in
set_option maxRecDepth 100000 in
theorem k_M_digest {l : Launch} {D : va_G} {cy : Nat → ClassId} {ad : Nat → Nat} {A : Nat → Prop} (hD : ∀ X, va_D A (wM cy ad X)) {X : St} {N : Nat}  {r : Int64 × St} (hJ : jM_digest N X = some r) : Met l yX10_digest (wsY yX10_digest cX10_digest 3 (some .long)) ({ frames := 3, cells := 0, slots := 0, locals := 72 } : Room) (prX D cy (wM cy ad) X [.ref (ad 0)]) (poL D (wM cy ad) A r.1 r.2) 0 0 A := sw_met (by decide +kernel) (Nat.le_of_ble_eq_true rfl) hD (fun p e s m args below meth c C => t_M_digest C _ hJ)
