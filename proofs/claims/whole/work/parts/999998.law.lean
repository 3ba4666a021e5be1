/-! THE LAW: a step of its loop, case by case -/
theorem wl_7 : Cond.methodLink RL 7 yX11_member ∈ lwg := lwt5 (i := 147) (by decide +kernel) (by decide +kernel)
theorem wl_17 : Cond.methodLink RL 17 yX11_init ∈ lwg := lwt1 (i := 25) (by decide +kernel) (by decide +kernel)
theorem wl_20 : Cond.methodLink RL 20 yX12_init ∈ lwg := lwt5 (i := 235) (by decide +kernel) (by decide +kernel)
theorem wl_21 : Cond.methodLink RL 21 yX11_feed ∈ lwg := lwt2 (i := 224) (by decide +kernel) (by decide +kernel)
theorem wl_25 : Cond.methodLink RL 25 yX12_feed ∈ lwg := lwt6 (i := 163) (by decide +kernel) (by decide +kernel)
theorem wl_26 : Cond.methodLink RL 26 yX11_text ∈ lwg := lwt2 (i := 232) (by decide +kernel) (by decide +kernel)
theorem wl_30 : Cond.methodLink RL 30 yX12_text ∈ lwg := lwt6 (i := 167) (by decide +kernel) (by decide +kernel)
theorem wl_31 : Cond.methodLink RL 31 yX11_fault ∈ lwg := lwt3 (i := 94) (by decide +kernel) (by decide +kernel)
theorem wl_34 : Cond.methodLink RL 34 yX12_fault ∈ lwg := lwt6 (i := 236) (by decide +kernel) (by decide +kernel)
theorem wl_35 : Cond.methodLink RL 35 yX11_named ∈ lwg := lwt3 (i := 98) (by decide +kernel) (by decide +kernel)
theorem wl_38 : Cond.methodLink RL 38 yX12_named ∈ lwg := lwt7 (i := 0) (by decide +kernel) (by decide +kernel)
theorem wl_44 : Cond.methodLink RL 44 yX12_member ∈ lwg := lwt7 (i := 189) (by decide +kernel) (by decide +kernel)
theorem wl_45 : Cond.methodLink RL 45 yX12_thrown ∈ lwg := lwt6 (i := 159) (by decide +kernel) (by decide +kernel)
theorem wl_49 : Cond.methodLink RL 49 yX11_period ∈ lwg := lwt3 (i := 103) (by decide +kernel) (by decide +kernel)
theorem wl_52 : Cond.methodLink RL 52 yX12_period ∈ lwg := lwt7 (i := 197) (by decide +kernel) (by decide +kernel)
theorem wl_53 : Cond.methodLink RL 53 yX11_percent ∈ lwg := lwt3 (i := 123) (by decide +kernel) (by decide +kernel)
theorem wl_57 : Cond.methodLink RL 57 yX12_percent ∈ lwg := lwt7 (i := 202) (by decide +kernel) (by decide +kernel)
theorem wl_58 : Cond.methodLink RL 58 yX11_share ∈ lwg := lwt3 (i := 155) (by decide +kernel) (by decide +kernel)
theorem wl_61 : Cond.methodLink RL 61 yX12_share ∈ lwg := lwt7 (i := 210) (by decide +kernel) (by decide +kernel)
theorem wl_62 : Cond.methodLink RL 62 yX11_parts ∈ lwg := lwt3 (i := 163) (by decide +kernel) (by decide +kernel)
theorem wl_65 : Cond.methodLink RL 65 yX12_parts ∈ lwg := lwt7 (i := 224) (by decide +kernel) (by decide +kernel)
theorem wl_66 : Cond.methodLink RL 66 yX11_controls ∈ lwg := lwt3 (i := 169) (by decide +kernel) (by decide +kernel)
theorem wl_69 : Cond.methodLink RL 69 yX12_controls ∈ lwg := lwt7 (i := 230) (by decide +kernel) (by decide +kernel)
theorem wl_70 : Cond.methodLink RL 70 yX11_related ∈ lwg := lwt3 (i := 177) (by decide +kernel) (by decide +kernel)
theorem wl_73 : Cond.methodLink RL 73 yX12_related ∈ lwg := lwt7 (i := 234) (by decide +kernel) (by decide +kernel)
theorem wl_74 : Cond.methodLink RL 74 yX11_groups ∈ lwg := lwt3 (i := 185) (by decide +kernel) (by decide +kernel)
theorem wl_77 : Cond.methodLink RL 77 yX12_groups ∈ lwg := lwt8 (i := 2) (by decide +kernel) (by decide +kernel)
theorem wl_78 : Cond.methodLink RL 78 yX11_shared ∈ lwg := lwt4 (i := 56) (by decide +kernel) (by decide +kernel)
theorem wl_81 : Cond.methodLink RL 81 yX12_shared ∈ lwg := lwt8 (i := 6) (by decide +kernel) (by decide +kernel)
theorem wl_82 : Cond.methodLink RL 82 yX11_bound ∈ lwg := lwt4 (i := 62) (by decide +kernel) (by decide +kernel)
theorem wl_85 : Cond.methodLink RL 85 yX12_bound ∈ lwg := lwt8 (i := 10) (by decide +kernel) (by decide +kernel)
theorem wl_86 : Cond.methodLink RL 86 yX11_room ∈ lwg := lwt4 (i := 70) (by decide +kernel) (by decide +kernel)
theorem wl_89 : Cond.methodLink RL 89 yX12_room ∈ lwg := lwt8 (i := 14) (by decide +kernel) (by decide +kernel)
theorem wl_90 : Cond.methodLink RL 90 yX11_price ∈ lwg := lwt4 (i := 74) (by decide +kernel) (by decide +kernel)
theorem wl_93 : Cond.methodLink RL 93 yX12_price ∈ lwg := lwt8 (i := 18) (by decide +kernel) (by decide +kernel)
theorem wl_94 : Cond.methodLink RL 94 yX11_claim ∈ lwg := lwt4 (i := 78) (by decide +kernel) (by decide +kernel)
theorem wl_97 : Cond.methodLink RL 97 yX12_claim ∈ lwg := lwt7 (i := 24) (by decide +kernel) (by decide +kernel)
theorem wl_98 : Cond.methodLink RL 98 yX11_withdraw ∈ lwg := lwt4 (i := 91) (by decide +kernel) (by decide +kernel)
theorem wl_101 : Cond.methodLink RL 101 yX12_withdraw ∈ lwg := lwt7 (i := 113) (by decide +kernel) (by decide +kernel)
theorem wl_102 : Cond.methodLink RL 102 yX11_claimed ∈ lwg := lwt4 (i := 104) (by decide +kernel) (by decide +kernel)
theorem wl_105 : Cond.methodLink RL 105 yX12_claimed ∈ lwg := lwt7 (i := 121) (by decide +kernel) (by decide +kernel)
theorem wl_106 : Cond.methodLink RL 106 yX11_claimAll ∈ lwg := lwt4 (i := 112) (by decide +kernel) (by decide +kernel)
theorem wl_109 : Cond.methodLink RL 109 yX12_claimAll ∈ lwg := lwt7 (i := 130) (by decide +kernel) (by decide +kernel)
theorem wl_110 : Cond.methodLink RL 110 yX11_result ∈ lwg := lwt4 (i := 169) (by decide +kernel) (by decide +kernel)
theorem wl_114 : Cond.methodLink RL 114 yX12_result_ ∈ lwg := lwt7 (i := 170) (by decide +kernel) (by decide +kernel)
theorem wl_115 : Cond.methodLink RL 115 yX11_own ∈ lwg := lwt4 (i := 31) (by decide +kernel) (by decide +kernel)
theorem wl_119 : Cond.methodLink RL 119 yX12_own ∈ lwg := lwt7 (i := 174) (by decide +kernel) (by decide +kernel)
theorem wl_120 : Cond.methodLink RL 120 yX11_relief ∈ lwg := lwt4 (i := 179) (by decide +kernel) (by decide +kernel)
theorem wl_123 : Cond.methodLink RL 123 yX12_relief ∈ lwg := lwt8 (i := 22) (by decide +kernel) (by decide +kernel)
theorem wl_124 : Cond.methodLink RL 124 yX11_solved ∈ lwg := lwt4 (i := 183) (by decide +kernel) (by decide +kernel)
theorem wl_128 : Cond.methodLink RL 128 yX12_solved ∈ lwg := lwt8 (i := 26) (by decide +kernel) (by decide +kernel)
theorem wl_129 : Cond.methodLink RL 129 yX11_reached ∈ lwg := lwt4 (i := 196) (by decide +kernel) (by decide +kernel)
theorem wl_132 : Cond.methodLink RL 132 yX12_reached ∈ lwg := lwt8 (i := 31) (by decide +kernel) (by decide +kernel)
theorem wl_133 : Cond.methodLink RL 133 yX11_left ∈ lwg := lwt4 (i := 208) (by decide +kernel) (by decide +kernel)
theorem wl_136 : Cond.methodLink RL 136 yX12_left ∈ lwg := lwt8 (i := 35) (by decide +kernel) (by decide +kernel)
theorem wl_137 : Cond.methodLink RL 137 yX11_pays ∈ lwg := lwt4 (i := 233) (by decide +kernel) (by decide +kernel)
theorem wl_140 : Cond.methodLink RL 140 yX12_pays ∈ lwg := lwt8 (i := 39) (by decide +kernel) (by decide +kernel)
theorem wl_141 : Cond.methodLink RL 141 yX11_balance ∈ lwg := lwt5 (i := 9) (by decide +kernel) (by decide +kernel)
theorem wl_144 : Cond.methodLink RL 144 yX12_balance ∈ lwg := lwt8 (i := 43) (by decide +kernel) (by decide +kernel)
theorem wl_145 : Cond.methodLink RL 145 yX11_owes ∈ lwg := lwt5 (i := 18) (by decide +kernel) (by decide +kernel)
theorem wl_148 : Cond.methodLink RL 148 yX12_owes ∈ lwg := lwt8 (i := 52) (by decide +kernel) (by decide +kernel)
theorem wl_149 : Cond.methodLink RL 149 yX11_settles ∈ lwg := lwt5 (i := 22) (by decide +kernel) (by decide +kernel)
theorem wl_152 : Cond.methodLink RL 152 yX12_settles ∈ lwg := lwt8 (i := 56) (by decide +kernel) (by decide +kernel)
theorem wl_153 : Cond.methodLink RL 153 yX11_settling ∈ lwg := lwt5 (i := 39) (by decide +kernel) (by decide +kernel)
theorem wl_156 : Cond.methodLink RL 156 yX12_settling ∈ lwg := lwt8 (i := 64) (by decide +kernel) (by decide +kernel)
theorem wl_157 : Cond.methodLink RL 157 yX11_tax ∈ lwg := lwt5 (i := 43) (by decide +kernel) (by decide +kernel)
theorem wl_160 : Cond.methodLink RL 160 yX12_tax ∈ lwg := lwt8 (i := 68) (by decide +kernel) (by decide +kernel)
theorem wl_161 : Cond.methodLink RL 161 yX11_without ∈ lwg := lwt5 (i := 47) (by decide +kernel) (by decide +kernel)
theorem wl_164 : Cond.methodLink RL 164 yX12_without ∈ lwg := lwt8 (i := 72) (by decide +kernel) (by decide +kernel)
theorem wl_165 : Cond.methodLink RL 165 yX11_worth ∈ lwg := lwt5 (i := 55) (by decide +kernel) (by decide +kernel)
theorem wl_168 : Cond.methodLink RL 168 yX12_worth ∈ lwg := lwt8 (i := 76) (by decide +kernel) (by decide +kernel)
theorem wl_169 : Cond.methodLink RL 169 yX11_lack ∈ lwg := lwt5 (i := 63) (by decide +kernel) (by decide +kernel)
theorem wl_172 : Cond.methodLink RL 172 yX12_lack ∈ lwg := lwt8 (i := 80) (by decide +kernel) (by decide +kernel)
theorem wl_173 : Cond.methodLink RL 173 yX11_byCarry ∈ lwg := lwt5 (i := 67) (by decide +kernel) (by decide +kernel)
theorem wl_176 : Cond.methodLink RL 176 yX12_byCarry ∈ lwg := lwt8 (i := 84) (by decide +kernel) (by decide +kernel)
theorem wl_177 : Cond.methodLink RL 177 yX11_carried ∈ lwg := lwt4 (i := 220) (by decide +kernel) (by decide +kernel)
theorem wl_180 : Cond.methodLink RL 180 yX12_carried ∈ lwg := lwt8 (i := 92) (by decide +kernel) (by decide +kernel)
theorem wl_181 : Cond.methodLink RL 181 yX11_route ∈ lwg := lwt4 (i := 212) (by decide +kernel) (by decide +kernel)
theorem wl_184 : Cond.methodLink RL 184 yX12_route ∈ lwg := lwt8 (i := 96) (by decide +kernel) (by decide +kernel)
theorem wl_185 : Cond.methodLink RL 185 yX11_steps ∈ lwg := lwt4 (i := 23) (by decide +kernel) (by decide +kernel)
theorem wl_188 : Cond.methodLink RL 188 yX12_steps ∈ lwg := lwt8 (i := 100) (by decide +kernel) (by decide +kernel)
theorem wl_189 : Cond.methodLink RL 189 yX11_byGate ∈ lwg := lwt5 (i := 75) (by decide +kernel) (by decide +kernel)
theorem wl_192 : Cond.methodLink RL 192 yX12_byGate ∈ lwg := lwt8 (i := 104) (by decide +kernel) (by decide +kernel)
theorem wl_193 : Cond.methodLink RL 193 yX11_gateFor ∈ lwg := lwt5 (i := 83) (by decide +kernel) (by decide +kernel)
theorem wl_196 : Cond.methodLink RL 196 yX12_gateFor ∈ lwg := lwt8 (i := 108) (by decide +kernel) (by decide +kernel)
theorem wl_197 : Cond.methodLink RL 197 yX11_days ∈ lwg := lwt3 (i := 198) (by decide +kernel) (by decide +kernel)
theorem wl_200 : Cond.methodLink RL 200 yX12_days ∈ lwg := lwt8 (i := 113) (by decide +kernel) (by decide +kernel)
theorem wl_201 : Cond.methodLink RL 201 yX11_ifFirst ∈ lwg := lwt5 (i := 88) (by decide +kernel) (by decide +kernel)
theorem wl_204 : Cond.methodLink RL 204 yX12_ifFirst ∈ lwg := lwt8 (i := 117) (by decide +kernel) (by decide +kernel)
theorem wl_205 : Cond.methodLink RL 205 yX11_dearest ∈ lwg := lwt4 (i := 216) (by decide +kernel) (by decide +kernel)
theorem wl_208 : Cond.methodLink RL 208 yX12_dearest ∈ lwg := lwt8 (i := 121) (by decide +kernel) (by decide +kernel)
theorem wl_209 : Cond.methodLink RL 209 yX11_chance ∈ lwg := lwt5 (i := 94) (by decide +kernel) (by decide +kernel)
theorem wl_212 : Cond.methodLink RL 212 yX12_chance ∈ lwg := lwt8 (i := 125) (by decide +kernel) (by decide +kernel)
theorem wl_213 : Cond.methodLink RL 213 yX11_undo ∈ lwg := lwt5 (i := 111) (by decide +kernel) (by decide +kernel)
theorem wl_216 : Cond.methodLink RL 216 yX12_undo ∈ lwg := lwt7 (i := 4) (by decide +kernel) (by decide +kernel)
theorem wl_217 : Cond.methodLink RL 217 yX11_keep ∈ lwg := lwt5 (i := 120) (by decide +kernel) (by decide +kernel)
theorem wl_220 : Cond.methodLink RL 220 yX12_keep ∈ lwg := lwt7 (i := 12) (by decide +kernel) (by decide +kernel)
theorem wl_221 : Cond.methodLink RL 221 yX11_back ∈ lwg := lwt5 (i := 129) (by decide +kernel) (by decide +kernel)
theorem wl_224 : Cond.methodLink RL 224 yX12_back ∈ lwg := lwt7 (i := 20) (by decide +kernel) (by decide +kernel)
theorem wl_225 : Cond.methodLink RL 225 yX11_count ∈ lwg := lwt5 (i := 133) (by decide +kernel) (by decide +kernel)
theorem wl_228 : Cond.methodLink RL 228 yX12_count ∈ lwg := lwt8 (i := 137) (by decide +kernel) (by decide +kernel)
section LAW
variable {p : Program} {l : Launch} {e : Env} {R : Room} {s : State} {m : MethodId} {args : Array Value} {below : List Frame} {meth : Method} {c : Code} {cl sl : Nat} {g : Geo} {nL : Nat} {Q : State → Prop} {cc : ByteArray} {own : String} {pc : Nat} {lv : List (Nat × Value)} {st : List Value} {σ : Sto} {N b L : Nat} {xs : Nat → Int32}
/-- the script lies where it lay, outside the places -/
def SX (s : State) (g : Geo) (b L : Nat) (xs : Nat → Int32) : Prop := va_X b L xs s s.heap ∧ b < s.heap.size ∧ ¬ AA g s.heap.size b
abbrev lvL (g : Geo) (b q : Nat) : List (Nat × Value) := [(4, vi ((6 * q : Nat) : Int)), (3, vr g 113), (2, vr g 94), (1, vr g 0), (0, .ref b)]
theorem jlcmp_same (a : Int) : jlcmp a a = 0 := by
  unfold jlcmp lg_cmp
  rw [if_neg (fun h => Int64.lt_irrefl h), if_pos rfl]
  rfl
theorem isB_R' {x : Int} (h : isB x) : inR x := by
  rcases h with rfl | rfl
  · exact ⟨by decide, by decide⟩
  · exact ⟨by decide, by decide⟩
theorem at_aref (C : Cx p R s m args c cl sl cc own nL g) {k : Fin 4} {i x : Nat} (q : Nat) (hd : decode cc pc = .ok (.aload_n k, 1)) (hi : (k : Nat) = i) (hq : lv[q]? = some (i, Value.ref x)) (kk : At p l e R s m args below meth c cl sl g nL Q (pc + 1) lv (Value.ref x :: st) σ) : At p l e R s m args below meth c cl sl g nL Q pc lv st σ := fun H locs ls hP hS hl => lv_aload_n C.1 C.2.1 hd hi (lv_at hl q hq) (kk H locs ls hP hS hl)
theorem at_sld (C : Cx p R s m args c cl sl cc own nL g) (X : SX s g b L xs) {k : Nat} (hk : k < L) (hL : L ≤ 3072) (hd : decode cc pc = .ok (.iaload, 1)) (kk : At p l e R s m args below meth c cl sl g nL Q (pc + 1) lv (vi (xs k).toInt :: st) σ) : At p l e R s m args below meth c cl sl g nL Q pc lv (vi (k : Int) :: Value.ref b :: st) σ := by
  intro H locs ls hP hS hl
  have h := kk H locs ls hP hS hl
  rw [vi_t] at h
  have e1 : (Int32.ofInt (k : Int)).toNatClampNeg = k := clampI (n := L) ⟨by omega, by omega⟩ (by omega)
  refine va_sld C.1 C.2.1 X.1 X.2.1 X.2.2 hS (vpin (n := L) ⟨by omega, by omega⟩ (by omega)) hd ?_
  rw [e1]
  exact h
theorem at_slen (C : Cx p R s m args c cl sl cc own nL g) (X : SX s g b L xs) (hd : decode cc pc = .ok (.arraylength, 1)) (kk : At p l e R s m args below meth c cl sl g nL Q (pc + 1) lv (vi (L : Int) :: st) σ) : At p l e R s m args below meth c cl sl g nL Q pc lv (Value.ref b :: st) σ := by
  intro H locs ls hP hS hl
  have h := kk H locs ls hP hS hl
  exact va_slen C.1 C.2.1 X.1 X.2.1 X.2.2 hS hd h
theorem at_arg {i j : Int} {k : Nat} (C : Cx p R s m args c cl sl cc own nL g) (X : SX s g b L xs) (d1 : decode cc pc = .ok (.aload_n 0, 1)) (d2 : decode cc (pc + 1) = .ok (.iload 4, 2)) (d3 : decode cc (pc + 3) = .ok (.iconst j, 1)) (d4 : decode cc (pc + 4) = .ok (.iadd, 1)) (d5 : decode cc (pc + 5) = .ok (.iaload, 1)) (hj : ja i j = (k : Int)) (hk : k < L) (hL : L ≤ 3072) {r3 r2 r1 : Value} (kk : At p l e R s m args below meth c cl sl g nL Q (pc + 6) [(4, vi i), (3, r3), (2, r2), (1, r1), (0, .ref b)] (vi (xs k).toInt :: st) σ) : At p l e R s m args below meth c cl sl g nL Q pc [(4, vi i), (3, r3), (2, r2), (1, r1), (0, .ref b)] st σ := by
  refine at_aref (pc := pc) C 4 d1 rfl rfl ?_
  refine at_iload (pc := pc + 1) C 0 d2 rfl ?_
  refine at_iconst (pc := pc + 3) C d3 ?_
  refine at_iadd (pc := pc + 4) C d4 ?_
  rw [hj]
  exact at_sld (pc := pc + 5) C X hk hL d5 kk

theorem lc_0 (hN : BigN N) (C : Cx p room_1 s m args c cl sl cL_law RL 7 g) (X : SX s g b L xs) {q : Nat} (hq : 6 * q + 5 < L) (hL : L ≤ 3072) (H : INV σ) (ok : OK σ) (kk : ∀ σ2, INV σ2 → OK σ2 → At p l e room_1 s m args below meth c cl sl g 7 Q 1917 (lvL g b q) [] σ2) : At p l e room_1 s m args below meth c cl sl g 7 Q 252 (lvL g b q) [] σ := by
  obtain ⟨r, σ1, σ2, a1, a2, a3⟩ := s_feed (N := N) hN H (xs (6 * q + 1)).toInt (xs (6 * q + 2)).toInt (xs (6 * q + 3)).toInt (xs (6 * q + 4)).toInt (xs (6 * q + 5)).toInt
  refine at_aload_n (pc := 252) C 3 dL_law_252 rfl rfl ?_
  refine at_arg (pc := 253) (k := 6 * q + 1) C X dL_law_253 dL_law_254 dL_law_256 dL_law_257 dL_law_258 (by rw [ja_eq ⟨by omega, by omega⟩]; omega) (by omega) hL ?_
  refine at_arg (pc := 259) (k := 6 * q + 2) C X dL_law_259 dL_law_260 dL_law_262 dL_law_263 dL_law_264 (by rw [ja_eq ⟨by omega, by omega⟩]; omega) (by omega) hL ?_
  refine at_arg (pc := 265) (k := 6 * q + 3) C X dL_law_265 dL_law_266 dL_law_268 dL_law_269 dL_law_270 (by rw [ja_eq ⟨by omega, by omega⟩]; omega) (by omega) hL ?_
  refine at_arg (pc := 271) (k := 6 * q + 4) C X dL_law_271 dL_law_272 dL_law_274 dL_law_275 dL_law_276 (by rw [ja_eq ⟨by omega, by omega⟩]; omega) (by omega) hL ?_
  refine at_arg (pc := 277) (k := 6 * q + 5) C X dL_law_277 dL_law_278 dL_law_280 dL_law_281 dL_law_282 (by rw [ja_eq ⟨by omega, by omega⟩]; omega) (by omega) hL ?_
  refine at_callV (pc := 283) (ci := 11) C (c_X11_feed l g N _ _ _ _ _ σ _ (inR_t _) (inR_t _) (inR_t _) (inR_t _) (inR_t _) ok a1) kv_X11_feed wl_21 kd0 rfl rfl rfl rfl (Nat.le_of_ble_eq_true rfl) ⟨rfl, rfl, Nat.le_of_ble_eq_true rfl, Nat.le_of_ble_eq_true rfl⟩ dL_law_283 (fun h1 ok1 => ?_)
  refine at_aload_n (pc := 286) C 2 dL_law_286 rfl rfl ?_
  refine at_arg (pc := 287) (k := 6 * q + 1) C X dL_law_287 dL_law_288 dL_law_290 dL_law_291 dL_law_292 (by rw [ja_eq ⟨by omega, by omega⟩]; omega) (by omega) hL ?_
  refine at_arg (pc := 293) (k := 6 * q + 2) C X dL_law_293 dL_law_294 dL_law_296 dL_law_297 dL_law_298 (by rw [ja_eq ⟨by omega, by omega⟩]; omega) (by omega) hL ?_
  refine at_arg (pc := 299) (k := 6 * q + 3) C X dL_law_299 dL_law_300 dL_law_302 dL_law_303 dL_law_304 (by rw [ja_eq ⟨by omega, by omega⟩]; omega) (by omega) hL ?_
  refine at_arg (pc := 305) (k := 6 * q + 4) C X dL_law_305 dL_law_306 dL_law_308 dL_law_309 dL_law_310 (by rw [ja_eq ⟨by omega, by omega⟩]; omega) (by omega) hL ?_
  refine at_arg (pc := 311) (k := 6 * q + 5) C X dL_law_311 dL_law_312 dL_law_314 dL_law_315 dL_law_316 (by rw [ja_eq ⟨by omega, by omega⟩]; omega) (by omega) hL ?_
  refine at_callV (pc := 317) (ci := 12) C (c_X12_feed l g N _ _ _ _ _ σ1 _ (inR_t _) (inR_t _) (inR_t _) (inR_t _) (inR_t _) ok1 a2) kv_X12_feed wl_25 kd94 rfl rfl rfl rfl (Nat.le_of_ble_eq_true rfl) ⟨rfl, rfl, Nat.le_of_ble_eq_true rfl, Nat.le_of_ble_eq_true rfl⟩ dL_law_317 (fun h2 ok2 => ?_)
  exact at_icmp_eq (pc := 320) (tgt := 1917) C h1 h2 dL_law_320 (by decide) (fun _ => kk σ2 a3 ok2) (fun z => absurd rfl z)
theorem lc_1 (hN : BigN N) (C : Cx p room_1 s m args c cl sl cL_law RL 7 g) (X : SX s g b L xs) {q : Nat} (hq : 6 * q + 5 < L) (hL : L ≤ 3072) (H : INV σ) (ok : OK σ) (kk : ∀ σ2, INV σ2 → OK σ2 → At p l e room_1 s m args below meth c cl sl g 7 Q 1917 (lvL g b q) [] σ2) : At p l e room_1 s m args below meth c cl sl g 7 Q 325 (lvL g b q) [] σ := by
  obtain ⟨r, σ1, σ2, a1, a2, a3⟩ := s_text (N := N) hN H (xs (6 * q + 1)).toInt
  refine at_aload_n (pc := 325) C 3 dL_law_325 rfl rfl ?_
  refine at_arg (pc := 326) (k := 6 * q + 1) C X dL_law_326 dL_law_327 dL_law_329 dL_law_330 dL_law_331 (by rw [ja_eq ⟨by omega, by omega⟩]; omega) (by omega) hL ?_
  refine at_callV (pc := 332) (ci := 11) C (c_X11_text l g N _ σ _ (inR_t _) ok a1) kv_X11_text wl_26 kd0 rfl rfl rfl rfl (Nat.le_of_ble_eq_true rfl) ⟨rfl, rfl, Nat.le_of_ble_eq_true rfl, Nat.le_of_ble_eq_true rfl⟩ dL_law_332 (fun h1 ok1 => ?_)
  refine at_aload_n (pc := 335) C 2 dL_law_335 rfl rfl ?_
  refine at_arg (pc := 336) (k := 6 * q + 1) C X dL_law_336 dL_law_337 dL_law_339 dL_law_340 dL_law_341 (by rw [ja_eq ⟨by omega, by omega⟩]; omega) (by omega) hL ?_
  refine at_callV (pc := 342) (ci := 12) C (c_X12_text l g N _ σ1 _ (inR_t _) ok1 a2) kv_X12_text wl_30 kd94 rfl rfl rfl rfl (Nat.le_of_ble_eq_true rfl) ⟨rfl, rfl, Nat.le_of_ble_eq_true rfl, Nat.le_of_ble_eq_true rfl⟩ dL_law_342 (fun h2 ok2 => ?_)
  exact at_icmp_eq (pc := 345) (tgt := 1917) C h1 h2 dL_law_345 (by decide) (fun _ => kk σ2 a3 ok2) (fun z => absurd rfl z)
theorem lc_2 (hN : BigN N) (C : Cx p room_1 s m args c cl sl cL_law RL 7 g) (X : SX s g b L xs) {q : Nat} (hq : 6 * q + 5 < L) (hL : L ≤ 3072) (H : INV σ) (ok : OK σ) (kk : ∀ σ2, INV σ2 → OK σ2 → At p l e room_1 s m args below meth c cl sl g 7 Q 1917 (lvL g b q) [] σ2) : At p l e room_1 s m args below meth c cl sl g 7 Q 350 (lvL g b q) [] σ := by
  obtain ⟨r, σ2, a1, a2, a3⟩ := s_fault (N := N) H (xs (6 * q + 1)).toInt
  refine at_aload_n (pc := 350) C 3 dL_law_350 rfl rfl ?_
  refine at_arg (pc := 351) (k := 6 * q + 1) C X dL_law_351 dL_law_352 dL_law_354 dL_law_355 dL_law_356 (by rw [ja_eq ⟨by omega, by omega⟩]; omega) (by omega) hL ?_
  refine at_callV (pc := 357) (ci := 11) C (c_X11_fault l g N _ σ _ (inR_t _) ok a1) kv_X11_fault wl_31 kd0 rfl rfl rfl rfl (Nat.le_of_ble_eq_true rfl) ⟨rfl, rfl, Nat.le_of_ble_eq_true rfl, Nat.le_of_ble_eq_true rfl⟩ dL_law_357 (fun h1 ok1 => ?_)
  refine at_aload_n (pc := 360) C 2 dL_law_360 rfl rfl ?_
  refine at_arg (pc := 361) (k := 6 * q + 1) C X dL_law_361 dL_law_362 dL_law_364 dL_law_365 dL_law_366 (by rw [ja_eq ⟨by omega, by omega⟩]; omega) (by omega) hL ?_
  refine at_callV (pc := 367) (ci := 12) C (c_X12_fault l g N _ σ _ (inR_t _) ok1 a2) kv_X12_fault wl_34 kd94 rfl rfl rfl rfl (Nat.le_of_ble_eq_true rfl) ⟨rfl, rfl, Nat.le_of_ble_eq_true rfl, Nat.le_of_ble_eq_true rfl⟩ dL_law_367 (fun h2 ok2 => ?_)
  exact at_icmp_eq (pc := 370) (tgt := 1917) C h1 h2 dL_law_370 (by decide) (fun _ => kk σ2 a3 ok2) (fun z => absurd rfl z)
theorem lc_3 (hN : BigN N) (C : Cx p room_1 s m args c cl sl cL_law RL 7 g) (X : SX s g b L xs) {q : Nat} (hq : 6 * q + 5 < L) (hL : L ≤ 3072) (H : INV σ) (ok : OK σ) (kk : ∀ σ2, INV σ2 → OK σ2 → At p l e room_1 s m args below meth c cl sl g 7 Q 1917 (lvL g b q) [] σ2) : At p l e room_1 s m args below meth c cl sl g 7 Q 375 (lvL g b q) [] σ := by
  obtain ⟨r, σ2, a1, a2, a3⟩ := s_named (N := N) hN H (xs (6 * q + 1)).toInt
  refine at_aload_n (pc := 375) C 3 dL_law_375 rfl rfl ?_
  refine at_arg (pc := 376) (k := 6 * q + 1) C X dL_law_376 dL_law_377 dL_law_379 dL_law_380 dL_law_381 (by rw [ja_eq ⟨by omega, by omega⟩]; omega) (by omega) hL ?_
  refine at_callV (pc := 382) (ci := 11) C (c_X11_named l g N _ σ _ (inR_t _) ok a1) kv_X11_named wl_35 kd0 rfl rfl rfl rfl (Nat.le_of_ble_eq_true rfl) ⟨rfl, rfl, Nat.le_of_ble_eq_true rfl, Nat.le_of_ble_eq_true rfl⟩ dL_law_382 (fun h1 ok1 => ?_)
  refine at_aload_n (pc := 385) C 2 dL_law_385 rfl rfl ?_
  refine at_arg (pc := 386) (k := 6 * q + 1) C X dL_law_386 dL_law_387 dL_law_389 dL_law_390 dL_law_391 (by rw [ja_eq ⟨by omega, by omega⟩]; omega) (by omega) hL ?_
  refine at_callV (pc := 392) (ci := 12) C (c_X12_named l g N _ σ _ (inR_t _) ok1 a2) kv_X12_named wl_38 kd94 rfl rfl rfl rfl (Nat.le_of_ble_eq_true rfl) ⟨rfl, rfl, Nat.le_of_ble_eq_true rfl, Nat.le_of_ble_eq_true rfl⟩ dL_law_392 (fun h2 ok2 => ?_)
  exact at_icmp_eq (pc := 395) (tgt := 1917) C h1 h2 dL_law_395 (by decide) (fun _ => kk σ2 a3 ok2) (fun z => absurd rfl z)
theorem lc_5 (hN : BigN N) (C : Cx p room_1 s m args c cl sl cL_law RL 7 g) (X : SX s g b L xs) {q : Nat} (hq : 6 * q + 5 < L) (hL : L ≤ 3072) (H : INV σ) (ok : OK σ) (kk : ∀ σ2, INV σ2 → OK σ2 → At p l e room_1 s m args below meth c cl sl g 7 Q 1917 (lvL g b q) [] σ2) : At p l e room_1 s m args below meth c cl sl g 7 Q 468 (lvL g b q) [] σ := by
  obtain ⟨r, σ2, a1, a2, a3⟩ := s_period (N := N) hN H (xs (6 * q + 1)).toInt (xs (6 * q + 2)).toInt
  refine at_aload_n (pc := 468) C 3 dL_law_468 rfl rfl ?_
  refine at_arg (pc := 469) (k := 6 * q + 1) C X dL_law_469 dL_law_470 dL_law_472 dL_law_473 dL_law_474 (by rw [ja_eq ⟨by omega, by omega⟩]; omega) (by omega) hL ?_
  refine at_arg (pc := 475) (k := 6 * q + 2) C X dL_law_475 dL_law_476 dL_law_478 dL_law_479 dL_law_480 (by rw [ja_eq ⟨by omega, by omega⟩]; omega) (by omega) hL ?_
  refine at_callV (pc := 481) (ci := 11) C (c_X11_period l g N _ _ σ _ (inR_t _) (inR_t _) ok a1) kv_X11_period wl_49 kd0 rfl rfl rfl rfl (Nat.le_of_ble_eq_true rfl) ⟨rfl, rfl, Nat.le_of_ble_eq_true rfl, Nat.le_of_ble_eq_true rfl⟩ dL_law_481 (fun h1 ok1 => ?_)
  refine at_aload_n (pc := 484) C 2 dL_law_484 rfl rfl ?_
  refine at_arg (pc := 485) (k := 6 * q + 1) C X dL_law_485 dL_law_486 dL_law_488 dL_law_489 dL_law_490 (by rw [ja_eq ⟨by omega, by omega⟩]; omega) (by omega) hL ?_
  refine at_arg (pc := 491) (k := 6 * q + 2) C X dL_law_491 dL_law_492 dL_law_494 dL_law_495 dL_law_496 (by rw [ja_eq ⟨by omega, by omega⟩]; omega) (by omega) hL ?_
  refine at_callV (pc := 497) (ci := 12) C (c_X12_period l g N _ _ σ _ (inR_t _) (inR_t _) ok1 a2) kv_X12_period wl_52 kd94 rfl rfl rfl rfl (Nat.le_of_ble_eq_true rfl) ⟨rfl, rfl, Nat.le_of_ble_eq_true rfl, Nat.le_of_ble_eq_true rfl⟩ dL_law_497 (fun h2 ok2 => ?_)
  exact at_icmp_eq (pc := 500) (tgt := 1917) C h1 h2 dL_law_500 (by decide) (fun _ => kk σ2 a3 ok2) (fun z => absurd rfl z)
theorem lc_6 (hN : BigN N) (C : Cx p room_1 s m args c cl sl cL_law RL 7 g) (X : SX s g b L xs) {q : Nat} (hq : 6 * q + 5 < L) (hL : L ≤ 3072) (H : INV σ) (ok : OK σ) (kk : ∀ σ2, INV σ2 → OK σ2 → At p l e room_1 s m args below meth c cl sl g 7 Q 1917 (lvL g b q) [] σ2) : At p l e room_1 s m args below meth c cl sl g 7 Q 505 (lvL g b q) [] σ := by
  obtain ⟨r, σ1, σ2, a1, a2, a3⟩ := s_percent (N := N) hN H (xs (6 * q + 1)).toInt (xs (6 * q + 2)).toInt (xs (6 * q + 3)).toInt
  refine at_aload_n (pc := 505) C 3 dL_law_505 rfl rfl ?_
  refine at_arg (pc := 506) (k := 6 * q + 1) C X dL_law_506 dL_law_507 dL_law_509 dL_law_510 dL_law_511 (by rw [ja_eq ⟨by omega, by omega⟩]; omega) (by omega) hL ?_
  refine at_arg (pc := 512) (k := 6 * q + 2) C X dL_law_512 dL_law_513 dL_law_515 dL_law_516 dL_law_517 (by rw [ja_eq ⟨by omega, by omega⟩]; omega) (by omega) hL ?_
  refine at_arg (pc := 518) (k := 6 * q + 3) C X dL_law_518 dL_law_519 dL_law_521 dL_law_522 dL_law_523 (by rw [ja_eq ⟨by omega, by omega⟩]; omega) (by omega) hL ?_
  refine at_callV (pc := 524) (ci := 11) C (c_X11_percent l g N _ _ _ σ _ (inR_t _) (inR_t _) (inR_t _) ok a1) kv_X11_percent wl_53 kd0 rfl rfl rfl rfl (Nat.le_of_ble_eq_true rfl) ⟨rfl, rfl, Nat.le_of_ble_eq_true rfl, Nat.le_of_ble_eq_true rfl⟩ dL_law_524 (fun h1 ok1 => ?_)
  refine at_aload_n (pc := 527) C 2 dL_law_527 rfl rfl ?_
  refine at_arg (pc := 528) (k := 6 * q + 1) C X dL_law_528 dL_law_529 dL_law_531 dL_law_532 dL_law_533 (by rw [ja_eq ⟨by omega, by omega⟩]; omega) (by omega) hL ?_
  refine at_arg (pc := 534) (k := 6 * q + 2) C X dL_law_534 dL_law_535 dL_law_537 dL_law_538 dL_law_539 (by rw [ja_eq ⟨by omega, by omega⟩]; omega) (by omega) hL ?_
  refine at_arg (pc := 540) (k := 6 * q + 3) C X dL_law_540 dL_law_541 dL_law_543 dL_law_544 dL_law_545 (by rw [ja_eq ⟨by omega, by omega⟩]; omega) (by omega) hL ?_
  refine at_callV (pc := 546) (ci := 12) C (c_X12_percent l g N _ _ _ σ1 _ (inR_t _) (inR_t _) (inR_t _) ok1 a2) kv_X12_percent wl_57 kd94 rfl rfl rfl rfl (Nat.le_of_ble_eq_true rfl) ⟨rfl, rfl, Nat.le_of_ble_eq_true rfl, Nat.le_of_ble_eq_true rfl⟩ dL_law_546 (fun h2 ok2 => ?_)
  exact at_icmp_eq (pc := 549) (tgt := 1917) C h1 h2 dL_law_549 (by decide) (fun _ => kk σ2 a3 ok2) (fun z => absurd rfl z)
theorem lc_7 (hN : BigN N) (C : Cx p room_1 s m args c cl sl cL_law RL 7 g) (X : SX s g b L xs) {q : Nat} (hq : 6 * q + 5 < L) (hL : L ≤ 3072) (H : INV σ) (ok : OK σ) (kk : ∀ σ2, INV σ2 → OK σ2 → At p l e room_1 s m args below meth c cl sl g 7 Q 1917 (lvL g b q) [] σ2) : At p l e room_1 s m args below meth c cl sl g 7 Q 554 (lvL g b q) [] σ := by
  obtain ⟨r, σ1, σ2, a1, a2, a3⟩ := s_share (N := N) hN H (xs (6 * q + 1)).toInt (xs (6 * q + 2)).toInt (xs (6 * q + 3)).toInt
  refine at_aload_n (pc := 554) C 3 dL_law_554 rfl rfl ?_
  refine at_arg (pc := 555) (k := 6 * q + 1) C X dL_law_555 dL_law_556 dL_law_558 dL_law_559 dL_law_560 (by rw [ja_eq ⟨by omega, by omega⟩]; omega) (by omega) hL ?_
  refine at_arg (pc := 561) (k := 6 * q + 2) C X dL_law_561 dL_law_562 dL_law_564 dL_law_565 dL_law_566 (by rw [ja_eq ⟨by omega, by omega⟩]; omega) (by omega) hL ?_
  refine at_arg (pc := 567) (k := 6 * q + 3) C X dL_law_567 dL_law_568 dL_law_570 dL_law_571 dL_law_572 (by rw [ja_eq ⟨by omega, by omega⟩]; omega) (by omega) hL ?_
  refine at_callV (pc := 573) (ci := 11) C (c_X11_share l g N _ _ _ σ _ (inR_t _) (inR_t _) (inR_t _) ok a1) kv_X11_share wl_58 kd0 rfl rfl rfl rfl (Nat.le_of_ble_eq_true rfl) ⟨rfl, rfl, Nat.le_of_ble_eq_true rfl, Nat.le_of_ble_eq_true rfl⟩ dL_law_573 (fun h1 ok1 => ?_)
  refine at_aload_n (pc := 576) C 2 dL_law_576 rfl rfl ?_
  refine at_arg (pc := 577) (k := 6 * q + 1) C X dL_law_577 dL_law_578 dL_law_580 dL_law_581 dL_law_582 (by rw [ja_eq ⟨by omega, by omega⟩]; omega) (by omega) hL ?_
  refine at_arg (pc := 583) (k := 6 * q + 2) C X dL_law_583 dL_law_584 dL_law_586 dL_law_587 dL_law_588 (by rw [ja_eq ⟨by omega, by omega⟩]; omega) (by omega) hL ?_
  refine at_arg (pc := 589) (k := 6 * q + 3) C X dL_law_589 dL_law_590 dL_law_592 dL_law_593 dL_law_594 (by rw [ja_eq ⟨by omega, by omega⟩]; omega) (by omega) hL ?_
  refine at_callV (pc := 595) (ci := 12) C (c_X12_share l g N _ _ _ σ1 _ (inR_t _) (inR_t _) (inR_t _) ok1 a2) kv_X12_share wl_61 kd94 rfl rfl rfl rfl (Nat.le_of_ble_eq_true rfl) ⟨rfl, rfl, Nat.le_of_ble_eq_true rfl, Nat.le_of_ble_eq_true rfl⟩ dL_law_595 (fun h2 ok2 => ?_)
  exact at_icmp_eq (pc := 598) (tgt := 1917) C h1 h2 dL_law_598 (by decide) (fun _ => kk σ2 a3 ok2) (fun z => absurd rfl z)
theorem lc_8 (hN : BigN N) (C : Cx p room_1 s m args c cl sl cL_law RL 7 g) (X : SX s g b L xs) {q : Nat} (hq : 6 * q + 5 < L) (hL : L ≤ 3072) (H : INV σ) (ok : OK σ) (kk : ∀ σ2, INV σ2 → OK σ2 → At p l e room_1 s m args below meth c cl sl g 7 Q 1917 (lvL g b q) [] σ2) : At p l e room_1 s m args below meth c cl sl g 7 Q 603 (lvL g b q) [] σ := by
  obtain ⟨r, σ1, σ2, a1, a2, a3⟩ := s_parts (N := N) hN H (xs (6 * q + 1)).toInt (xs (6 * q + 2)).toInt (xs (6 * q + 3)).toInt
  refine at_aload_n (pc := 603) C 3 dL_law_603 rfl rfl ?_
  refine at_arg (pc := 604) (k := 6 * q + 1) C X dL_law_604 dL_law_605 dL_law_607 dL_law_608 dL_law_609 (by rw [ja_eq ⟨by omega, by omega⟩]; omega) (by omega) hL ?_
  refine at_arg (pc := 610) (k := 6 * q + 2) C X dL_law_610 dL_law_611 dL_law_613 dL_law_614 dL_law_615 (by rw [ja_eq ⟨by omega, by omega⟩]; omega) (by omega) hL ?_
  refine at_arg (pc := 616) (k := 6 * q + 3) C X dL_law_616 dL_law_617 dL_law_619 dL_law_620 dL_law_621 (by rw [ja_eq ⟨by omega, by omega⟩]; omega) (by omega) hL ?_
  refine at_callV (pc := 622) (ci := 11) C (c_X11_parts l g N _ _ _ σ _ (inR_t _) (inR_t _) (inR_t _) ok a1) kv_X11_parts wl_62 kd0 rfl rfl rfl rfl (Nat.le_of_ble_eq_true rfl) ⟨rfl, rfl, Nat.le_of_ble_eq_true rfl, Nat.le_of_ble_eq_true rfl⟩ dL_law_622 (fun h1 ok1 => ?_)
  refine at_aload_n (pc := 625) C 2 dL_law_625 rfl rfl ?_
  refine at_arg (pc := 626) (k := 6 * q + 1) C X dL_law_626 dL_law_627 dL_law_629 dL_law_630 dL_law_631 (by rw [ja_eq ⟨by omega, by omega⟩]; omega) (by omega) hL ?_
  refine at_arg (pc := 632) (k := 6 * q + 2) C X dL_law_632 dL_law_633 dL_law_635 dL_law_636 dL_law_637 (by rw [ja_eq ⟨by omega, by omega⟩]; omega) (by omega) hL ?_
  refine at_arg (pc := 638) (k := 6 * q + 3) C X dL_law_638 dL_law_639 dL_law_641 dL_law_642 dL_law_643 (by rw [ja_eq ⟨by omega, by omega⟩]; omega) (by omega) hL ?_
  refine at_callV (pc := 644) (ci := 12) C (c_X12_parts l g N _ _ _ σ1 _ (inR_t _) (inR_t _) (inR_t _) ok1 a2) kv_X12_parts wl_65 kd94 rfl rfl rfl rfl (Nat.le_of_ble_eq_true rfl) ⟨rfl, rfl, Nat.le_of_ble_eq_true rfl, Nat.le_of_ble_eq_true rfl⟩ dL_law_644 (fun h2 ok2 => ?_)
  exact at_icmp_eq (pc := 647) (tgt := 1917) C h1 h2 dL_law_647 (by decide) (fun _ => kk σ2 a3 ok2) (fun z => absurd rfl z)
theorem lc_9 (hN : BigN N) (C : Cx p room_1 s m args c cl sl cL_law RL 7 g) (X : SX s g b L xs) {q : Nat} (hq : 6 * q + 5 < L) (hL : L ≤ 3072) (H : INV σ) (ok : OK σ) (kk : ∀ σ2, INV σ2 → OK σ2 → At p l e room_1 s m args below meth c cl sl g 7 Q 1917 (lvL g b q) [] σ2) : At p l e room_1 s m args below meth c cl sl g 7 Q 652 (lvL g b q) [] σ := by
  obtain ⟨r, σ1, σ2, a1, a2, a3⟩ := s_controls (N := N) hN H (xs (6 * q + 1)).toInt (xs (6 * q + 2)).toInt (xs (6 * q + 3)).toInt
  refine at_aload_n (pc := 652) C 3 dL_law_652 rfl rfl ?_
  refine at_arg (pc := 653) (k := 6 * q + 1) C X dL_law_653 dL_law_654 dL_law_656 dL_law_657 dL_law_658 (by rw [ja_eq ⟨by omega, by omega⟩]; omega) (by omega) hL ?_
  refine at_arg (pc := 659) (k := 6 * q + 2) C X dL_law_659 dL_law_660 dL_law_662 dL_law_663 dL_law_664 (by rw [ja_eq ⟨by omega, by omega⟩]; omega) (by omega) hL ?_
  refine at_arg (pc := 665) (k := 6 * q + 3) C X dL_law_665 dL_law_666 dL_law_668 dL_law_669 dL_law_670 (by rw [ja_eq ⟨by omega, by omega⟩]; omega) (by omega) hL ?_
  refine at_callV (pc := 671) (ci := 11) C (c_X11_controls l g N _ _ _ σ _ (inR_t _) (inR_t _) (inR_t _) ok a1) kv_X11_controls wl_66 kd0 rfl rfl rfl rfl (Nat.le_of_ble_eq_true rfl) ⟨rfl, rfl, Nat.le_of_ble_eq_true rfl, Nat.le_of_ble_eq_true rfl⟩ dL_law_671 (fun h1 ok1 => ?_)
  refine at_aload_n (pc := 674) C 2 dL_law_674 rfl rfl ?_
  refine at_arg (pc := 675) (k := 6 * q + 1) C X dL_law_675 dL_law_676 dL_law_678 dL_law_679 dL_law_680 (by rw [ja_eq ⟨by omega, by omega⟩]; omega) (by omega) hL ?_
  refine at_arg (pc := 681) (k := 6 * q + 2) C X dL_law_681 dL_law_682 dL_law_684 dL_law_685 dL_law_686 (by rw [ja_eq ⟨by omega, by omega⟩]; omega) (by omega) hL ?_
  refine at_arg (pc := 687) (k := 6 * q + 3) C X dL_law_687 dL_law_688 dL_law_690 dL_law_691 dL_law_692 (by rw [ja_eq ⟨by omega, by omega⟩]; omega) (by omega) hL ?_
  refine at_callV (pc := 693) (ci := 12) C (c_X12_controls l g N _ _ _ σ1 _ (inR_t _) (inR_t _) (inR_t _) ok1 a2) kv_X12_controls wl_69 kd94 rfl rfl rfl rfl (Nat.le_of_ble_eq_true rfl) ⟨rfl, rfl, Nat.le_of_ble_eq_true rfl, Nat.le_of_ble_eq_true rfl⟩ dL_law_693 (fun h2 ok2 => ?_)
  exact at_icmp_eq (pc := 696) (tgt := 1917) C h1 h2 dL_law_696 (by decide) (fun _ => kk σ2 a3 ok2) (fun z => absurd rfl z)
theorem lc_10 (hN : BigN N) (C : Cx p room_1 s m args c cl sl cL_law RL 7 g) (X : SX s g b L xs) {q : Nat} (hq : 6 * q + 5 < L) (hL : L ≤ 3072) (H : INV σ) (ok : OK σ) (kk : ∀ σ2, INV σ2 → OK σ2 → At p l e room_1 s m args below meth c cl sl g 7 Q 1917 (lvL g b q) [] σ2) : At p l e room_1 s m args below meth c cl sl g 7 Q 701 (lvL g b q) [] σ := by
  obtain ⟨r, σ1, σ2, a1, a2, a3⟩ := s_related (N := N) hN H (xs (6 * q + 1)).toInt (xs (6 * q + 2)).toInt
  refine at_aload_n (pc := 701) C 3 dL_law_701 rfl rfl ?_
  refine at_arg (pc := 702) (k := 6 * q + 1) C X dL_law_702 dL_law_703 dL_law_705 dL_law_706 dL_law_707 (by rw [ja_eq ⟨by omega, by omega⟩]; omega) (by omega) hL ?_
  refine at_arg (pc := 708) (k := 6 * q + 2) C X dL_law_708 dL_law_709 dL_law_711 dL_law_712 dL_law_713 (by rw [ja_eq ⟨by omega, by omega⟩]; omega) (by omega) hL ?_
  refine at_callV (pc := 714) (ci := 11) C (c_X11_related l g N _ _ σ _ (inR_t _) (inR_t _) ok a1) kv_X11_related wl_70 kd0 rfl rfl rfl rfl (Nat.le_of_ble_eq_true rfl) ⟨rfl, rfl, Nat.le_of_ble_eq_true rfl, Nat.le_of_ble_eq_true rfl⟩ dL_law_714 (fun h1 ok1 => ?_)
  refine at_aload_n (pc := 717) C 2 dL_law_717 rfl rfl ?_
  refine at_arg (pc := 718) (k := 6 * q + 1) C X dL_law_718 dL_law_719 dL_law_721 dL_law_722 dL_law_723 (by rw [ja_eq ⟨by omega, by omega⟩]; omega) (by omega) hL ?_
  refine at_arg (pc := 724) (k := 6 * q + 2) C X dL_law_724 dL_law_725 dL_law_727 dL_law_728 dL_law_729 (by rw [ja_eq ⟨by omega, by omega⟩]; omega) (by omega) hL ?_
  refine at_callV (pc := 730) (ci := 12) C (c_X12_related l g N _ _ σ1 _ (inR_t _) (inR_t _) ok1 a2) kv_X12_related wl_73 kd94 rfl rfl rfl rfl (Nat.le_of_ble_eq_true rfl) ⟨rfl, rfl, Nat.le_of_ble_eq_true rfl, Nat.le_of_ble_eq_true rfl⟩ dL_law_730 (fun h2 ok2 => ?_)
  exact at_icmp_eq (pc := 733) (tgt := 1917) C h1 h2 dL_law_733 (by decide) (fun _ => kk σ2 a3 ok2) (fun z => absurd rfl z)
theorem lc_11 (hN : BigN N) (C : Cx p room_1 s m args c cl sl cL_law RL 7 g) (X : SX s g b L xs) {q : Nat} (hq : 6 * q + 5 < L) (hL : L ≤ 3072) (H : INV σ) (ok : OK σ) (kk : ∀ σ2, INV σ2 → OK σ2 → At p l e room_1 s m args below meth c cl sl g 7 Q 1917 (lvL g b q) [] σ2) : At p l e room_1 s m args below meth c cl sl g 7 Q 738 (lvL g b q) [] σ := by
  obtain ⟨r, σ1, σ2, a1, a2, a3⟩ := s_groups (N := N) hN H (xs (6 * q + 1)).toInt
  refine at_aload_n (pc := 738) C 3 dL_law_738 rfl rfl ?_
  refine at_arg (pc := 739) (k := 6 * q + 1) C X dL_law_739 dL_law_740 dL_law_742 dL_law_743 dL_law_744 (by rw [ja_eq ⟨by omega, by omega⟩]; omega) (by omega) hL ?_
  refine at_callV (pc := 745) (ci := 11) C (c_X11_groups l g N _ σ _ (inR_t _) ok a1) kv_X11_groups wl_74 kd0 rfl rfl rfl rfl (Nat.le_of_ble_eq_true rfl) ⟨rfl, rfl, Nat.le_of_ble_eq_true rfl, Nat.le_of_ble_eq_true rfl⟩ dL_law_745 (fun h1 ok1 => ?_)
  refine at_aload_n (pc := 748) C 2 dL_law_748 rfl rfl ?_
  refine at_arg (pc := 749) (k := 6 * q + 1) C X dL_law_749 dL_law_750 dL_law_752 dL_law_753 dL_law_754 (by rw [ja_eq ⟨by omega, by omega⟩]; omega) (by omega) hL ?_
  refine at_callV (pc := 755) (ci := 12) C (c_X12_groups l g N _ σ1 _ (inR_t _) ok1 a2) kv_X12_groups wl_77 kd94 rfl rfl rfl rfl (Nat.le_of_ble_eq_true rfl) ⟨rfl, rfl, Nat.le_of_ble_eq_true rfl, Nat.le_of_ble_eq_true rfl⟩ dL_law_755 (fun h2 ok2 => ?_)
  exact at_icmp_eq (pc := 758) (tgt := 1917) C h1 h2 dL_law_758 (by decide) (fun _ => kk σ2 a3 ok2) (fun z => absurd rfl z)
theorem lc_12 (hN : BigN N) (C : Cx p room_1 s m args c cl sl cL_law RL 7 g) (X : SX s g b L xs) {q : Nat} (hq : 6 * q + 5 < L) (hL : L ≤ 3072) (H : INV σ) (ok : OK σ) (kk : ∀ σ2, INV σ2 → OK σ2 → At p l e room_1 s m args below meth c cl sl g 7 Q 1917 (lvL g b q) [] σ2) : At p l e room_1 s m args below meth c cl sl g 7 Q 763 (lvL g b q) [] σ := by
  obtain ⟨r, σ1, σ2, a1, a2, a3⟩ := s_shared (N := N) hN H (xs (6 * q + 1)).toInt (xs (6 * q + 2)).toInt
  refine at_aload_n (pc := 763) C 3 dL_law_763 rfl rfl ?_
  refine at_arg (pc := 764) (k := 6 * q + 1) C X dL_law_764 dL_law_765 dL_law_767 dL_law_768 dL_law_769 (by rw [ja_eq ⟨by omega, by omega⟩]; omega) (by omega) hL ?_
  refine at_arg (pc := 770) (k := 6 * q + 2) C X dL_law_770 dL_law_771 dL_law_773 dL_law_774 dL_law_775 (by rw [ja_eq ⟨by omega, by omega⟩]; omega) (by omega) hL ?_
  refine at_callV (pc := 776) (ci := 11) C (c_X11_shared l g N _ _ σ _ (inR_t _) (inR_t _) ok a1) kv_X11_shared wl_78 kd0 rfl rfl rfl rfl (Nat.le_of_ble_eq_true rfl) ⟨rfl, rfl, Nat.le_of_ble_eq_true rfl, Nat.le_of_ble_eq_true rfl⟩ dL_law_776 (fun h1 ok1 => ?_)
  refine at_aload_n (pc := 779) C 2 dL_law_779 rfl rfl ?_
  refine at_arg (pc := 780) (k := 6 * q + 1) C X dL_law_780 dL_law_781 dL_law_783 dL_law_784 dL_law_785 (by rw [ja_eq ⟨by omega, by omega⟩]; omega) (by omega) hL ?_
  refine at_arg (pc := 786) (k := 6 * q + 2) C X dL_law_786 dL_law_787 dL_law_789 dL_law_790 dL_law_791 (by rw [ja_eq ⟨by omega, by omega⟩]; omega) (by omega) hL ?_
  refine at_callV (pc := 792) (ci := 12) C (c_X12_shared l g N _ _ σ1 _ (inR_t _) (inR_t _) ok1 a2) kv_X12_shared wl_81 kd94 rfl rfl rfl rfl (Nat.le_of_ble_eq_true rfl) ⟨rfl, rfl, Nat.le_of_ble_eq_true rfl, Nat.le_of_ble_eq_true rfl⟩ dL_law_792 (fun h2 ok2 => ?_)
  exact at_icmp_eq (pc := 795) (tgt := 1917) C h1 h2 dL_law_795 (by decide) (fun _ => kk σ2 a3 ok2) (fun z => absurd rfl z)
theorem lc_13 (hN : BigN N) (C : Cx p room_1 s m args c cl sl cL_law RL 7 g) (X : SX s g b L xs) {q : Nat} (hq : 6 * q + 5 < L) (hL : L ≤ 3072) (H : INV σ) (ok : OK σ) (kk : ∀ σ2, INV σ2 → OK σ2 → At p l e room_1 s m args below meth c cl sl g 7 Q 1917 (lvL g b q) [] σ2) : At p l e room_1 s m args below meth c cl sl g 7 Q 800 (lvL g b q) [] σ := by
  obtain ⟨r, σ1, σ2, a1, a2, a3⟩ := s_bound (N := N) hN H (xs (6 * q + 1)).toInt (xs (6 * q + 2)).toInt
  refine at_aload_n (pc := 800) C 3 dL_law_800 rfl rfl ?_
  refine at_arg (pc := 801) (k := 6 * q + 1) C X dL_law_801 dL_law_802 dL_law_804 dL_law_805 dL_law_806 (by rw [ja_eq ⟨by omega, by omega⟩]; omega) (by omega) hL ?_
  refine at_arg (pc := 807) (k := 6 * q + 2) C X dL_law_807 dL_law_808 dL_law_810 dL_law_811 dL_law_812 (by rw [ja_eq ⟨by omega, by omega⟩]; omega) (by omega) hL ?_
  refine at_callV (pc := 813) (ci := 11) C (c_X11_bound l g N _ _ σ _ (inR_t _) (inR_t _) ok a1) kv_X11_bound wl_82 kd0 rfl rfl rfl rfl (Nat.le_of_ble_eq_true rfl) ⟨rfl, rfl, Nat.le_of_ble_eq_true rfl, Nat.le_of_ble_eq_true rfl⟩ dL_law_813 (fun h1 ok1 => ?_)
  refine at_aload_n (pc := 816) C 2 dL_law_816 rfl rfl ?_
  refine at_arg (pc := 817) (k := 6 * q + 1) C X dL_law_817 dL_law_818 dL_law_820 dL_law_821 dL_law_822 (by rw [ja_eq ⟨by omega, by omega⟩]; omega) (by omega) hL ?_
  refine at_arg (pc := 823) (k := 6 * q + 2) C X dL_law_823 dL_law_824 dL_law_826 dL_law_827 dL_law_828 (by rw [ja_eq ⟨by omega, by omega⟩]; omega) (by omega) hL ?_
  refine at_callV (pc := 829) (ci := 12) C (c_X12_bound l g N _ _ σ1 _ (inR_t _) (inR_t _) ok1 a2) kv_X12_bound wl_85 kd94 rfl rfl rfl rfl (Nat.le_of_ble_eq_true rfl) ⟨rfl, rfl, Nat.le_of_ble_eq_true rfl, Nat.le_of_ble_eq_true rfl⟩ dL_law_829 (fun h2 ok2 => ?_)
  exact at_icmp_eq (pc := 832) (tgt := 1917) C h1 h2 dL_law_832 (by decide) (fun _ => kk σ2 a3 ok2) (fun z => absurd rfl z)
theorem lc_14 (hN : BigN N) (C : Cx p room_1 s m args c cl sl cL_law RL 7 g) (X : SX s g b L xs) {q : Nat} (hq : 6 * q + 5 < L) (hL : L ≤ 3072) (H : INV σ) (ok : OK σ) (kk : ∀ σ2, INV σ2 → OK σ2 → At p l e room_1 s m args below meth c cl sl g 7 Q 1917 (lvL g b q) [] σ2) : At p l e room_1 s m args below meth c cl sl g 7 Q 837 (lvL g b q) [] σ := by
  obtain ⟨r, σ1, σ2, a1, a2, a3⟩ := s_room (N := N) hN H (xs (6 * q + 1)).toInt (xs (6 * q + 2)).toInt
  refine at_aload_n (pc := 837) C 3 dL_law_837 rfl rfl ?_
  refine at_arg (pc := 838) (k := 6 * q + 1) C X dL_law_838 dL_law_839 dL_law_841 dL_law_842 dL_law_843 (by rw [ja_eq ⟨by omega, by omega⟩]; omega) (by omega) hL ?_
  refine at_arg (pc := 844) (k := 6 * q + 2) C X dL_law_844 dL_law_845 dL_law_847 dL_law_848 dL_law_849 (by rw [ja_eq ⟨by omega, by omega⟩]; omega) (by omega) hL ?_
  refine at_callV (pc := 850) (ci := 11) C (c_X11_room l g N _ _ σ _ (inR_t _) (inR_t _) ok a1) kv_X11_room wl_86 kd0 rfl rfl rfl rfl (Nat.le_of_ble_eq_true rfl) ⟨rfl, rfl, Nat.le_of_ble_eq_true rfl, Nat.le_of_ble_eq_true rfl⟩ dL_law_850 (fun h1 ok1 => ?_)
  refine at_aload_n (pc := 853) C 2 dL_law_853 rfl rfl ?_
  refine at_arg (pc := 854) (k := 6 * q + 1) C X dL_law_854 dL_law_855 dL_law_857 dL_law_858 dL_law_859 (by rw [ja_eq ⟨by omega, by omega⟩]; omega) (by omega) hL ?_
  refine at_arg (pc := 860) (k := 6 * q + 2) C X dL_law_860 dL_law_861 dL_law_863 dL_law_864 dL_law_865 (by rw [ja_eq ⟨by omega, by omega⟩]; omega) (by omega) hL ?_
  refine at_callV (pc := 866) (ci := 12) C (c_X12_room l g N _ _ σ1 _ (inR_t _) (inR_t _) ok1 a2) kv_X12_room wl_89 kd94 rfl rfl rfl rfl (Nat.le_of_ble_eq_true rfl) ⟨rfl, rfl, Nat.le_of_ble_eq_true rfl, Nat.le_of_ble_eq_true rfl⟩ dL_law_866 (fun h2 ok2 => ?_)
  exact at_icmp_eq (pc := 869) (tgt := 1917) C h1 h2 dL_law_869 (by decide) (fun _ => kk σ2 a3 ok2) (fun z => absurd rfl z)
theorem lc_15 (hN : BigN N) (C : Cx p room_1 s m args c cl sl cL_law RL 7 g) (X : SX s g b L xs) {q : Nat} (hq : 6 * q + 5 < L) (hL : L ≤ 3072) (H : INV σ) (ok : OK σ) (kk : ∀ σ2, INV σ2 → OK σ2 → At p l e room_1 s m args below meth c cl sl g 7 Q 1917 (lvL g b q) [] σ2) : At p l e room_1 s m args below meth c cl sl g 7 Q 874 (lvL g b q) [] σ := by
  obtain ⟨r, σ1, σ2, a1, a2, a3⟩ := s_price (N := N) hN H (xs (6 * q + 1)).toInt (xs (6 * q + 2)).toInt
  refine at_aload_n (pc := 874) C 3 dL_law_874 rfl rfl ?_
  refine at_arg (pc := 875) (k := 6 * q + 1) C X dL_law_875 dL_law_876 dL_law_878 dL_law_879 dL_law_880 (by rw [ja_eq ⟨by omega, by omega⟩]; omega) (by omega) hL ?_
  refine at_arg (pc := 881) (k := 6 * q + 2) C X dL_law_881 dL_law_882 dL_law_884 dL_law_885 dL_law_886 (by rw [ja_eq ⟨by omega, by omega⟩]; omega) (by omega) hL ?_
  refine at_callV (pc := 887) (ci := 11) C (c_X11_price l g N _ _ σ _ (inR_t _) (inR_t _) ok a1) kv_X11_price wl_90 kd0 rfl rfl rfl rfl (Nat.le_of_ble_eq_true rfl) ⟨rfl, rfl, Nat.le_of_ble_eq_true rfl, Nat.le_of_ble_eq_true rfl⟩ dL_law_887 (fun h1 ok1 => ?_)
  refine at_aload_n (pc := 890) C 2 dL_law_890 rfl rfl ?_
  refine at_arg (pc := 891) (k := 6 * q + 1) C X dL_law_891 dL_law_892 dL_law_894 dL_law_895 dL_law_896 (by rw [ja_eq ⟨by omega, by omega⟩]; omega) (by omega) hL ?_
  refine at_arg (pc := 897) (k := 6 * q + 2) C X dL_law_897 dL_law_898 dL_law_900 dL_law_901 dL_law_902 (by rw [ja_eq ⟨by omega, by omega⟩]; omega) (by omega) hL ?_
  refine at_callV (pc := 903) (ci := 12) C (c_X12_price l g N _ _ σ1 _ (inR_t _) (inR_t _) ok1 a2) kv_X12_price wl_93 kd94 rfl rfl rfl rfl (Nat.le_of_ble_eq_true rfl) ⟨rfl, rfl, Nat.le_of_ble_eq_true rfl, Nat.le_of_ble_eq_true rfl⟩ dL_law_903 (fun h2 ok2 => ?_)
  exact at_icmp_eq (pc := 906) (tgt := 1917) C h1 h2 dL_law_906 (by decide) (fun _ => kk σ2 a3 ok2) (fun z => absurd rfl z)
theorem lc_16 (hN : BigN N) (C : Cx p room_1 s m args c cl sl cL_law RL 7 g) (X : SX s g b L xs) {q : Nat} (hq : 6 * q + 5 < L) (hL : L ≤ 3072) (H : INV σ) (ok : OK σ) (kk : ∀ σ2, INV σ2 → OK σ2 → At p l e room_1 s m args below meth c cl sl g 7 Q 1917 (lvL g b q) [] σ2) : At p l e room_1 s m args below meth c cl sl g 7 Q 911 (lvL g b q) [] σ := by
  obtain ⟨r, σ1, σ2, a1, a2, a3⟩ := s_claim (N := N) hN H (xs (6 * q + 1)).toInt (xs (6 * q + 2)).toInt (xs (6 * q + 3)).toInt
  refine at_aload_n (pc := 911) C 3 dL_law_911 rfl rfl ?_
  refine at_arg (pc := 912) (k := 6 * q + 1) C X dL_law_912 dL_law_913 dL_law_915 dL_law_916 dL_law_917 (by rw [ja_eq ⟨by omega, by omega⟩]; omega) (by omega) hL ?_
  refine at_arg (pc := 918) (k := 6 * q + 2) C X dL_law_918 dL_law_919 dL_law_921 dL_law_922 dL_law_923 (by rw [ja_eq ⟨by omega, by omega⟩]; omega) (by omega) hL ?_
  refine at_arg (pc := 924) (k := 6 * q + 3) C X dL_law_924 dL_law_925 dL_law_927 dL_law_928 dL_law_929 (by rw [ja_eq ⟨by omega, by omega⟩]; omega) (by omega) hL ?_
  refine at_callV (pc := 930) (ci := 11) C (c_X11_claim l g N _ _ _ σ _ (inR_t _) (inR_t _) (inR_t _) ok a1) kv_X11_claim wl_94 kd0 rfl rfl rfl rfl (Nat.le_of_ble_eq_true rfl) ⟨rfl, rfl, Nat.le_of_ble_eq_true rfl, Nat.le_of_ble_eq_true rfl⟩ dL_law_930 (fun h1 ok1 => ?_)
  refine at_aload_n (pc := 933) C 2 dL_law_933 rfl rfl ?_
  refine at_arg (pc := 934) (k := 6 * q + 1) C X dL_law_934 dL_law_935 dL_law_937 dL_law_938 dL_law_939 (by rw [ja_eq ⟨by omega, by omega⟩]; omega) (by omega) hL ?_
  refine at_arg (pc := 940) (k := 6 * q + 2) C X dL_law_940 dL_law_941 dL_law_943 dL_law_944 dL_law_945 (by rw [ja_eq ⟨by omega, by omega⟩]; omega) (by omega) hL ?_
  refine at_arg (pc := 946) (k := 6 * q + 3) C X dL_law_946 dL_law_947 dL_law_949 dL_law_950 dL_law_951 (by rw [ja_eq ⟨by omega, by omega⟩]; omega) (by omega) hL ?_
  refine at_callV (pc := 952) (ci := 12) C (c_X12_claim l g N _ _ _ σ1 _ (inR_t _) (inR_t _) (inR_t _) ok1 a2) kv_X12_claim wl_97 kd94 rfl rfl rfl rfl (Nat.le_of_ble_eq_true rfl) ⟨rfl, rfl, Nat.le_of_ble_eq_true rfl, Nat.le_of_ble_eq_true rfl⟩ dL_law_952 (fun h2 ok2 => ?_)
  exact at_icmp_eq (pc := 955) (tgt := 1917) C h1 h2 dL_law_955 (by decide) (fun _ => kk σ2 a3 ok2) (fun z => absurd rfl z)
theorem lc_17 (hN : BigN N) (C : Cx p room_1 s m args c cl sl cL_law RL 7 g) (X : SX s g b L xs) {q : Nat} (hq : 6 * q + 5 < L) (hL : L ≤ 3072) (H : INV σ) (ok : OK σ) (kk : ∀ σ2, INV σ2 → OK σ2 → At p l e room_1 s m args below meth c cl sl g 7 Q 1917 (lvL g b q) [] σ2) : At p l e room_1 s m args below meth c cl sl g 7 Q 960 (lvL g b q) [] σ := by
  obtain ⟨r, σ1, σ2, a1, a2, a3⟩ := s_withdraw (N := N) hN H (xs (6 * q + 1)).toInt
  refine at_aload_n (pc := 960) C 3 dL_law_960 rfl rfl ?_
  refine at_arg (pc := 961) (k := 6 * q + 1) C X dL_law_961 dL_law_962 dL_law_964 dL_law_965 dL_law_966 (by rw [ja_eq ⟨by omega, by omega⟩]; omega) (by omega) hL ?_
  refine at_callV (pc := 967) (ci := 11) C (c_X11_withdraw l g N _ σ _ (inR_t _) ok a1) kv_X11_withdraw wl_98 kd0 rfl rfl rfl rfl (Nat.le_of_ble_eq_true rfl) ⟨rfl, rfl, Nat.le_of_ble_eq_true rfl, Nat.le_of_ble_eq_true rfl⟩ dL_law_967 (fun h1 ok1 => ?_)
  refine at_aload_n (pc := 970) C 2 dL_law_970 rfl rfl ?_
  refine at_arg (pc := 971) (k := 6 * q + 1) C X dL_law_971 dL_law_972 dL_law_974 dL_law_975 dL_law_976 (by rw [ja_eq ⟨by omega, by omega⟩]; omega) (by omega) hL ?_
  refine at_callV (pc := 977) (ci := 12) C (c_X12_withdraw l g N _ σ1 _ (inR_t _) ok1 a2) kv_X12_withdraw wl_101 kd94 rfl rfl rfl rfl (Nat.le_of_ble_eq_true rfl) ⟨rfl, rfl, Nat.le_of_ble_eq_true rfl, Nat.le_of_ble_eq_true rfl⟩ dL_law_977 (fun h2 ok2 => ?_)
  exact at_icmp_eq (pc := 980) (tgt := 1917) C h1 h2 dL_law_980 (by decide) (fun _ => kk σ2 a3 ok2) (fun z => absurd rfl z)
theorem lc_18 (hN : BigN N) (C : Cx p room_1 s m args c cl sl cL_law RL 7 g) (X : SX s g b L xs) {q : Nat} (hq : 6 * q + 5 < L) (hL : L ≤ 3072) (H : INV σ) (ok : OK σ) (kk : ∀ σ2, INV σ2 → OK σ2 → At p l e room_1 s m args below meth c cl sl g 7 Q 1917 (lvL g b q) [] σ2) : At p l e room_1 s m args below meth c cl sl g 7 Q 985 (lvL g b q) [] σ := by
  obtain ⟨r, σ2, a1, a2, a3⟩ := s_claimed (N := N) H (xs (6 * q + 1)).toInt (xs (6 * q + 2)).toInt
  refine at_aload_n (pc := 985) C 3 dL_law_985 rfl rfl ?_
  refine at_arg (pc := 986) (k := 6 * q + 1) C X dL_law_986 dL_law_987 dL_law_989 dL_law_990 dL_law_991 (by rw [ja_eq ⟨by omega, by omega⟩]; omega) (by omega) hL ?_
  refine at_arg (pc := 992) (k := 6 * q + 2) C X dL_law_992 dL_law_993 dL_law_995 dL_law_996 dL_law_997 (by rw [ja_eq ⟨by omega, by omega⟩]; omega) (by omega) hL ?_
  refine at_callV (pc := 998) (ci := 11) C (c_X11_claimed l g N _ _ σ _ (inR_t _) (inR_t _) ok a1) kv_X11_claimed wl_102 kd0 rfl rfl rfl rfl (Nat.le_of_ble_eq_true rfl) ⟨rfl, rfl, Nat.le_of_ble_eq_true rfl, Nat.le_of_ble_eq_true rfl⟩ dL_law_998 (fun h1 ok1 => ?_)
  refine at_aload_n (pc := 1001) C 2 dL_law_1001 rfl rfl ?_
  refine at_arg (pc := 1002) (k := 6 * q + 1) C X dL_law_1002 dL_law_1003 dL_law_1005 dL_law_1006 dL_law_1007 (by rw [ja_eq ⟨by omega, by omega⟩]; omega) (by omega) hL ?_
  refine at_arg (pc := 1008) (k := 6 * q + 2) C X dL_law_1008 dL_law_1009 dL_law_1011 dL_law_1012 dL_law_1013 (by rw [ja_eq ⟨by omega, by omega⟩]; omega) (by omega) hL ?_
  refine at_callV (pc := 1014) (ci := 12) C (c_X12_claimed l g N _ _ σ _ (inR_t _) (inR_t _) ok1 a2) kv_X12_claimed wl_105 kd94 rfl rfl rfl rfl (Nat.le_of_ble_eq_true rfl) ⟨rfl, rfl, Nat.le_of_ble_eq_true rfl, Nat.le_of_ble_eq_true rfl⟩ dL_law_1014 (fun h2 ok2 => ?_)
  exact at_icmp_eq (pc := 1017) (tgt := 1917) C h1 h2 dL_law_1017 (by decide) (fun _ => kk σ2 a3 ok2) (fun z => absurd rfl z)
theorem lc_19 (hN : BigN N) (C : Cx p room_1 s m args c cl sl cL_law RL 7 g) (X : SX s g b L xs) {q : Nat} (hq : 6 * q + 5 < L) (hL : L ≤ 3072) (H : INV σ) (ok : OK σ) (kk : ∀ σ2, INV σ2 → OK σ2 → At p l e room_1 s m args below meth c cl sl g 7 Q 1917 (lvL g b q) [] σ2) : At p l e room_1 s m args below meth c cl sl g 7 Q 1022 (lvL g b q) [] σ := by
  obtain ⟨r, σ1, σ2, a1, a2, a3⟩ := s_claimAll (N := N) hN H 
  refine at_aload_n (pc := 1022) C 3 dL_law_1022 rfl rfl ?_
  refine at_callV (pc := 1023) (ci := 11) C (c_X11_claimAll l g N  σ _  ok a1) kv_X11_claimAll wl_106 kd0 rfl rfl rfl rfl (Nat.le_of_ble_eq_true rfl) ⟨rfl, rfl, Nat.le_of_ble_eq_true rfl, Nat.le_of_ble_eq_true rfl⟩ dL_law_1023 (fun h1 ok1 => ?_)
  refine at_aload_n (pc := 1026) C 2 dL_law_1026 rfl rfl ?_
  refine at_callV (pc := 1027) (ci := 12) C (c_X12_claimAll l g N  σ1 _  ok1 a2) kv_X12_claimAll wl_109 kd94 rfl rfl rfl rfl (Nat.le_of_ble_eq_true rfl) ⟨rfl, rfl, Nat.le_of_ble_eq_true rfl, Nat.le_of_ble_eq_true rfl⟩ dL_law_1027 (fun h2 ok2 => ?_)
  exact at_icmp_eq (pc := 1030) (tgt := 1917) C h1 h2 dL_law_1030 (by decide) (fun _ => kk σ2 a3 ok2) (fun z => absurd rfl z)
theorem lc_20 (hN : BigN N) (C : Cx p room_1 s m args c cl sl cL_law RL 7 g) (X : SX s g b L xs) {q : Nat} (hq : 6 * q + 5 < L) (hL : L ≤ 3072) (H : INV σ) (ok : OK σ) (kk : ∀ σ2, INV σ2 → OK σ2 → At p l e room_1 s m args below meth c cl sl g 7 Q 1917 (lvL g b q) [] σ2) : At p l e room_1 s m args below meth c cl sl g 7 Q 1035 (lvL g b q) [] σ := by
  obtain ⟨r, σ1, σ2, a1, a2, a3⟩ := s_result (N := N) hN H (xs (6 * q + 1)).toInt (xs (6 * q + 2)).toInt
  refine at_aload_n (pc := 1035) C 3 dL_law_1035 rfl rfl ?_
  refine at_arg (pc := 1036) (k := 6 * q + 1) C X dL_law_1036 dL_law_1037 dL_law_1039 dL_law_1040 dL_law_1041 (by rw [ja_eq ⟨by omega, by omega⟩]; omega) (by omega) hL ?_
  refine at_arg (pc := 1042) (k := 6 * q + 2) C X dL_law_1042 dL_law_1043 dL_law_1045 dL_law_1046 dL_law_1047 (by rw [ja_eq ⟨by omega, by omega⟩]; omega) (by omega) hL ?_
  refine at_callV (pc := 1048) (ci := 11) C (c_X11_result l g N _ _ σ _ (inR_t _) (inR_t _) ok a1) kv_X11_result wl_110 kd0 rfl rfl rfl rfl (Nat.le_of_ble_eq_true rfl) ⟨rfl, rfl, Nat.le_of_ble_eq_true rfl, Nat.le_of_ble_eq_true rfl⟩ dL_law_1048 (fun h1 ok1 => ?_)
  refine at_aload_n (pc := 1051) C 2 dL_law_1051 rfl rfl ?_
  refine at_arg (pc := 1052) (k := 6 * q + 1) C X dL_law_1052 dL_law_1053 dL_law_1055 dL_law_1056 dL_law_1057 (by rw [ja_eq ⟨by omega, by omega⟩]; omega) (by omega) hL ?_
  refine at_arg (pc := 1058) (k := 6 * q + 2) C X dL_law_1058 dL_law_1059 dL_law_1061 dL_law_1062 dL_law_1063 (by rw [ja_eq ⟨by omega, by omega⟩]; omega) (by omega) hL ?_
  refine at_callV (pc := 1064) (ci := 12) C (c_X12_result_ l g N _ _ σ1 _ (inR_t _) (inR_t _) ok1 a2) kv_X12_result_ wl_114 kd94 rfl rfl rfl rfl (Nat.le_of_ble_eq_true rfl) ⟨rfl, rfl, Nat.le_of_ble_eq_true rfl, Nat.le_of_ble_eq_true rfl⟩ dL_law_1064 (fun h2 ok2 => ?_)
  exact at_icmp_eq (pc := 1067) (tgt := 1917) C (isB_R' h1) (isB_R' h2) dL_law_1067 (by decide) (fun _ => kk σ2 a3 ok2) (fun z => absurd rfl z)
theorem lc_21 (hN : BigN N) (C : Cx p room_1 s m args c cl sl cL_law RL 7 g) (X : SX s g b L xs) {q : Nat} (hq : 6 * q + 5 < L) (hL : L ≤ 3072) (H : INV σ) (ok : OK σ) (kk : ∀ σ2, INV σ2 → OK σ2 → At p l e room_1 s m args below meth c cl sl g 7 Q 1917 (lvL g b q) [] σ2) : At p l e room_1 s m args below meth c cl sl g 7 Q 1072 (lvL g b q) [] σ := by
  obtain ⟨r, σ1, σ2, a1, a2, a3⟩ := s_own (N := N) hN H (xs (6 * q + 1)).toInt (xs (6 * q + 2)).toInt (xs (6 * q + 3)).toInt (xs (6 * q + 4)).toInt
  refine at_aload_n (pc := 1072) C 3 dL_law_1072 rfl rfl ?_
  refine at_arg (pc := 1073) (k := 6 * q + 1) C X dL_law_1073 dL_law_1074 dL_law_1076 dL_law_1077 dL_law_1078 (by rw [ja_eq ⟨by omega, by omega⟩]; omega) (by omega) hL ?_
  refine at_arg (pc := 1079) (k := 6 * q + 2) C X dL_law_1079 dL_law_1080 dL_law_1082 dL_law_1083 dL_law_1084 (by rw [ja_eq ⟨by omega, by omega⟩]; omega) (by omega) hL ?_
  refine at_arg (pc := 1085) (k := 6 * q + 3) C X dL_law_1085 dL_law_1086 dL_law_1088 dL_law_1089 dL_law_1090 (by rw [ja_eq ⟨by omega, by omega⟩]; omega) (by omega) hL ?_
  refine at_arg (pc := 1091) (k := 6 * q + 4) C X dL_law_1091 dL_law_1092 dL_law_1094 dL_law_1095 dL_law_1096 (by rw [ja_eq ⟨by omega, by omega⟩]; omega) (by omega) hL ?_
  refine at_callV (pc := 1097) (ci := 11) C (c_X11_own l g N _ _ _ _ σ _ (inR_t _) (inR_t _) (inR_t _) (inR_t _) ok a1) kv_X11_own wl_115 kd0 rfl rfl rfl rfl (Nat.le_of_ble_eq_true rfl) ⟨rfl, rfl, Nat.le_of_ble_eq_true rfl, Nat.le_of_ble_eq_true rfl⟩ dL_law_1097 (fun h1 ok1 => ?_)
  refine at_aload_n (pc := 1100) C 2 dL_law_1100 rfl rfl ?_
  refine at_arg (pc := 1101) (k := 6 * q + 1) C X dL_law_1101 dL_law_1102 dL_law_1104 dL_law_1105 dL_law_1106 (by rw [ja_eq ⟨by omega, by omega⟩]; omega) (by omega) hL ?_
  refine at_arg (pc := 1107) (k := 6 * q + 2) C X dL_law_1107 dL_law_1108 dL_law_1110 dL_law_1111 dL_law_1112 (by rw [ja_eq ⟨by omega, by omega⟩]; omega) (by omega) hL ?_
  refine at_arg (pc := 1113) (k := 6 * q + 3) C X dL_law_1113 dL_law_1114 dL_law_1116 dL_law_1117 dL_law_1118 (by rw [ja_eq ⟨by omega, by omega⟩]; omega) (by omega) hL ?_
  refine at_arg (pc := 1119) (k := 6 * q + 4) C X dL_law_1119 dL_law_1120 dL_law_1122 dL_law_1123 dL_law_1124 (by rw [ja_eq ⟨by omega, by omega⟩]; omega) (by omega) hL ?_
  refine at_callV (pc := 1125) (ci := 12) C (c_X12_own l g N _ _ _ _ σ1 _ (inR_t _) (inR_t _) (inR_t _) (inR_t _) ok1 a2) kv_X12_own wl_119 kd94 rfl rfl rfl rfl (Nat.le_of_ble_eq_true rfl) ⟨rfl, rfl, Nat.le_of_ble_eq_true rfl, Nat.le_of_ble_eq_true rfl⟩ dL_law_1125 (fun h2 ok2 => ?_)
  exact at_icmp_eq (pc := 1128) (tgt := 1917) C h1 h2 dL_law_1128 (by decide) (fun _ => kk σ2 a3 ok2) (fun z => absurd rfl z)
theorem lc_22 (hN : BigN N) (C : Cx p room_1 s m args c cl sl cL_law RL 7 g) (X : SX s g b L xs) {q : Nat} (hq : 6 * q + 5 < L) (hL : L ≤ 3072) (H : INV σ) (ok : OK σ) (kk : ∀ σ2, INV σ2 → OK σ2 → At p l e room_1 s m args below meth c cl sl g 7 Q 1917 (lvL g b q) [] σ2) : At p l e room_1 s m args below meth c cl sl g 7 Q 1133 (lvL g b q) [] σ := by
  obtain ⟨r, σ1, σ2, a1, a2, a3⟩ := s_relief (N := N) hN H (xs (6 * q + 1)).toInt (xs (6 * q + 2)).toInt
  refine at_aload_n (pc := 1133) C 3 dL_law_1133 rfl rfl ?_
  refine at_arg (pc := 1134) (k := 6 * q + 1) C X dL_law_1134 dL_law_1135 dL_law_1137 dL_law_1138 dL_law_1139 (by rw [ja_eq ⟨by omega, by omega⟩]; omega) (by omega) hL ?_
  refine at_arg (pc := 1140) (k := 6 * q + 2) C X dL_law_1140 dL_law_1141 dL_law_1143 dL_law_1144 dL_law_1145 (by rw [ja_eq ⟨by omega, by omega⟩]; omega) (by omega) hL ?_
  refine at_callV (pc := 1146) (ci := 11) C (c_X11_relief l g N _ _ σ _ (inR_t _) (inR_t _) ok a1) kv_X11_relief wl_120 kd0 rfl rfl rfl rfl (Nat.le_of_ble_eq_true rfl) ⟨rfl, rfl, Nat.le_of_ble_eq_true rfl, Nat.le_of_ble_eq_true rfl⟩ dL_law_1146 (fun h1 ok1 => ?_)
  refine at_aload_n (pc := 1149) C 2 dL_law_1149 rfl rfl ?_
  refine at_arg (pc := 1150) (k := 6 * q + 1) C X dL_law_1150 dL_law_1151 dL_law_1153 dL_law_1154 dL_law_1155 (by rw [ja_eq ⟨by omega, by omega⟩]; omega) (by omega) hL ?_
  refine at_arg (pc := 1156) (k := 6 * q + 2) C X dL_law_1156 dL_law_1157 dL_law_1159 dL_law_1160 dL_law_1161 (by rw [ja_eq ⟨by omega, by omega⟩]; omega) (by omega) hL ?_
  refine at_callV (pc := 1162) (ci := 12) C (c_X12_relief l g N _ _ σ1 _ (inR_t _) (inR_t _) ok1 a2) kv_X12_relief wl_123 kd94 rfl rfl rfl rfl (Nat.le_of_ble_eq_true rfl) ⟨rfl, rfl, Nat.le_of_ble_eq_true rfl, Nat.le_of_ble_eq_true rfl⟩ dL_law_1162 (fun h2 ok2 => ?_)
  exact at_icmp_eq (pc := 1165) (tgt := 1917) C h1 h2 dL_law_1165 (by decide) (fun _ => kk σ2 a3 ok2) (fun z => absurd rfl z)
theorem lc_23 (hN : BigN N) (C : Cx p room_1 s m args c cl sl cL_law RL 7 g) (X : SX s g b L xs) {q : Nat} (hq : 6 * q + 5 < L) (hL : L ≤ 3072) (H : INV σ) (ok : OK σ) (kk : ∀ σ2, INV σ2 → OK σ2 → At p l e room_1 s m args below meth c cl sl g 7 Q 1917 (lvL g b q) [] σ2) : At p l e room_1 s m args below meth c cl sl g 7 Q 1170 (lvL g b q) [] σ := by
  obtain ⟨r, σ1, σ2, a1, a2, a3⟩ := s_solved (N := N) hN H (xs (6 * q + 1)).toInt
  refine at_aload_n (pc := 1170) C 3 dL_law_1170 rfl rfl ?_
  refine at_arg (pc := 1171) (k := 6 * q + 1) C X dL_law_1171 dL_law_1172 dL_law_1174 dL_law_1175 dL_law_1176 (by rw [ja_eq ⟨by omega, by omega⟩]; omega) (by omega) hL ?_
  refine at_callVl (pc := 1177) (ci := 11) C (c_X11_solved l g N _ σ _ (inR_t _) ok a1) kv_X11_solved wl_124 kd0 rfl rfl rfl rfl (Nat.le_of_ble_eq_true rfl) ⟨rfl, rfl, Nat.le_of_ble_eq_true rfl, Nat.le_of_ble_eq_true rfl⟩ dL_law_1177 (fun h1 ok1 => ?_)
  refine at_aload_n (pc := 1180) C 2 dL_law_1180 rfl rfl ?_
  refine at_arg (pc := 1181) (k := 6 * q + 1) C X dL_law_1181 dL_law_1182 dL_law_1184 dL_law_1185 dL_law_1186 (by rw [ja_eq ⟨by omega, by omega⟩]; omega) (by omega) hL ?_
  refine at_callVl (pc := 1187) (ci := 12) C (c_X12_solved l g N _ σ1 _ (inR_t _) ok1 a2) kv_X12_solved wl_128 kd94 rfl rfl rfl rfl (Nat.le_of_ble_eq_true rfl) ⟨rfl, rfl, Nat.le_of_ble_eq_true rfl, Nat.le_of_ble_eq_true rfl⟩ dL_law_1187 (fun h2 ok2 => ?_)
  refine at_lcmp (pc := 1190) C dL_law_1190 ?_
  exact at_if_eq (pc := 1191) (tgt := 1917) C (jlcmp_R _ _) dL_law_1191 (by decide) (fun _ => kk σ2 a3 ok2) (fun z => absurd (jlcmp_same _) z)
theorem lc_24 (hN : BigN N) (C : Cx p room_1 s m args c cl sl cL_law RL 7 g) (X : SX s g b L xs) {q : Nat} (hq : 6 * q + 5 < L) (hL : L ≤ 3072) (H : INV σ) (ok : OK σ) (kk : ∀ σ2, INV σ2 → OK σ2 → At p l e room_1 s m args below meth c cl sl g 7 Q 1917 (lvL g b q) [] σ2) : At p l e room_1 s m args below meth c cl sl g 7 Q 1196 (lvL g b q) [] σ := by
  obtain ⟨r, σ1, σ2, a1, a2, a3⟩ := s_reached (N := N) hN H 
  refine at_aload_n (pc := 1196) C 3 dL_law_1196 rfl rfl ?_
  refine at_callV (pc := 1197) (ci := 11) C (c_X11_reached l g N  σ _  ok a1) kv_X11_reached wl_129 kd0 rfl rfl rfl rfl (Nat.le_of_ble_eq_true rfl) ⟨rfl, rfl, Nat.le_of_ble_eq_true rfl, Nat.le_of_ble_eq_true rfl⟩ dL_law_1197 (fun h1 ok1 => ?_)
  refine at_aload_n (pc := 1200) C 2 dL_law_1200 rfl rfl ?_
  refine at_callV (pc := 1201) (ci := 12) C (c_X12_reached l g N  σ1 _  ok1 a2) kv_X12_reached wl_132 kd94 rfl rfl rfl rfl (Nat.le_of_ble_eq_true rfl) ⟨rfl, rfl, Nat.le_of_ble_eq_true rfl, Nat.le_of_ble_eq_true rfl⟩ dL_law_1201 (fun h2 ok2 => ?_)
  exact at_icmp_eq (pc := 1204) (tgt := 1917) C h1 h2 dL_law_1204 (by decide) (fun _ => kk σ2 a3 ok2) (fun z => absurd rfl z)
theorem lc_25 (hN : BigN N) (C : Cx p room_1 s m args c cl sl cL_law RL 7 g) (X : SX s g b L xs) {q : Nat} (hq : 6 * q + 5 < L) (hL : L ≤ 3072) (H : INV σ) (ok : OK σ) (kk : ∀ σ2, INV σ2 → OK σ2 → At p l e room_1 s m args below meth c cl sl g 7 Q 1917 (lvL g b q) [] σ2) : At p l e room_1 s m args below meth c cl sl g 7 Q 1209 (lvL g b q) [] σ := by
  obtain ⟨r, σ1, σ2, a1, a2, a3⟩ := s_left (N := N) hN H (xs (6 * q + 1)).toInt
  refine at_aload_n (pc := 1209) C 3 dL_law_1209 rfl rfl ?_
  refine at_arg (pc := 1210) (k := 6 * q + 1) C X dL_law_1210 dL_law_1211 dL_law_1213 dL_law_1214 dL_law_1215 (by rw [ja_eq ⟨by omega, by omega⟩]; omega) (by omega) hL ?_
  refine at_callV (pc := 1216) (ci := 11) C (c_X11_left l g N _ σ _ (inR_t _) ok a1) kv_X11_left wl_133 kd0 rfl rfl rfl rfl (Nat.le_of_ble_eq_true rfl) ⟨rfl, rfl, Nat.le_of_ble_eq_true rfl, Nat.le_of_ble_eq_true rfl⟩ dL_law_1216 (fun h1 ok1 => ?_)
  refine at_aload_n (pc := 1219) C 2 dL_law_1219 rfl rfl ?_
  refine at_arg (pc := 1220) (k := 6 * q + 1) C X dL_law_1220 dL_law_1221 dL_law_1223 dL_law_1224 dL_law_1225 (by rw [ja_eq ⟨by omega, by omega⟩]; omega) (by omega) hL ?_
  refine at_callV (pc := 1226) (ci := 12) C (c_X12_left l g N _ σ1 _ (inR_t _) ok1 a2) kv_X12_left wl_136 kd94 rfl rfl rfl rfl (Nat.le_of_ble_eq_true rfl) ⟨rfl, rfl, Nat.le_of_ble_eq_true rfl, Nat.le_of_ble_eq_true rfl⟩ dL_law_1226 (fun h2 ok2 => ?_)
  exact at_icmp_eq (pc := 1229) (tgt := 1917) C h1 h2 dL_law_1229 (by decide) (fun _ => kk σ2 a3 ok2) (fun z => absurd rfl z)
theorem lc_26 (hN : BigN N) (C : Cx p room_1 s m args c cl sl cL_law RL 7 g) (X : SX s g b L xs) {q : Nat} (hq : 6 * q + 5 < L) (hL : L ≤ 3072) (H : INV σ) (ok : OK σ) (kk : ∀ σ2, INV σ2 → OK σ2 → At p l e room_1 s m args below meth c cl sl g 7 Q 1917 (lvL g b q) [] σ2) : At p l e room_1 s m args below meth c cl sl g 7 Q 1234 (lvL g b q) [] σ := by
  obtain ⟨r, σ1, σ2, a1, a2, a3⟩ := s_pays (N := N) hN H (xs (6 * q + 1)).toInt (xs (6 * q + 2)).toInt
  refine at_aload_n (pc := 1234) C 3 dL_law_1234 rfl rfl ?_
  refine at_arg (pc := 1235) (k := 6 * q + 1) C X dL_law_1235 dL_law_1236 dL_law_1238 dL_law_1239 dL_law_1240 (by rw [ja_eq ⟨by omega, by omega⟩]; omega) (by omega) hL ?_
  refine at_arg (pc := 1241) (k := 6 * q + 2) C X dL_law_1241 dL_law_1242 dL_law_1244 dL_law_1245 dL_law_1246 (by rw [ja_eq ⟨by omega, by omega⟩]; omega) (by omega) hL ?_
  refine at_callV (pc := 1247) (ci := 11) C (c_X11_pays l g N _ _ σ _ (inR_t _) (inR_t _) ok a1) kv_X11_pays wl_137 kd0 rfl rfl rfl rfl (Nat.le_of_ble_eq_true rfl) ⟨rfl, rfl, Nat.le_of_ble_eq_true rfl, Nat.le_of_ble_eq_true rfl⟩ dL_law_1247 (fun h1 ok1 => ?_)
  refine at_aload_n (pc := 1250) C 2 dL_law_1250 rfl rfl ?_
  refine at_arg (pc := 1251) (k := 6 * q + 1) C X dL_law_1251 dL_law_1252 dL_law_1254 dL_law_1255 dL_law_1256 (by rw [ja_eq ⟨by omega, by omega⟩]; omega) (by omega) hL ?_
  refine at_arg (pc := 1257) (k := 6 * q + 2) C X dL_law_1257 dL_law_1258 dL_law_1260 dL_law_1261 dL_law_1262 (by rw [ja_eq ⟨by omega, by omega⟩]; omega) (by omega) hL ?_
  refine at_callV (pc := 1263) (ci := 12) C (c_X12_pays l g N _ _ σ1 _ (inR_t _) (inR_t _) ok1 a2) kv_X12_pays wl_140 kd94 rfl rfl rfl rfl (Nat.le_of_ble_eq_true rfl) ⟨rfl, rfl, Nat.le_of_ble_eq_true rfl, Nat.le_of_ble_eq_true rfl⟩ dL_law_1263 (fun h2 ok2 => ?_)
  exact at_icmp_eq (pc := 1266) (tgt := 1917) C h1 h2 dL_law_1266 (by decide) (fun _ => kk σ2 a3 ok2) (fun z => absurd rfl z)
theorem lc_27 (hN : BigN N) (C : Cx p room_1 s m args c cl sl cL_law RL 7 g) (X : SX s g b L xs) {q : Nat} (hq : 6 * q + 5 < L) (hL : L ≤ 3072) (H : INV σ) (ok : OK σ) (kk : ∀ σ2, INV σ2 → OK σ2 → At p l e room_1 s m args below meth c cl sl g 7 Q 1917 (lvL g b q) [] σ2) : At p l e room_1 s m args below meth c cl sl g 7 Q 1271 (lvL g b q) [] σ := by
  obtain ⟨r, σ1, σ2, a1, a2, a3⟩ := s_balance (N := N) hN H (xs (6 * q + 1)).toInt
  refine at_aload_n (pc := 1271) C 3 dL_law_1271 rfl rfl ?_
  refine at_arg (pc := 1272) (k := 6 * q + 1) C X dL_law_1272 dL_law_1273 dL_law_1275 dL_law_1276 dL_law_1277 (by rw [ja_eq ⟨by omega, by omega⟩]; omega) (by omega) hL ?_
  refine at_callV (pc := 1278) (ci := 11) C (c_X11_balance l g N _ σ _ (inR_t _) ok a1) kv_X11_balance wl_141 kd0 rfl rfl rfl rfl (Nat.le_of_ble_eq_true rfl) ⟨rfl, rfl, Nat.le_of_ble_eq_true rfl, Nat.le_of_ble_eq_true rfl⟩ dL_law_1278 (fun h1 ok1 => ?_)
  refine at_aload_n (pc := 1281) C 2 dL_law_1281 rfl rfl ?_
  refine at_arg (pc := 1282) (k := 6 * q + 1) C X dL_law_1282 dL_law_1283 dL_law_1285 dL_law_1286 dL_law_1287 (by rw [ja_eq ⟨by omega, by omega⟩]; omega) (by omega) hL ?_
  refine at_callV (pc := 1288) (ci := 12) C (c_X12_balance l g N _ σ1 _ (inR_t _) ok1 a2) kv_X12_balance wl_144 kd94 rfl rfl rfl rfl (Nat.le_of_ble_eq_true rfl) ⟨rfl, rfl, Nat.le_of_ble_eq_true rfl, Nat.le_of_ble_eq_true rfl⟩ dL_law_1288 (fun h2 ok2 => ?_)
  exact at_icmp_eq (pc := 1291) (tgt := 1917) C h1 h2 dL_law_1291 (by decide) (fun _ => kk σ2 a3 ok2) (fun z => absurd rfl z)
theorem lc_28 (hN : BigN N) (C : Cx p room_1 s m args c cl sl cL_law RL 7 g) (X : SX s g b L xs) {q : Nat} (hq : 6 * q + 5 < L) (hL : L ≤ 3072) (H : INV σ) (ok : OK σ) (kk : ∀ σ2, INV σ2 → OK σ2 → At p l e room_1 s m args below meth c cl sl g 7 Q 1917 (lvL g b q) [] σ2) : At p l e room_1 s m args below meth c cl sl g 7 Q 1296 (lvL g b q) [] σ := by
  obtain ⟨r, σ1, σ2, a1, a2, a3⟩ := s_owes (N := N) hN H (xs (6 * q + 1)).toInt (xs (6 * q + 2)).toInt
  refine at_aload_n (pc := 1296) C 3 dL_law_1296 rfl rfl ?_
  refine at_arg (pc := 1297) (k := 6 * q + 1) C X dL_law_1297 dL_law_1298 dL_law_1300 dL_law_1301 dL_law_1302 (by rw [ja_eq ⟨by omega, by omega⟩]; omega) (by omega) hL ?_
  refine at_arg (pc := 1303) (k := 6 * q + 2) C X dL_law_1303 dL_law_1304 dL_law_1306 dL_law_1307 dL_law_1308 (by rw [ja_eq ⟨by omega, by omega⟩]; omega) (by omega) hL ?_
  refine at_callV (pc := 1309) (ci := 11) C (c_X11_owes l g N _ _ σ _ (inR_t _) (inR_t _) ok a1) kv_X11_owes wl_145 kd0 rfl rfl rfl rfl (Nat.le_of_ble_eq_true rfl) ⟨rfl, rfl, Nat.le_of_ble_eq_true rfl, Nat.le_of_ble_eq_true rfl⟩ dL_law_1309 (fun h1 ok1 => ?_)
  refine at_aload_n (pc := 1312) C 2 dL_law_1312 rfl rfl ?_
  refine at_arg (pc := 1313) (k := 6 * q + 1) C X dL_law_1313 dL_law_1314 dL_law_1316 dL_law_1317 dL_law_1318 (by rw [ja_eq ⟨by omega, by omega⟩]; omega) (by omega) hL ?_
  refine at_arg (pc := 1319) (k := 6 * q + 2) C X dL_law_1319 dL_law_1320 dL_law_1322 dL_law_1323 dL_law_1324 (by rw [ja_eq ⟨by omega, by omega⟩]; omega) (by omega) hL ?_
  refine at_callV (pc := 1325) (ci := 12) C (c_X12_owes l g N _ _ σ1 _ (inR_t _) (inR_t _) ok1 a2) kv_X12_owes wl_148 kd94 rfl rfl rfl rfl (Nat.le_of_ble_eq_true rfl) ⟨rfl, rfl, Nat.le_of_ble_eq_true rfl, Nat.le_of_ble_eq_true rfl⟩ dL_law_1325 (fun h2 ok2 => ?_)
  exact at_icmp_eq (pc := 1328) (tgt := 1917) C h1 h2 dL_law_1328 (by decide) (fun _ => kk σ2 a3 ok2) (fun z => absurd rfl z)
theorem lc_29 (hN : BigN N) (C : Cx p room_1 s m args c cl sl cL_law RL 7 g) (X : SX s g b L xs) {q : Nat} (hq : 6 * q + 5 < L) (hL : L ≤ 3072) (H : INV σ) (ok : OK σ) (kk : ∀ σ2, INV σ2 → OK σ2 → At p l e room_1 s m args below meth c cl sl g 7 Q 1917 (lvL g b q) [] σ2) : At p l e room_1 s m args below meth c cl sl g 7 Q 1333 (lvL g b q) [] σ := by
  obtain ⟨r, σ1, σ2, a1, a2, a3⟩ := s_settles (N := N) hN H 
  refine at_aload_n (pc := 1333) C 3 dL_law_1333 rfl rfl ?_
  refine at_callV (pc := 1334) (ci := 11) C (c_X11_settles l g N  σ _  ok a1) kv_X11_settles wl_149 kd0 rfl rfl rfl rfl (Nat.le_of_ble_eq_true rfl) ⟨rfl, rfl, Nat.le_of_ble_eq_true rfl, Nat.le_of_ble_eq_true rfl⟩ dL_law_1334 (fun h1 ok1 => ?_)
  refine at_aload_n (pc := 1337) C 2 dL_law_1337 rfl rfl ?_
  refine at_callV (pc := 1338) (ci := 12) C (c_X12_settles l g N  σ1 _  ok1 a2) kv_X12_settles wl_152 kd94 rfl rfl rfl rfl (Nat.le_of_ble_eq_true rfl) ⟨rfl, rfl, Nat.le_of_ble_eq_true rfl, Nat.le_of_ble_eq_true rfl⟩ dL_law_1338 (fun h2 ok2 => ?_)
  exact at_icmp_eq (pc := 1341) (tgt := 1917) C h1 h2 dL_law_1341 (by decide) (fun _ => kk σ2 a3 ok2) (fun z => absurd rfl z)
theorem lc_30 (hN : BigN N) (C : Cx p room_1 s m args c cl sl cL_law RL 7 g) (X : SX s g b L xs) {q : Nat} (hq : 6 * q + 5 < L) (hL : L ≤ 3072) (H : INV σ) (ok : OK σ) (kk : ∀ σ2, INV σ2 → OK σ2 → At p l e room_1 s m args below meth c cl sl g 7 Q 1917 (lvL g b q) [] σ2) : At p l e room_1 s m args below meth c cl sl g 7 Q 1346 (lvL g b q) [] σ := by
  obtain ⟨r, σ1, σ2, a1, a2, a3⟩ := s_settling (N := N) hN H (xs (6 * q + 1)).toInt (xs (6 * q + 2)).toInt (inR_t _)
  refine at_aload_n (pc := 1346) C 3 dL_law_1346 rfl rfl ?_
  refine at_arg (pc := 1347) (k := 6 * q + 1) C X dL_law_1347 dL_law_1348 dL_law_1350 dL_law_1351 dL_law_1352 (by rw [ja_eq ⟨by omega, by omega⟩]; omega) (by omega) hL ?_
  refine at_arg (pc := 1353) (k := 6 * q + 2) C X dL_law_1353 dL_law_1354 dL_law_1356 dL_law_1357 dL_law_1358 (by rw [ja_eq ⟨by omega, by omega⟩]; omega) (by omega) hL ?_
  refine at_callV (pc := 1359) (ci := 11) C (c_X11_settling l g N _ _ σ _ (inR_t _) (inR_t _) ok a1) kv_X11_settling wl_153 kd0 rfl rfl rfl rfl (Nat.le_of_ble_eq_true rfl) ⟨rfl, rfl, Nat.le_of_ble_eq_true rfl, Nat.le_of_ble_eq_true rfl⟩ dL_law_1359 (fun h1 ok1 => ?_)
  refine at_aload_n (pc := 1362) C 2 dL_law_1362 rfl rfl ?_
  refine at_arg (pc := 1363) (k := 6 * q + 1) C X dL_law_1363 dL_law_1364 dL_law_1366 dL_law_1367 dL_law_1368 (by rw [ja_eq ⟨by omega, by omega⟩]; omega) (by omega) hL ?_
  refine at_arg (pc := 1369) (k := 6 * q + 2) C X dL_law_1369 dL_law_1370 dL_law_1372 dL_law_1373 dL_law_1374 (by rw [ja_eq ⟨by omega, by omega⟩]; omega) (by omega) hL ?_
  refine at_callV (pc := 1375) (ci := 12) C (c_X12_settling l g N _ _ σ1 _ (inR_t _) (inR_t _) ok1 a2) kv_X12_settling wl_156 kd94 rfl rfl rfl rfl (Nat.le_of_ble_eq_true rfl) ⟨rfl, rfl, Nat.le_of_ble_eq_true rfl, Nat.le_of_ble_eq_true rfl⟩ dL_law_1375 (fun h2 ok2 => ?_)
  exact at_icmp_eq (pc := 1378) (tgt := 1917) C h1 h2 dL_law_1378 (by decide) (fun _ => kk σ2 a3 ok2) (fun z => absurd rfl z)
theorem lc_31 (hN : BigN N) (C : Cx p room_1 s m args c cl sl cL_law RL 7 g) (X : SX s g b L xs) {q : Nat} (hq : 6 * q + 5 < L) (hL : L ≤ 3072) (H : INV σ) (ok : OK σ) (kk : ∀ σ2, INV σ2 → OK σ2 → At p l e room_1 s m args below meth c cl sl g 7 Q 1917 (lvL g b q) [] σ2) : At p l e room_1 s m args below meth c cl sl g 7 Q 1383 (lvL g b q) [] σ := by
  obtain ⟨r, σ1, σ2, a1, a2, a3⟩ := s_tax (N := N) hN H (xs (6 * q + 1)).toInt
  refine at_aload_n (pc := 1383) C 3 dL_law_1383 rfl rfl ?_
  refine at_arg (pc := 1384) (k := 6 * q + 1) C X dL_law_1384 dL_law_1385 dL_law_1387 dL_law_1388 dL_law_1389 (by rw [ja_eq ⟨by omega, by omega⟩]; omega) (by omega) hL ?_
  refine at_callV (pc := 1390) (ci := 11) C (c_X11_tax l g N _ σ _ (inR_t _) ok a1) kv_X11_tax wl_157 kd0 rfl rfl rfl rfl (Nat.le_of_ble_eq_true rfl) ⟨rfl, rfl, Nat.le_of_ble_eq_true rfl, Nat.le_of_ble_eq_true rfl⟩ dL_law_1390 (fun h1 ok1 => ?_)
  refine at_aload_n (pc := 1393) C 2 dL_law_1393 rfl rfl ?_
  refine at_arg (pc := 1394) (k := 6 * q + 1) C X dL_law_1394 dL_law_1395 dL_law_1397 dL_law_1398 dL_law_1399 (by rw [ja_eq ⟨by omega, by omega⟩]; omega) (by omega) hL ?_
  refine at_callV (pc := 1400) (ci := 12) C (c_X12_tax l g N _ σ1 _ (inR_t _) ok1 a2) kv_X12_tax wl_160 kd94 rfl rfl rfl rfl (Nat.le_of_ble_eq_true rfl) ⟨rfl, rfl, Nat.le_of_ble_eq_true rfl, Nat.le_of_ble_eq_true rfl⟩ dL_law_1400 (fun h2 ok2 => ?_)
  exact at_icmp_eq (pc := 1403) (tgt := 1917) C h1 h2 dL_law_1403 (by decide) (fun _ => kk σ2 a3 ok2) (fun z => absurd rfl z)
theorem lc_32 (hN : BigN N) (C : Cx p room_1 s m args c cl sl cL_law RL 7 g) (X : SX s g b L xs) {q : Nat} (hq : 6 * q + 5 < L) (hL : L ≤ 3072) (H : INV σ) (ok : OK σ) (kk : ∀ σ2, INV σ2 → OK σ2 → At p l e room_1 s m args below meth c cl sl g 7 Q 1917 (lvL g b q) [] σ2) : At p l e room_1 s m args below meth c cl sl g 7 Q 1408 (lvL g b q) [] σ := by
  obtain ⟨r, σ1, σ2, a1, a2, a3⟩ := s_without (N := N) hN H (xs (6 * q + 1)).toInt
  refine at_aload_n (pc := 1408) C 3 dL_law_1408 rfl rfl ?_
  refine at_arg (pc := 1409) (k := 6 * q + 1) C X dL_law_1409 dL_law_1410 dL_law_1412 dL_law_1413 dL_law_1414 (by rw [ja_eq ⟨by omega, by omega⟩]; omega) (by omega) hL ?_
  refine at_callV (pc := 1415) (ci := 11) C (c_X11_without l g N _ σ _ (inR_t _) ok a1) kv_X11_without wl_161 kd0 rfl rfl rfl rfl (Nat.le_of_ble_eq_true rfl) ⟨rfl, rfl, Nat.le_of_ble_eq_true rfl, Nat.le_of_ble_eq_true rfl⟩ dL_law_1415 (fun h1 ok1 => ?_)
  refine at_aload_n (pc := 1418) C 2 dL_law_1418 rfl rfl ?_
  refine at_arg (pc := 1419) (k := 6 * q + 1) C X dL_law_1419 dL_law_1420 dL_law_1422 dL_law_1423 dL_law_1424 (by rw [ja_eq ⟨by omega, by omega⟩]; omega) (by omega) hL ?_
  refine at_callV (pc := 1425) (ci := 12) C (c_X12_without l g N _ σ1 _ (inR_t _) ok1 a2) kv_X12_without wl_164 kd94 rfl rfl rfl rfl (Nat.le_of_ble_eq_true rfl) ⟨rfl, rfl, Nat.le_of_ble_eq_true rfl, Nat.le_of_ble_eq_true rfl⟩ dL_law_1425 (fun h2 ok2 => ?_)
  exact at_icmp_eq (pc := 1428) (tgt := 1917) C h1 h2 dL_law_1428 (by decide) (fun _ => kk σ2 a3 ok2) (fun z => absurd rfl z)
theorem lc_33 (hN : BigN N) (C : Cx p room_1 s m args c cl sl cL_law RL 7 g) (X : SX s g b L xs) {q : Nat} (hq : 6 * q + 5 < L) (hL : L ≤ 3072) (H : INV σ) (ok : OK σ) (kk : ∀ σ2, INV σ2 → OK σ2 → At p l e room_1 s m args below meth c cl sl g 7 Q 1917 (lvL g b q) [] σ2) : At p l e room_1 s m args below meth c cl sl g 7 Q 1433 (lvL g b q) [] σ := by
  obtain ⟨r, σ1, σ2, a1, a2, a3⟩ := s_worth (N := N) hN H (xs (6 * q + 1)).toInt (xs (6 * q + 2)).toInt (xs (6 * q + 3)).toInt
  refine at_aload_n (pc := 1433) C 3 dL_law_1433 rfl rfl ?_
  refine at_arg (pc := 1434) (k := 6 * q + 1) C X dL_law_1434 dL_law_1435 dL_law_1437 dL_law_1438 dL_law_1439 (by rw [ja_eq ⟨by omega, by omega⟩]; omega) (by omega) hL ?_
  refine at_arg (pc := 1440) (k := 6 * q + 2) C X dL_law_1440 dL_law_1441 dL_law_1443 dL_law_1444 dL_law_1445 (by rw [ja_eq ⟨by omega, by omega⟩]; omega) (by omega) hL ?_
  refine at_arg (pc := 1446) (k := 6 * q + 3) C X dL_law_1446 dL_law_1447 dL_law_1449 dL_law_1450 dL_law_1451 (by rw [ja_eq ⟨by omega, by omega⟩]; omega) (by omega) hL ?_
  refine at_callV (pc := 1452) (ci := 11) C (c_X11_worth l g N _ _ _ σ _ (inR_t _) (inR_t _) (inR_t _) ok a1) kv_X11_worth wl_165 kd0 rfl rfl rfl rfl (Nat.le_of_ble_eq_true rfl) ⟨rfl, rfl, Nat.le_of_ble_eq_true rfl, Nat.le_of_ble_eq_true rfl⟩ dL_law_1452 (fun h1 ok1 => ?_)
  refine at_aload_n (pc := 1455) C 2 dL_law_1455 rfl rfl ?_
  refine at_arg (pc := 1456) (k := 6 * q + 1) C X dL_law_1456 dL_law_1457 dL_law_1459 dL_law_1460 dL_law_1461 (by rw [ja_eq ⟨by omega, by omega⟩]; omega) (by omega) hL ?_
  refine at_arg (pc := 1462) (k := 6 * q + 2) C X dL_law_1462 dL_law_1463 dL_law_1465 dL_law_1466 dL_law_1467 (by rw [ja_eq ⟨by omega, by omega⟩]; omega) (by omega) hL ?_
  refine at_arg (pc := 1468) (k := 6 * q + 3) C X dL_law_1468 dL_law_1469 dL_law_1471 dL_law_1472 dL_law_1473 (by rw [ja_eq ⟨by omega, by omega⟩]; omega) (by omega) hL ?_
  refine at_callV (pc := 1474) (ci := 12) C (c_X12_worth l g N _ _ _ σ1 _ (inR_t _) (inR_t _) (inR_t _) ok1 a2) kv_X12_worth wl_168 kd94 rfl rfl rfl rfl (Nat.le_of_ble_eq_true rfl) ⟨rfl, rfl, Nat.le_of_ble_eq_true rfl, Nat.le_of_ble_eq_true rfl⟩ dL_law_1474 (fun h2 ok2 => ?_)
  exact at_icmp_eq (pc := 1477) (tgt := 1917) C h1 h2 dL_law_1477 (by decide) (fun _ => kk σ2 a3 ok2) (fun z => absurd rfl z)
theorem lc_34 (hN : BigN N) (C : Cx p room_1 s m args c cl sl cL_law RL 7 g) (X : SX s g b L xs) {q : Nat} (hq : 6 * q + 5 < L) (hL : L ≤ 3072) (H : INV σ) (ok : OK σ) (kk : ∀ σ2, INV σ2 → OK σ2 → At p l e room_1 s m args below meth c cl sl g 7 Q 1917 (lvL g b q) [] σ2) : At p l e room_1 s m args below meth c cl sl g 7 Q 1482 (lvL g b q) [] σ := by
  obtain ⟨r, σ1, σ2, a1, a2, a3⟩ := s_lack (N := N) hN H (xs (6 * q + 1)).toInt (xs (6 * q + 2)).toInt (xs (6 * q + 3)).toInt
  refine at_aload_n (pc := 1482) C 3 dL_law_1482 rfl rfl ?_
  refine at_arg (pc := 1483) (k := 6 * q + 1) C X dL_law_1483 dL_law_1484 dL_law_1486 dL_law_1487 dL_law_1488 (by rw [ja_eq ⟨by omega, by omega⟩]; omega) (by omega) hL ?_
  refine at_arg (pc := 1489) (k := 6 * q + 2) C X dL_law_1489 dL_law_1490 dL_law_1492 dL_law_1493 dL_law_1494 (by rw [ja_eq ⟨by omega, by omega⟩]; omega) (by omega) hL ?_
  refine at_arg (pc := 1495) (k := 6 * q + 3) C X dL_law_1495 dL_law_1496 dL_law_1498 dL_law_1499 dL_law_1500 (by rw [ja_eq ⟨by omega, by omega⟩]; omega) (by omega) hL ?_
  refine at_callV (pc := 1501) (ci := 11) C (c_X11_lack l g N _ _ _ σ _ (inR_t _) (inR_t _) (inR_t _) ok a1) kv_X11_lack wl_169 kd0 rfl rfl rfl rfl (Nat.le_of_ble_eq_true rfl) ⟨rfl, rfl, Nat.le_of_ble_eq_true rfl, Nat.le_of_ble_eq_true rfl⟩ dL_law_1501 (fun h1 ok1 => ?_)
  refine at_aload_n (pc := 1504) C 2 dL_law_1504 rfl rfl ?_
  refine at_arg (pc := 1505) (k := 6 * q + 1) C X dL_law_1505 dL_law_1506 dL_law_1508 dL_law_1509 dL_law_1510 (by rw [ja_eq ⟨by omega, by omega⟩]; omega) (by omega) hL ?_
  refine at_arg (pc := 1511) (k := 6 * q + 2) C X dL_law_1511 dL_law_1512 dL_law_1514 dL_law_1515 dL_law_1516 (by rw [ja_eq ⟨by omega, by omega⟩]; omega) (by omega) hL ?_
  refine at_arg (pc := 1517) (k := 6 * q + 3) C X dL_law_1517 dL_law_1518 dL_law_1520 dL_law_1521 dL_law_1522 (by rw [ja_eq ⟨by omega, by omega⟩]; omega) (by omega) hL ?_
  refine at_callV (pc := 1523) (ci := 12) C (c_X12_lack l g N _ _ _ σ1 _ (inR_t _) (inR_t _) (inR_t _) ok1 a2) kv_X12_lack wl_172 kd94 rfl rfl rfl rfl (Nat.le_of_ble_eq_true rfl) ⟨rfl, rfl, Nat.le_of_ble_eq_true rfl, Nat.le_of_ble_eq_true rfl⟩ dL_law_1523 (fun h2 ok2 => ?_)
  exact at_icmp_eq (pc := 1526) (tgt := 1917) C h1 h2 dL_law_1526 (by decide) (fun _ => kk σ2 a3 ok2) (fun z => absurd rfl z)
theorem lc_35 (hN : BigN N) (C : Cx p room_1 s m args c cl sl cL_law RL 7 g) (X : SX s g b L xs) {q : Nat} (hq : 6 * q + 5 < L) (hL : L ≤ 3072) (H : INV σ) (ok : OK σ) (kk : ∀ σ2, INV σ2 → OK σ2 → At p l e room_1 s m args below meth c cl sl g 7 Q 1917 (lvL g b q) [] σ2) : At p l e room_1 s m args below meth c cl sl g 7 Q 1531 (lvL g b q) [] σ := by
  obtain ⟨r, σ1, σ2, a1, a2, a3⟩ := s_byCarry (N := N) hN H (xs (6 * q + 1)).toInt
  refine at_aload_n (pc := 1531) C 3 dL_law_1531 rfl rfl ?_
  refine at_arg (pc := 1532) (k := 6 * q + 1) C X dL_law_1532 dL_law_1533 dL_law_1535 dL_law_1536 dL_law_1537 (by rw [ja_eq ⟨by omega, by omega⟩]; omega) (by omega) hL ?_
  refine at_callV (pc := 1538) (ci := 11) C (c_X11_byCarry l g N _ σ _ (inR_t _) ok a1) kv_X11_byCarry wl_173 kd0 rfl rfl rfl rfl (Nat.le_of_ble_eq_true rfl) ⟨rfl, rfl, Nat.le_of_ble_eq_true rfl, Nat.le_of_ble_eq_true rfl⟩ dL_law_1538 (fun h1 ok1 => ?_)
  refine at_aload_n (pc := 1541) C 2 dL_law_1541 rfl rfl ?_
  refine at_arg (pc := 1542) (k := 6 * q + 1) C X dL_law_1542 dL_law_1543 dL_law_1545 dL_law_1546 dL_law_1547 (by rw [ja_eq ⟨by omega, by omega⟩]; omega) (by omega) hL ?_
  refine at_callV (pc := 1548) (ci := 12) C (c_X12_byCarry l g N _ σ1 _ (inR_t _) ok1 a2) kv_X12_byCarry wl_176 kd94 rfl rfl rfl rfl (Nat.le_of_ble_eq_true rfl) ⟨rfl, rfl, Nat.le_of_ble_eq_true rfl, Nat.le_of_ble_eq_true rfl⟩ dL_law_1548 (fun h2 ok2 => ?_)
  exact at_icmp_eq (pc := 1551) (tgt := 1917) C h1 h2 dL_law_1551 (by decide) (fun _ => kk σ2 a3 ok2) (fun z => absurd rfl z)
theorem lc_36 (hN : BigN N) (C : Cx p room_1 s m args c cl sl cL_law RL 7 g) (X : SX s g b L xs) {q : Nat} (hq : 6 * q + 5 < L) (hL : L ≤ 3072) (H : INV σ) (ok : OK σ) (kk : ∀ σ2, INV σ2 → OK σ2 → At p l e room_1 s m args below meth c cl sl g 7 Q 1917 (lvL g b q) [] σ2) : At p l e room_1 s m args below meth c cl sl g 7 Q 1556 (lvL g b q) [] σ := by
  obtain ⟨r, σ1, σ2, a1, a2, a3⟩ := s_carried (N := N) hN H (xs (6 * q + 1)).toInt
  refine at_aload_n (pc := 1556) C 3 dL_law_1556 rfl rfl ?_
  refine at_arg (pc := 1557) (k := 6 * q + 1) C X dL_law_1557 dL_law_1558 dL_law_1560 dL_law_1561 dL_law_1562 (by rw [ja_eq ⟨by omega, by omega⟩]; omega) (by omega) hL ?_
  refine at_callV (pc := 1563) (ci := 11) C (c_X11_carried l g N _ σ _ (inR_t _) ok a1) kv_X11_carried wl_177 kd0 rfl rfl rfl rfl (Nat.le_of_ble_eq_true rfl) ⟨rfl, rfl, Nat.le_of_ble_eq_true rfl, Nat.le_of_ble_eq_true rfl⟩ dL_law_1563 (fun h1 ok1 => ?_)
  refine at_aload_n (pc := 1566) C 2 dL_law_1566 rfl rfl ?_
  refine at_arg (pc := 1567) (k := 6 * q + 1) C X dL_law_1567 dL_law_1568 dL_law_1570 dL_law_1571 dL_law_1572 (by rw [ja_eq ⟨by omega, by omega⟩]; omega) (by omega) hL ?_
  refine at_callV (pc := 1573) (ci := 12) C (c_X12_carried l g N _ σ1 _ (inR_t _) ok1 a2) kv_X12_carried wl_180 kd94 rfl rfl rfl rfl (Nat.le_of_ble_eq_true rfl) ⟨rfl, rfl, Nat.le_of_ble_eq_true rfl, Nat.le_of_ble_eq_true rfl⟩ dL_law_1573 (fun h2 ok2 => ?_)
  exact at_icmp_eq (pc := 1576) (tgt := 1917) C h1 h2 dL_law_1576 (by decide) (fun _ => kk σ2 a3 ok2) (fun z => absurd rfl z)
theorem lc_37 (hN : BigN N) (C : Cx p room_1 s m args c cl sl cL_law RL 7 g) (X : SX s g b L xs) {q : Nat} (hq : 6 * q + 5 < L) (hL : L ≤ 3072) (H : INV σ) (ok : OK σ) (kk : ∀ σ2, INV σ2 → OK σ2 → At p l e room_1 s m args below meth c cl sl g 7 Q 1917 (lvL g b q) [] σ2) : At p l e room_1 s m args below meth c cl sl g 7 Q 1581 (lvL g b q) [] σ := by
  obtain ⟨r, σ1, σ2, a1, a2, a3⟩ := s_route (N := N) hN H (xs (6 * q + 1)).toInt
  refine at_aload_n (pc := 1581) C 3 dL_law_1581 rfl rfl ?_
  refine at_arg (pc := 1582) (k := 6 * q + 1) C X dL_law_1582 dL_law_1583 dL_law_1585 dL_law_1586 dL_law_1587 (by rw [ja_eq ⟨by omega, by omega⟩]; omega) (by omega) hL ?_
  refine at_callV (pc := 1588) (ci := 11) C (c_X11_route l g N _ σ _ (inR_t _) ok a1) kv_X11_route wl_181 kd0 rfl rfl rfl rfl (Nat.le_of_ble_eq_true rfl) ⟨rfl, rfl, Nat.le_of_ble_eq_true rfl, Nat.le_of_ble_eq_true rfl⟩ dL_law_1588 (fun h1 ok1 => ?_)
  refine at_aload_n (pc := 1591) C 2 dL_law_1591 rfl rfl ?_
  refine at_arg (pc := 1592) (k := 6 * q + 1) C X dL_law_1592 dL_law_1593 dL_law_1595 dL_law_1596 dL_law_1597 (by rw [ja_eq ⟨by omega, by omega⟩]; omega) (by omega) hL ?_
  refine at_callV (pc := 1598) (ci := 12) C (c_X12_route l g N _ σ1 _ (inR_t _) ok1 a2) kv_X12_route wl_184 kd94 rfl rfl rfl rfl (Nat.le_of_ble_eq_true rfl) ⟨rfl, rfl, Nat.le_of_ble_eq_true rfl, Nat.le_of_ble_eq_true rfl⟩ dL_law_1598 (fun h2 ok2 => ?_)
  exact at_icmp_eq (pc := 1601) (tgt := 1917) C h1 h2 dL_law_1601 (by decide) (fun _ => kk σ2 a3 ok2) (fun z => absurd rfl z)
theorem lc_38 (hN : BigN N) (C : Cx p room_1 s m args c cl sl cL_law RL 7 g) (X : SX s g b L xs) {q : Nat} (hq : 6 * q + 5 < L) (hL : L ≤ 3072) (H : INV σ) (ok : OK σ) (kk : ∀ σ2, INV σ2 → OK σ2 → At p l e room_1 s m args below meth c cl sl g 7 Q 1917 (lvL g b q) [] σ2) : At p l e room_1 s m args below meth c cl sl g 7 Q 1606 (lvL g b q) [] σ := by
  obtain ⟨r, σ1, σ2, a1, a2, a3⟩ := s_steps (N := N) hN H (xs (6 * q + 1)).toInt (xs (6 * q + 2)).toInt (xs (6 * q + 3)).toInt
  refine at_aload_n (pc := 1606) C 3 dL_law_1606 rfl rfl ?_
  refine at_arg (pc := 1607) (k := 6 * q + 1) C X dL_law_1607 dL_law_1608 dL_law_1610 dL_law_1611 dL_law_1612 (by rw [ja_eq ⟨by omega, by omega⟩]; omega) (by omega) hL ?_
  refine at_arg (pc := 1613) (k := 6 * q + 2) C X dL_law_1613 dL_law_1614 dL_law_1616 dL_law_1617 dL_law_1618 (by rw [ja_eq ⟨by omega, by omega⟩]; omega) (by omega) hL ?_
  refine at_arg (pc := 1619) (k := 6 * q + 3) C X dL_law_1619 dL_law_1620 dL_law_1622 dL_law_1623 dL_law_1624 (by rw [ja_eq ⟨by omega, by omega⟩]; omega) (by omega) hL ?_
  refine at_callV (pc := 1625) (ci := 11) C (c_X11_steps l g N _ _ _ σ _ (inR_t _) (inR_t _) (inR_t _) ok a1) kv_X11_steps wl_185 kd0 rfl rfl rfl rfl (Nat.le_of_ble_eq_true rfl) ⟨rfl, rfl, Nat.le_of_ble_eq_true rfl, Nat.le_of_ble_eq_true rfl⟩ dL_law_1625 (fun h1 ok1 => ?_)
  refine at_aload_n (pc := 1628) C 2 dL_law_1628 rfl rfl ?_
  refine at_arg (pc := 1629) (k := 6 * q + 1) C X dL_law_1629 dL_law_1630 dL_law_1632 dL_law_1633 dL_law_1634 (by rw [ja_eq ⟨by omega, by omega⟩]; omega) (by omega) hL ?_
  refine at_arg (pc := 1635) (k := 6 * q + 2) C X dL_law_1635 dL_law_1636 dL_law_1638 dL_law_1639 dL_law_1640 (by rw [ja_eq ⟨by omega, by omega⟩]; omega) (by omega) hL ?_
  refine at_arg (pc := 1641) (k := 6 * q + 3) C X dL_law_1641 dL_law_1642 dL_law_1644 dL_law_1645 dL_law_1646 (by rw [ja_eq ⟨by omega, by omega⟩]; omega) (by omega) hL ?_
  refine at_callV (pc := 1647) (ci := 12) C (c_X12_steps l g N _ _ _ σ1 _ (inR_t _) (inR_t _) (inR_t _) ok1 a2) kv_X12_steps wl_188 kd94 rfl rfl rfl rfl (Nat.le_of_ble_eq_true rfl) ⟨rfl, rfl, Nat.le_of_ble_eq_true rfl, Nat.le_of_ble_eq_true rfl⟩ dL_law_1647 (fun h2 ok2 => ?_)
  exact at_icmp_eq (pc := 1650) (tgt := 1917) C h1 h2 dL_law_1650 (by decide) (fun _ => kk σ2 a3 ok2) (fun z => absurd rfl z)
theorem lc_39 (hN : BigN N) (C : Cx p room_1 s m args c cl sl cL_law RL 7 g) (X : SX s g b L xs) {q : Nat} (hq : 6 * q + 5 < L) (hL : L ≤ 3072) (H : INV σ) (ok : OK σ) (kk : ∀ σ2, INV σ2 → OK σ2 → At p l e room_1 s m args below meth c cl sl g 7 Q 1917 (lvL g b q) [] σ2) : At p l e room_1 s m args below meth c cl sl g 7 Q 1655 (lvL g b q) [] σ := by
  obtain ⟨r, σ1, σ2, a1, a2, a3⟩ := s_byGate (N := N) hN H (xs (6 * q + 1)).toInt
  refine at_aload_n (pc := 1655) C 3 dL_law_1655 rfl rfl ?_
  refine at_arg (pc := 1656) (k := 6 * q + 1) C X dL_law_1656 dL_law_1657 dL_law_1659 dL_law_1660 dL_law_1661 (by rw [ja_eq ⟨by omega, by omega⟩]; omega) (by omega) hL ?_
  refine at_callV (pc := 1662) (ci := 11) C (c_X11_byGate l g N _ σ _ (inR_t _) ok a1) kv_X11_byGate wl_189 kd0 rfl rfl rfl rfl (Nat.le_of_ble_eq_true rfl) ⟨rfl, rfl, Nat.le_of_ble_eq_true rfl, Nat.le_of_ble_eq_true rfl⟩ dL_law_1662 (fun h1 ok1 => ?_)
  refine at_aload_n (pc := 1665) C 2 dL_law_1665 rfl rfl ?_
  refine at_arg (pc := 1666) (k := 6 * q + 1) C X dL_law_1666 dL_law_1667 dL_law_1669 dL_law_1670 dL_law_1671 (by rw [ja_eq ⟨by omega, by omega⟩]; omega) (by omega) hL ?_
  refine at_callV (pc := 1672) (ci := 12) C (c_X12_byGate l g N _ σ1 _ (inR_t _) ok1 a2) kv_X12_byGate wl_192 kd94 rfl rfl rfl rfl (Nat.le_of_ble_eq_true rfl) ⟨rfl, rfl, Nat.le_of_ble_eq_true rfl, Nat.le_of_ble_eq_true rfl⟩ dL_law_1672 (fun h2 ok2 => ?_)
  exact at_icmp_eq (pc := 1675) (tgt := 1917) C h1 h2 dL_law_1675 (by decide) (fun _ => kk σ2 a3 ok2) (fun z => absurd rfl z)
theorem lc_40 (hN : BigN N) (C : Cx p room_1 s m args c cl sl cL_law RL 7 g) (X : SX s g b L xs) {q : Nat} (hq : 6 * q + 5 < L) (hL : L ≤ 3072) (H : INV σ) (ok : OK σ) (kk : ∀ σ2, INV σ2 → OK σ2 → At p l e room_1 s m args below meth c cl sl g 7 Q 1917 (lvL g b q) [] σ2) : At p l e room_1 s m args below meth c cl sl g 7 Q 1680 (lvL g b q) [] σ := by
  obtain ⟨r, σ1, σ2, a1, a2, a3⟩ := s_gateFor (N := N) hN H (xs (6 * q + 1)).toInt
  refine at_aload_n (pc := 1680) C 3 dL_law_1680 rfl rfl ?_
  refine at_arg (pc := 1681) (k := 6 * q + 1) C X dL_law_1681 dL_law_1682 dL_law_1684 dL_law_1685 dL_law_1686 (by rw [ja_eq ⟨by omega, by omega⟩]; omega) (by omega) hL ?_
  refine at_callV (pc := 1687) (ci := 11) C (c_X11_gateFor l g N _ σ _ (inR_t _) ok a1) kv_X11_gateFor wl_193 kd0 rfl rfl rfl rfl (Nat.le_of_ble_eq_true rfl) ⟨rfl, rfl, Nat.le_of_ble_eq_true rfl, Nat.le_of_ble_eq_true rfl⟩ dL_law_1687 (fun h1 ok1 => ?_)
  refine at_aload_n (pc := 1690) C 2 dL_law_1690 rfl rfl ?_
  refine at_arg (pc := 1691) (k := 6 * q + 1) C X dL_law_1691 dL_law_1692 dL_law_1694 dL_law_1695 dL_law_1696 (by rw [ja_eq ⟨by omega, by omega⟩]; omega) (by omega) hL ?_
  refine at_callV (pc := 1697) (ci := 12) C (c_X12_gateFor l g N _ σ1 _ (inR_t _) ok1 a2) kv_X12_gateFor wl_196 kd94 rfl rfl rfl rfl (Nat.le_of_ble_eq_true rfl) ⟨rfl, rfl, Nat.le_of_ble_eq_true rfl, Nat.le_of_ble_eq_true rfl⟩ dL_law_1697 (fun h2 ok2 => ?_)
  exact at_icmp_eq (pc := 1700) (tgt := 1917) C h1 h2 dL_law_1700 (by decide) (fun _ => kk σ2 a3 ok2) (fun z => absurd rfl z)
theorem lc_41 (hN : BigN N) (C : Cx p room_1 s m args c cl sl cL_law RL 7 g) (X : SX s g b L xs) {q : Nat} (hq : 6 * q + 5 < L) (hL : L ≤ 3072) (H : INV σ) (ok : OK σ) (kk : ∀ σ2, INV σ2 → OK σ2 → At p l e room_1 s m args below meth c cl sl g 7 Q 1917 (lvL g b q) [] σ2) : At p l e room_1 s m args below meth c cl sl g 7 Q 1705 (lvL g b q) [] σ := by
  obtain ⟨r, σ1, σ2, a1, a2, a3⟩ := s_days (N := N) hN H (xs (6 * q + 1)).toInt (xs (6 * q + 2)).toInt (xs (6 * q + 3)).toInt
  refine at_aload_n (pc := 1705) C 3 dL_law_1705 rfl rfl ?_
  refine at_arg (pc := 1706) (k := 6 * q + 1) C X dL_law_1706 dL_law_1707 dL_law_1709 dL_law_1710 dL_law_1711 (by rw [ja_eq ⟨by omega, by omega⟩]; omega) (by omega) hL ?_
  refine at_arg (pc := 1712) (k := 6 * q + 2) C X dL_law_1712 dL_law_1713 dL_law_1715 dL_law_1716 dL_law_1717 (by rw [ja_eq ⟨by omega, by omega⟩]; omega) (by omega) hL ?_
  refine at_arg (pc := 1718) (k := 6 * q + 3) C X dL_law_1718 dL_law_1719 dL_law_1721 dL_law_1722 dL_law_1723 (by rw [ja_eq ⟨by omega, by omega⟩]; omega) (by omega) hL ?_
  refine at_callV (pc := 1724) (ci := 11) C (c_X11_days l g N _ _ _ σ _ (inR_t _) (inR_t _) (inR_t _) ok a1) kv_X11_days wl_197 kd0 rfl rfl rfl rfl (Nat.le_of_ble_eq_true rfl) ⟨rfl, rfl, Nat.le_of_ble_eq_true rfl, Nat.le_of_ble_eq_true rfl⟩ dL_law_1724 (fun h1 ok1 => ?_)
  refine at_aload_n (pc := 1727) C 2 dL_law_1727 rfl rfl ?_
  refine at_arg (pc := 1728) (k := 6 * q + 1) C X dL_law_1728 dL_law_1729 dL_law_1731 dL_law_1732 dL_law_1733 (by rw [ja_eq ⟨by omega, by omega⟩]; omega) (by omega) hL ?_
  refine at_arg (pc := 1734) (k := 6 * q + 2) C X dL_law_1734 dL_law_1735 dL_law_1737 dL_law_1738 dL_law_1739 (by rw [ja_eq ⟨by omega, by omega⟩]; omega) (by omega) hL ?_
  refine at_arg (pc := 1740) (k := 6 * q + 3) C X dL_law_1740 dL_law_1741 dL_law_1743 dL_law_1744 dL_law_1745 (by rw [ja_eq ⟨by omega, by omega⟩]; omega) (by omega) hL ?_
  refine at_callV (pc := 1746) (ci := 12) C (c_X12_days l g N _ _ _ σ1 _ (inR_t _) (inR_t _) (inR_t _) ok1 a2) kv_X12_days wl_200 kd94 rfl rfl rfl rfl (Nat.le_of_ble_eq_true rfl) ⟨rfl, rfl, Nat.le_of_ble_eq_true rfl, Nat.le_of_ble_eq_true rfl⟩ dL_law_1746 (fun h2 ok2 => ?_)
  exact at_icmp_eq (pc := 1749) (tgt := 1917) C h1 h2 dL_law_1749 (by decide) (fun _ => kk σ2 a3 ok2) (fun z => absurd rfl z)
theorem lc_42 (hN : BigN N) (C : Cx p room_1 s m args c cl sl cL_law RL 7 g) (X : SX s g b L xs) {q : Nat} (hq : 6 * q + 5 < L) (hL : L ≤ 3072) (H : INV σ) (ok : OK σ) (kk : ∀ σ2, INV σ2 → OK σ2 → At p l e room_1 s m args below meth c cl sl g 7 Q 1917 (lvL g b q) [] σ2) : At p l e room_1 s m args below meth c cl sl g 7 Q 1754 (lvL g b q) [] σ := by
  obtain ⟨r, σ1, σ2, a1, a2, a3⟩ := s_ifFirst (N := N) hN H (xs (6 * q + 1)).toInt (xs (6 * q + 2)).toInt
  refine at_aload_n (pc := 1754) C 3 dL_law_1754 rfl rfl ?_
  refine at_arg (pc := 1755) (k := 6 * q + 1) C X dL_law_1755 dL_law_1756 dL_law_1758 dL_law_1759 dL_law_1760 (by rw [ja_eq ⟨by omega, by omega⟩]; omega) (by omega) hL ?_
  refine at_arg (pc := 1761) (k := 6 * q + 2) C X dL_law_1761 dL_law_1762 dL_law_1764 dL_law_1765 dL_law_1766 (by rw [ja_eq ⟨by omega, by omega⟩]; omega) (by omega) hL ?_
  refine at_callV (pc := 1767) (ci := 11) C (c_X11_ifFirst l g N _ _ σ _ (inR_t _) (inR_t _) ok a1) kv_X11_ifFirst wl_201 kd0 rfl rfl rfl rfl (Nat.le_of_ble_eq_true rfl) ⟨rfl, rfl, Nat.le_of_ble_eq_true rfl, Nat.le_of_ble_eq_true rfl⟩ dL_law_1767 (fun h1 ok1 => ?_)
  refine at_aload_n (pc := 1770) C 2 dL_law_1770 rfl rfl ?_
  refine at_arg (pc := 1771) (k := 6 * q + 1) C X dL_law_1771 dL_law_1772 dL_law_1774 dL_law_1775 dL_law_1776 (by rw [ja_eq ⟨by omega, by omega⟩]; omega) (by omega) hL ?_
  refine at_arg (pc := 1777) (k := 6 * q + 2) C X dL_law_1777 dL_law_1778 dL_law_1780 dL_law_1781 dL_law_1782 (by rw [ja_eq ⟨by omega, by omega⟩]; omega) (by omega) hL ?_
  refine at_callV (pc := 1783) (ci := 12) C (c_X12_ifFirst l g N _ _ σ1 _ (inR_t _) (inR_t _) ok1 a2) kv_X12_ifFirst wl_204 kd94 rfl rfl rfl rfl (Nat.le_of_ble_eq_true rfl) ⟨rfl, rfl, Nat.le_of_ble_eq_true rfl, Nat.le_of_ble_eq_true rfl⟩ dL_law_1783 (fun h2 ok2 => ?_)
  exact at_icmp_eq (pc := 1786) (tgt := 1917) C h1 h2 dL_law_1786 (by decide) (fun _ => kk σ2 a3 ok2) (fun z => absurd rfl z)
theorem lc_43 (hN : BigN N) (C : Cx p room_1 s m args c cl sl cL_law RL 7 g) (X : SX s g b L xs) {q : Nat} (hq : 6 * q + 5 < L) (hL : L ≤ 3072) (H : INV σ) (ok : OK σ) (kk : ∀ σ2, INV σ2 → OK σ2 → At p l e room_1 s m args below meth c cl sl g 7 Q 1917 (lvL g b q) [] σ2) : At p l e room_1 s m args below meth c cl sl g 7 Q 1791 (lvL g b q) [] σ := by
  obtain ⟨r, σ1, σ2, a1, a2, a3⟩ := s_dearest (N := N) hN H 
  refine at_aload_n (pc := 1791) C 3 dL_law_1791 rfl rfl ?_
  refine at_callV (pc := 1792) (ci := 11) C (c_X11_dearest l g N  σ _  ok a1) kv_X11_dearest wl_205 kd0 rfl rfl rfl rfl (Nat.le_of_ble_eq_true rfl) ⟨rfl, rfl, Nat.le_of_ble_eq_true rfl, Nat.le_of_ble_eq_true rfl⟩ dL_law_1792 (fun h1 ok1 => ?_)
  refine at_aload_n (pc := 1795) C 2 dL_law_1795 rfl rfl ?_
  refine at_callV (pc := 1796) (ci := 12) C (c_X12_dearest l g N  σ1 _  ok1 a2) kv_X12_dearest wl_208 kd94 rfl rfl rfl rfl (Nat.le_of_ble_eq_true rfl) ⟨rfl, rfl, Nat.le_of_ble_eq_true rfl, Nat.le_of_ble_eq_true rfl⟩ dL_law_1796 (fun h2 ok2 => ?_)
  exact at_icmp_eq (pc := 1799) (tgt := 1917) C h1 h2 dL_law_1799 (by decide) (fun _ => kk σ2 a3 ok2) (fun z => absurd rfl z)
theorem lc_44 (hN : BigN N) (C : Cx p room_1 s m args c cl sl cL_law RL 7 g) (X : SX s g b L xs) {q : Nat} (hq : 6 * q + 5 < L) (hL : L ≤ 3072) (H : INV σ) (ok : OK σ) (kk : ∀ σ2, INV σ2 → OK σ2 → At p l e room_1 s m args below meth c cl sl g 7 Q 1917 (lvL g b q) [] σ2) : At p l e room_1 s m args below meth c cl sl g 7 Q 1804 (lvL g b q) [] σ := by
  obtain ⟨r, σ1, σ2, a1, a2, a3⟩ := s_chance (N := N) hN H (xs (6 * q + 1)).toInt (xs (6 * q + 2)).toInt (xs (6 * q + 3)).toInt (inR_t _)
  refine at_aload_n (pc := 1804) C 3 dL_law_1804 rfl rfl ?_
  refine at_arg (pc := 1805) (k := 6 * q + 1) C X dL_law_1805 dL_law_1806 dL_law_1808 dL_law_1809 dL_law_1810 (by rw [ja_eq ⟨by omega, by omega⟩]; omega) (by omega) hL ?_
  refine at_arg (pc := 1811) (k := 6 * q + 2) C X dL_law_1811 dL_law_1812 dL_law_1814 dL_law_1815 dL_law_1816 (by rw [ja_eq ⟨by omega, by omega⟩]; omega) (by omega) hL ?_
  refine at_arg (pc := 1817) (k := 6 * q + 3) C X dL_law_1817 dL_law_1818 dL_law_1820 dL_law_1821 dL_law_1822 (by rw [ja_eq ⟨by omega, by omega⟩]; omega) (by omega) hL ?_
  refine at_callV (pc := 1823) (ci := 11) C (c_X11_chance l g N _ _ _ σ _ (inR_t _) (inR_t _) (inR_t _) ok a1) kv_X11_chance wl_209 kd0 rfl rfl rfl rfl (Nat.le_of_ble_eq_true rfl) ⟨rfl, rfl, Nat.le_of_ble_eq_true rfl, Nat.le_of_ble_eq_true rfl⟩ dL_law_1823 (fun h1 ok1 => ?_)
  refine at_aload_n (pc := 1826) C 2 dL_law_1826 rfl rfl ?_
  refine at_arg (pc := 1827) (k := 6 * q + 1) C X dL_law_1827 dL_law_1828 dL_law_1830 dL_law_1831 dL_law_1832 (by rw [ja_eq ⟨by omega, by omega⟩]; omega) (by omega) hL ?_
  refine at_arg (pc := 1833) (k := 6 * q + 2) C X dL_law_1833 dL_law_1834 dL_law_1836 dL_law_1837 dL_law_1838 (by rw [ja_eq ⟨by omega, by omega⟩]; omega) (by omega) hL ?_
  refine at_arg (pc := 1839) (k := 6 * q + 3) C X dL_law_1839 dL_law_1840 dL_law_1842 dL_law_1843 dL_law_1844 (by rw [ja_eq ⟨by omega, by omega⟩]; omega) (by omega) hL ?_
  refine at_callV (pc := 1845) (ci := 12) C (c_X12_chance l g N _ _ _ σ1 _ (inR_t _) (inR_t _) (inR_t _) ok1 a2) kv_X12_chance wl_212 kd94 rfl rfl rfl rfl (Nat.le_of_ble_eq_true rfl) ⟨rfl, rfl, Nat.le_of_ble_eq_true rfl, Nat.le_of_ble_eq_true rfl⟩ dL_law_1845 (fun h2 ok2 => ?_)
  exact at_icmp_eq (pc := 1848) (tgt := 1917) C h1 h2 dL_law_1848 (by decide) (fun _ => kk σ2 a3 ok2) (fun z => absurd rfl z)
theorem lc_45 (hN : BigN N) (C : Cx p room_1 s m args c cl sl cL_law RL 7 g) (X : SX s g b L xs) {q : Nat} (hq : 6 * q + 5 < L) (hL : L ≤ 3072) (H : INV σ) (ok : OK σ) (kk : ∀ σ2, INV σ2 → OK σ2 → At p l e room_1 s m args below meth c cl sl g 7 Q 1917 (lvL g b q) [] σ2) : At p l e room_1 s m args below meth c cl sl g 7 Q 1853 (lvL g b q) [] σ := by
  obtain ⟨r, σ1, σ2, a1, a2, a3⟩ := s_undo (N := N) hN H 
  refine at_aload_n (pc := 1853) C 3 dL_law_1853 rfl rfl ?_
  refine at_callV (pc := 1854) (ci := 11) C (c_X11_undo l g N  σ _  ok a1) kv_X11_undo wl_213 kd0 rfl rfl rfl rfl (Nat.le_of_ble_eq_true rfl) ⟨rfl, rfl, Nat.le_of_ble_eq_true rfl, Nat.le_of_ble_eq_true rfl⟩ dL_law_1854 (fun h1 ok1 => ?_)
  refine at_aload_n (pc := 1857) C 2 dL_law_1857 rfl rfl ?_
  refine at_callV (pc := 1858) (ci := 12) C (c_X12_undo l g N  σ1 _  ok1 a2) kv_X12_undo wl_216 kd94 rfl rfl rfl rfl (Nat.le_of_ble_eq_true rfl) ⟨rfl, rfl, Nat.le_of_ble_eq_true rfl, Nat.le_of_ble_eq_true rfl⟩ dL_law_1858 (fun h2 ok2 => ?_)
  exact at_icmp_eq (pc := 1861) (tgt := 1917) C h1 h2 dL_law_1861 (by decide) (fun _ => kk σ2 a3 ok2) (fun z => absurd rfl z)
theorem lc_46 (hN : BigN N) (C : Cx p room_1 s m args c cl sl cL_law RL 7 g) (X : SX s g b L xs) {q : Nat} (hq : 6 * q + 5 < L) (hL : L ≤ 3072) (H : INV σ) (ok : OK σ) (kk : ∀ σ2, INV σ2 → OK σ2 → At p l e room_1 s m args below meth c cl sl g 7 Q 1917 (lvL g b q) [] σ2) : At p l e room_1 s m args below meth c cl sl g 7 Q 1866 (lvL g b q) [] σ := by
  obtain ⟨r, σ1, σ2, a1, a2, a3⟩ := s_keep (N := N) hN H 
  refine at_aload_n (pc := 1866) C 3 dL_law_1866 rfl rfl ?_
  refine at_callV (pc := 1867) (ci := 11) C (c_X11_keep l g N  σ _  ok a1) kv_X11_keep wl_217 kd0 rfl rfl rfl rfl (Nat.le_of_ble_eq_true rfl) ⟨rfl, rfl, Nat.le_of_ble_eq_true rfl, Nat.le_of_ble_eq_true rfl⟩ dL_law_1867 (fun h1 ok1 => ?_)
  refine at_aload_n (pc := 1870) C 2 dL_law_1870 rfl rfl ?_
  refine at_callV (pc := 1871) (ci := 12) C (c_X12_keep l g N  σ1 _  ok1 a2) kv_X12_keep wl_220 kd94 rfl rfl rfl rfl (Nat.le_of_ble_eq_true rfl) ⟨rfl, rfl, Nat.le_of_ble_eq_true rfl, Nat.le_of_ble_eq_true rfl⟩ dL_law_1871 (fun h2 ok2 => ?_)
  exact at_icmp_eq (pc := 1874) (tgt := 1917) C h1 h2 dL_law_1874 (by decide) (fun _ => kk σ2 a3 ok2) (fun z => absurd rfl z)
theorem lc_47 (hN : BigN N) (C : Cx p room_1 s m args c cl sl cL_law RL 7 g) (X : SX s g b L xs) {q : Nat} (hq : 6 * q + 5 < L) (hL : L ≤ 3072) (H : INV σ) (ok : OK σ) (kk : ∀ σ2, INV σ2 → OK σ2 → At p l e room_1 s m args below meth c cl sl g 7 Q 1917 (lvL g b q) [] σ2) : At p l e room_1 s m args below meth c cl sl g 7 Q 1879 (lvL g b q) [] σ := by
  obtain ⟨r, σ1, σ2, a1, a2, a3⟩ := s_back (N := N) hN H 
  refine at_aload_n (pc := 1879) C 3 dL_law_1879 rfl rfl ?_
  refine at_callV (pc := 1880) (ci := 11) C (c_X11_back l g N  σ _  ok a1) kv_X11_back wl_221 kd0 rfl rfl rfl rfl (Nat.le_of_ble_eq_true rfl) ⟨rfl, rfl, Nat.le_of_ble_eq_true rfl, Nat.le_of_ble_eq_true rfl⟩ dL_law_1880 (fun h1 ok1 => ?_)
  refine at_aload_n (pc := 1883) C 2 dL_law_1883 rfl rfl ?_
  refine at_callV (pc := 1884) (ci := 12) C (c_X12_back l g N  σ1 _  ok1 a2) kv_X12_back wl_224 kd94 rfl rfl rfl rfl (Nat.le_of_ble_eq_true rfl) ⟨rfl, rfl, Nat.le_of_ble_eq_true rfl, Nat.le_of_ble_eq_true rfl⟩ dL_law_1884 (fun h2 ok2 => ?_)
  exact at_icmp_eq (pc := 1887) (tgt := 1917) C h1 h2 dL_law_1887 (by decide) (fun _ => kk σ2 a3 ok2) (fun z => absurd rfl z)
theorem lc_48 (hN : BigN N) (C : Cx p room_1 s m args c cl sl cL_law RL 7 g) (X : SX s g b L xs) {q : Nat} (hq : 6 * q + 5 < L) (hL : L ≤ 3072) (H : INV σ) (ok : OK σ) (kk : ∀ σ2, INV σ2 → OK σ2 → At p l e room_1 s m args below meth c cl sl g 7 Q 1917 (lvL g b q) [] σ2) : At p l e room_1 s m args below meth c cl sl g 7 Q 1892 (lvL g b q) [] σ := by
  obtain ⟨r, σ2, a1, a2, a3⟩ := s_count (N := N) hN H (xs (6 * q + 1)).toInt
  refine at_aload_n (pc := 1892) C 3 dL_law_1892 rfl rfl ?_
  refine at_arg (pc := 1893) (k := 6 * q + 1) C X dL_law_1893 dL_law_1894 dL_law_1896 dL_law_1897 dL_law_1898 (by rw [ja_eq ⟨by omega, by omega⟩]; omega) (by omega) hL ?_
  refine at_callV (pc := 1899) (ci := 11) C (c_X11_count l g N _ σ _ (inR_t _) ok a1) kv_X11_count wl_225 kd0 rfl rfl rfl rfl (Nat.le_of_ble_eq_true rfl) ⟨rfl, rfl, Nat.le_of_ble_eq_true rfl, Nat.le_of_ble_eq_true rfl⟩ dL_law_1899 (fun h1 ok1 => ?_)
  refine at_aload_n (pc := 1902) C 2 dL_law_1902 rfl rfl ?_
  refine at_arg (pc := 1903) (k := 6 * q + 1) C X dL_law_1903 dL_law_1904 dL_law_1906 dL_law_1907 dL_law_1908 (by rw [ja_eq ⟨by omega, by omega⟩]; omega) (by omega) hL ?_
  refine at_callV (pc := 1909) (ci := 12) C (c_X12_count l g N _ σ _ (inR_t _) ok1 a2) kv_X12_count wl_228 kd94 rfl rfl rfl rfl (Nat.le_of_ble_eq_true rfl) ⟨rfl, rfl, Nat.le_of_ble_eq_true rfl, Nat.le_of_ble_eq_true rfl⟩ dL_law_1909 (fun h2 ok2 => ?_)
  exact at_icmp_eq (pc := 1912) (tgt := 1917) C h1 h2 dL_law_1912 (by decide) (fun _ => kk σ2 a3 ok2) (fun z => absurd rfl z)
end LAW
