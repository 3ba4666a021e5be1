def nestL : List Cond := [.methodLinkNest RX11 9 yX8_init RX11, .methodLinkNest RX11 18 yX0_init RX11, .methodLinkNest RX0 35 yX7_init RX11, .methodLinkNest RX11 28 yX5_init RX11, .methodLinkNest RX11 35 yX2_init RX11, .methodLinkNest RX11 42 yX3_init RX11, .methodLinkNest RX3 11 yX5_init RX11, .methodLinkNest RX3 20 yX7_init RX11, .methodLinkNest RX11 49 yX10_init RX11, .methodLinkNest RX11 56 yX4_init RX11, .methodLinkNest RX11 63 yX6_init RX11, .methodLinkNest RX11 70 yX1_init RX11, .methodLinkNest RX11 77 yX9_init RX11]
theorem nestL_ok : ∀ w ∈ nestL, isNest w := by
  intro w hw
  unfold nestL at hw
  simp only [List.mem_cons, List.not_mem_nil, or_false] at hw
  rcases hw with rfl | rfl | rfl | rfl | rfl | rfl | rfl | rfl | rfl | rfl | rfl | rfl | rfl <;> exact ⟨_, _, _, _, rfl⟩
theorem oi_i : Cond.instanceMethod Lib.objectInit ∈ lwg := lwt1 (i := 29) (by decide +kernel) (by decide +kernel)
theorem oi_c : Cond.code Lib.objectInit ⟨#[0xb1]⟩ 1 none ∈ lwg := lwt1 (i := 30) (by decide +kernel) (by decide +kernel)
theorem ar_int : Cond.arrayClass .int ∈ lwg := lwt1 (i := 114) (by decide +kernel) (by decide +kernel)
theorem ar_byte : Cond.arrayClass .byte ∈ lwg := lwt1 (i := 75) (by decide +kernel) (by decide +kernel)
theorem ar_float : Cond.arrayClass .float ∈ lwg := lwt2 (i := 52) (by decide +kernel) (by decide +kernel)
theorem ar_long : Cond.arrayClass .long ∈ lwg := lwt8 (i := 141) (by decide +kernel) (by decide +kernel)
theorem ob_0_3 : Cond.methodLink RX0 3 Lib.objectInit ∈ lwg := lwt1 (i := 81) (by decide +kernel) (by decide +kernel)
theorem ob_1_3 : Cond.methodLink RX1 3 Lib.objectInit ∈ lwg := lwt2 (i := 91) (by decide +kernel) (by decide +kernel)
theorem ob_2_3 : Cond.methodLink RX2 3 Lib.objectInit ∈ lwg := lwt1 (i := 227) (by decide +kernel) (by decide +kernel)
theorem ob_3_3 : Cond.methodLink RX3 3 Lib.objectInit ∈ lwg := lwt2 (i := 2) (by decide +kernel) (by decide +kernel)
theorem ob_4_3 : Cond.methodLink RX4 3 Lib.objectInit ∈ lwg := lwt2 (i := 58) (by decide +kernel) (by decide +kernel)
theorem ob_5_3 : Cond.methodLink RX5 3 Lib.objectInit ∈ lwg := lwt1 (i := 200) (by decide +kernel) (by decide +kernel)
theorem ob_6_3 : Cond.methodLink RX6 3 Lib.objectInit ∈ lwg := lwt2 (i := 74) (by decide +kernel) (by decide +kernel)
theorem ob_7_3 : Cond.methodLink RX7 3 Lib.objectInit ∈ lwg := lwt1 (i := 87) (by decide +kernel) (by decide +kernel)
theorem ob_8_3 : Cond.methodLink RX8 3 Lib.objectInit ∈ lwg := lwt1 (i := 36) (by decide +kernel) (by decide +kernel)
theorem ob_9_3 : Cond.methodLink RX9 3 Lib.objectInit ∈ lwg := lwt2 (i := 147) (by decide +kernel) (by decide +kernel)
theorem ob_10_3 : Cond.methodLink RX10 3 Lib.objectInit ∈ lwg := lwt2 (i := 29) (by decide +kernel) (by decide +kernel)
theorem ob_11_1 : Cond.methodLink RX11 1 Lib.objectInit ∈ lwg := lwt1 (i := 28) (by decide +kernel) (by decide +kernel)
theorem fn_0_33 : FN RX0 33 7 5 [.null, .null, .null, .null, .int 0] := ⟨RX7, TX7, tyX7, rfl, inw7, tyX7_ok, lwt1 (i := 82) (by decide +kernel) (by decide +kernel), lwt1 (i := 83) (by decide +kernel) (by decide +kernel), lwt1 (i := 4) (by decide +kernel) (by decide +kernel), by
  intro j hj
  match j, hj with
  | 0, _ => rfl
  | 1, _ => rfl
  | 2, _ => rfl
  | 3, _ => rfl
  | 4, _ => rfl
  | j + 5, hj => exact absurd hj (by omega)⟩
theorem fn_3_9 : FN RX3 9 5 4 [.null, .null, .null, .int 0] := ⟨RX5, TX5, tyX5, rfl, inw5, tyX5_ok, lwt2 (i := 3) (by decide +kernel) (by decide +kernel), lwt1 (i := 196) (by decide +kernel) (by decide +kernel), lwt1 (i := 5) (by decide +kernel) (by decide +kernel), by
  intro j hj
  match j, hj with
  | 0, _ => rfl
  | 1, _ => rfl
  | 2, _ => rfl
  | 3, _ => rfl
  | j + 4, hj => exact absurd hj (by omega)⟩
theorem fn_3_18 : FN RX3 18 7 5 [.null, .null, .null, .null, .int 0] := ⟨RX7, TX7, tyX7, rfl, inw7, tyX7_ok, lwt2 (i := 5) (by decide +kernel) (by decide +kernel), lwt1 (i := 83) (by decide +kernel) (by decide +kernel), lwt1 (i := 4) (by decide +kernel) (by decide +kernel), by
  intro j hj
  match j, hj with
  | 0, _ => rfl
  | 1, _ => rfl
  | 2, _ => rfl
  | 3, _ => rfl
  | 4, _ => rfl
  | j + 5, hj => exact absurd hj (by omega)⟩
theorem fn_11_7 : FN RX11 7 8 11 [.null, .int 0, .int 0, .int 0, .int 0, .int 0, .int 0, .int 0, .int 0, .int 0, .int 0] := ⟨RX8, TX8, tyX8, rfl, inw8, tyX8_ok, lwt1 (i := 31) (by decide +kernel) (by decide +kernel), lwt1 (i := 32) (by decide +kernel) (by decide +kernel), lwt1 (i := 2) (by decide +kernel) (by decide +kernel), by
  intro j hj
  match j, hj with
  | 0, _ => rfl
  | 1, _ => rfl
  | 2, _ => rfl
  | 3, _ => rfl
  | 4, _ => rfl
  | 5, _ => rfl
  | 6, _ => rfl
  | 7, _ => rfl
  | 8, _ => rfl
  | 9, _ => rfl
  | 10, _ => rfl
  | j + 11, hj => exact absurd hj (by omega)⟩
theorem fn_11_16 : FN RX11 16 0 14 [.null, .null, .null, .null, .null, .null, .null, .null, .int 0, .int 0, .int 0, .int 0, .int 0, .int 0] := ⟨RX0, TX0, tyX0, rfl, inw0, tyX0_ok, lwt1 (i := 76) (by decide +kernel) (by decide +kernel), lwt1 (i := 77) (by decide +kernel) (by decide +kernel), lwt1 (i := 3) (by decide +kernel) (by decide +kernel), by
  intro j hj
  match j, hj with
  | 0, _ => rfl
  | 1, _ => rfl
  | 2, _ => rfl
  | 3, _ => rfl
  | 4, _ => rfl
  | 5, _ => rfl
  | 6, _ => rfl
  | 7, _ => rfl
  | 8, _ => rfl
  | 9, _ => rfl
  | 10, _ => rfl
  | 11, _ => rfl
  | 12, _ => rfl
  | 13, _ => rfl
  | j + 14, hj => exact absurd hj (by omega)⟩
theorem fn_11_26 : FN RX11 26 5 4 [.null, .null, .null, .int 0] := ⟨RX5, TX5, tyX5, rfl, inw5, tyX5_ok, lwt1 (i := 195) (by decide +kernel) (by decide +kernel), lwt1 (i := 196) (by decide +kernel) (by decide +kernel), lwt1 (i := 5) (by decide +kernel) (by decide +kernel), by
  intro j hj
  match j, hj with
  | 0, _ => rfl
  | 1, _ => rfl
  | 2, _ => rfl
  | 3, _ => rfl
  | j + 4, hj => exact absurd hj (by omega)⟩
theorem fn_11_33 : FN RX11 33 2 2 [.null, .int 0] := ⟨RX2, TX2, tyX2, rfl, inw2, tyX2_ok, lwt1 (i := 222) (by decide +kernel) (by decide +kernel), lwt1 (i := 223) (by decide +kernel) (by decide +kernel), lwt1 (i := 6) (by decide +kernel) (by decide +kernel), by
  intro j hj
  match j, hj with
  | 0, _ => rfl
  | 1, _ => rfl
  | j + 2, hj => exact absurd hj (by omega)⟩
theorem fn_11_40 : FN RX11 40 3 4 [.null, .null, .null, .int 0] := ⟨RX3, TX3, tyX3, rfl, inw3, tyX3_ok, lwt1 (i := 237) (by decide +kernel) (by decide +kernel), lwt1 (i := 238) (by decide +kernel) (by decide +kernel), lwt1 (i := 7) (by decide +kernel) (by decide +kernel), by
  intro j hj
  match j, hj with
  | 0, _ => rfl
  | 1, _ => rfl
  | 2, _ => rfl
  | 3, _ => rfl
  | j + 4, hj => exact absurd hj (by omega)⟩
theorem fn_11_47 : FN RX11 47 10 6 [.null, .null, .null, .null, .null, .int 0] := ⟨RX10, TX10, tyX10, rfl, inw10, tyX10_ok, lwt2 (i := 24) (by decide +kernel) (by decide +kernel), lwt2 (i := 25) (by decide +kernel) (by decide +kernel), lwt1 (i := 8) (by decide +kernel) (by decide +kernel), by
  intro j hj
  match j, hj with
  | 0, _ => rfl
  | 1, _ => rfl
  | 2, _ => rfl
  | 3, _ => rfl
  | 4, _ => rfl
  | 5, _ => rfl
  | j + 6, hj => exact absurd hj (by omega)⟩
theorem fn_11_54 : FN RX11 54 4 3 [.null, .null, .int 0] := ⟨RX4, TX4, tyX4, rfl, inw4, tyX4_ok, lwt2 (i := 53) (by decide +kernel) (by decide +kernel), lwt2 (i := 54) (by decide +kernel) (by decide +kernel), lwt1 (i := 9) (by decide +kernel) (by decide +kernel), by
  intro j hj
  match j, hj with
  | 0, _ => rfl
  | 1, _ => rfl
  | 2, _ => rfl
  | j + 3, hj => exact absurd hj (by omega)⟩
theorem fn_11_61 : FN RX11 61 6 2 [.null, .null] := ⟨RX6, TX6, tyX6, rfl, inw6, tyX6_ok, lwt2 (i := 69) (by decide +kernel) (by decide +kernel), lwt2 (i := 70) (by decide +kernel) (by decide +kernel), lwt1 (i := 10) (by decide +kernel) (by decide +kernel), by
  intro j hj
  match j, hj with
  | 0, _ => rfl
  | 1, _ => rfl
  | j + 2, hj => exact absurd hj (by omega)⟩
theorem fn_11_68 : FN RX11 68 1 14 [.null, .null, .null, .null, .null, .null, .null, .null, .null, .int 0, .int 0, .int 0, .int 0, .int 0] := ⟨RX1, TX1, tyX1, rfl, inw1, tyX1_ok, lwt2 (i := 86) (by decide +kernel) (by decide +kernel), lwt2 (i := 87) (by decide +kernel) (by decide +kernel), lwt1 (i := 11) (by decide +kernel) (by decide +kernel), by
  intro j hj
  match j, hj with
  | 0, _ => rfl
  | 1, _ => rfl
  | 2, _ => rfl
  | 3, _ => rfl
  | 4, _ => rfl
  | 5, _ => rfl
  | 6, _ => rfl
  | 7, _ => rfl
  | 8, _ => rfl
  | 9, _ => rfl
  | 10, _ => rfl
  | 11, _ => rfl
  | 12, _ => rfl
  | 13, _ => rfl
  | j + 14, hj => exact absurd hj (by omega)⟩
theorem fn_11_75 : FN RX11 75 9 5 [.null, .null, .null, .null, .int 0] := ⟨RX9, TX9, tyX9, rfl, inw9, tyX9_ok, lwt2 (i := 142) (by decide +kernel) (by decide +kernel), lwt2 (i := 143) (by decide +kernel) (by decide +kernel), lwt1 (i := 12) (by decide +kernel) (by decide +kernel), by
  intro j hj
  match j, hj with
  | 0, _ => rfl
  | 1, _ => rfl
  | 2, _ => rfl
  | 3, _ => rfl
  | 4, _ => rfl
  | j + 5, hj => exact absurd hj (by omega)⟩
theorem fuf_0_9 : FUF RX0 9 0 0 (.array .int) := ⟨RX0, TX0, 14, tyX0, rfl, by decide, inw0, lwt1 (i := 115) (by decide +kernel) rfl, tyX0_ok, nmX0, rfl, rfl, by decide +kernel⟩
theorem fuf_0_15 : FUF RX0 15 0 1 (.array .int) := ⟨RX0, TX0, 14, tyX0, rfl, by decide, inw0, lwt1 (i := 117) (by decide +kernel) rfl, tyX0_ok, nmX0, rfl, rfl, by decide +kernel⟩
theorem fuf_0_18 : FUF RX0 18 0 2 (.array .int) := ⟨RX0, TX0, 14, tyX0, rfl, by decide, inw0, lwt1 (i := 120) (by decide +kernel) rfl, tyX0_ok, nmX0, rfl, rfl, by decide +kernel⟩
theorem fuf_0_21 : FUF RX0 21 0 3 (.array .int) := ⟨RX0, TX0, 14, tyX0, rfl, by decide, inw0, lwt1 (i := 123) (by decide +kernel) rfl, tyX0_ok, nmX0, rfl, rfl, by decide +kernel⟩
theorem fuf_0_24 : FUF RX0 24 0 4 (.array .int) := ⟨RX0, TX0, 14, tyX0, rfl, by decide, inw0, lwt1 (i := 127) (by decide +kernel) rfl, tyX0_ok, nmX0, rfl, rfl, by decide +kernel⟩
theorem fuf_0_27 : FUF RX0 27 0 5 (.array .int) := ⟨RX0, TX0, 14, tyX0, rfl, by decide, inw0, lwt1 (i := 130) (by decide +kernel) rfl, tyX0_ok, nmX0, rfl, rfl, by decide +kernel⟩
theorem fuf_0_30 : FUF RX0 30 0 6 (.array .int) := ⟨RX0, TX0, 14, tyX0, rfl, by decide, inw0, lwt1 (i := 134) (by decide +kernel) rfl, tyX0_ok, nmX0, rfl, rfl, by decide +kernel⟩
theorem fuf_0_36 : FUF RX0 36 0 7 (.object "ReliefDesk$Parts") := ⟨RX0, TX0, 14, tyX0, rfl, by decide, inw0, lwt1 (i := 139) (by decide +kernel) rfl, tyX0_ok, nmX0, rfl, rfl, by decide +kernel⟩
theorem fuf_1_9 : FUF RX1 9 1 0 (.array .int) := ⟨RX1, TX1, 14, tyX1, rfl, by decide, inw1, lwt2 (i := 92) (by decide +kernel) rfl, tyX1_ok, nmX1, rfl, rfl, by decide +kernel⟩
theorem fuf_1_15 : FUF RX1 15 1 1 (.array .int) := ⟨RX1, TX1, 14, tyX1, rfl, by decide, inw1, lwt2 (i := 93) (by decide +kernel) rfl, tyX1_ok, nmX1, rfl, rfl, by decide +kernel⟩
theorem fuf_1_18 : FUF RX1 18 1 2 (.array .int) := ⟨RX1, TX1, 14, tyX1, rfl, by decide, inw1, lwt2 (i := 95) (by decide +kernel) rfl, tyX1_ok, nmX1, rfl, rfl, by decide +kernel⟩
theorem fuf_1_21 : FUF RX1 21 1 3 (.array .int) := ⟨RX1, TX1, 14, tyX1, rfl, by decide, inw1, lwt2 (i := 97) (by decide +kernel) rfl, tyX1_ok, nmX1, rfl, rfl, by decide +kernel⟩
theorem fuf_1_24 : FUF RX1 24 1 4 (.array .int) := ⟨RX1, TX1, 14, tyX1, rfl, by decide, inw1, lwt2 (i := 98) (by decide +kernel) rfl, tyX1_ok, nmX1, rfl, rfl, by decide +kernel⟩
theorem fuf_1_27 : FUF RX1 27 1 5 (.array .int) := ⟨RX1, TX1, 14, tyX1, rfl, by decide, inw1, lwt2 (i := 100) (by decide +kernel) rfl, tyX1_ok, nmX1, rfl, rfl, by decide +kernel⟩
theorem fuf_1_30 : FUF RX1 30 1 6 (.array .int) := ⟨RX1, TX1, 14, tyX1, rfl, by decide, inw1, lwt2 (i := 101) (by decide +kernel) rfl, tyX1_ok, nmX1, rfl, rfl, by decide +kernel⟩
theorem fuf_1_33 : FUF RX1 33 1 7 (.array .int) := ⟨RX1, TX1, 14, tyX1, rfl, by decide, inw1, lwt2 (i := 102) (by decide +kernel) rfl, tyX1_ok, nmX1, rfl, rfl, by decide +kernel⟩
theorem fuf_1_36 : FUF RX1 36 1 8 (.array .int) := ⟨RX1, TX1, 14, tyX1, rfl, by decide, inw1, lwt2 (i := 103) (by decide +kernel) rfl, tyX1_ok, nmX1, rfl, rfl, by decide +kernel⟩
theorem fuf_2_11 : FUF RX2 11 2 0 (.array .int) := ⟨RX2, TX2, 2, tyX2, rfl, by decide, inw2, lwt1 (i := 228) (by decide +kernel) rfl, tyX2_ok, nmX2, rfl, rfl, by decide +kernel⟩
theorem fuf_3_12 : FUF RX3 12 3 0 (.object "ReliefDesk$Ledger") := ⟨RX3, TX3, 4, tyX3, rfl, by decide, inw3, lwt2 (i := 7) (by decide +kernel) rfl, tyX3_ok, nmX3, rfl, rfl, by decide +kernel⟩
theorem fuf_3_21 : FUF RX3 21 3 1 (.object "ReliefDesk$Parts") := ⟨RX3, TX3, 4, tyX3, rfl, by decide, inw3, lwt2 (i := 9) (by decide +kernel) rfl, tyX3_ok, nmX3, rfl, rfl, by decide +kernel⟩
theorem fuf_3_25 : FUF RX3 25 3 2 (.array .int) := ⟨RX3, TX3, 4, tyX3, rfl, by decide, inw3, lwt2 (i := 11) (by decide +kernel) rfl, tyX3_ok, nmX3, rfl, rfl, by decide +kernel⟩
theorem fuf_4_9 : FUF RX4 9 4 0 (.array .int) := ⟨RX4, TX4, 3, tyX4, rfl, by decide, inw4, lwt2 (i := 59) (by decide +kernel) rfl, tyX4_ok, nmX4, rfl, rfl, by decide +kernel⟩
theorem fuf_4_15 : FUF RX4 15 4 1 (.array .int) := ⟨RX4, TX4, 3, tyX4, rfl, by decide, inw4, lwt2 (i := 60) (by decide +kernel) rfl, tyX4_ok, nmX4, rfl, rfl, by decide +kernel⟩
theorem fuf_5_9 : FUF RX5 9 5 0 (.array .int) := ⟨RX5, TX5, 4, tyX5, rfl, by decide, inw5, lwt1 (i := 201) (by decide +kernel) rfl, tyX5_ok, nmX5, rfl, rfl, by decide +kernel⟩
theorem fuf_5_15 : FUF RX5 15 5 1 (.array .int) := ⟨RX5, TX5, 4, tyX5, rfl, by decide, inw5, lwt1 (i := 204) (by decide +kernel) rfl, tyX5_ok, nmX5, rfl, rfl, by decide +kernel⟩
theorem fuf_5_18 : FUF RX5 18 5 2 (.array .int) := ⟨RX5, TX5, 4, tyX5, rfl, by decide, inw5, lwt1 (i := 207) (by decide +kernel) rfl, tyX5_ok, nmX5, rfl, rfl, by decide +kernel⟩
theorem fuf_6_9 : FUF RX6 9 6 0 (.array .int) := ⟨RX6, TX6, 2, tyX6, rfl, by decide, inw6, lwt2 (i := 75) (by decide +kernel) rfl, tyX6_ok, nmX6, rfl, rfl, by decide +kernel⟩
theorem fuf_6_15 : FUF RX6 15 6 1 (.array .int) := ⟨RX6, TX6, 2, tyX6, rfl, by decide, inw6, lwt2 (i := 78) (by decide +kernel) rfl, tyX6_ok, nmX6, rfl, rfl, by decide +kernel⟩
theorem fuf_7_9 : FUF RX7 9 7 0 (.array .int) := ⟨RX7, TX7, 5, tyX7, rfl, by decide, inw7, lwt1 (i := 88) (by decide +kernel) rfl, tyX7_ok, nmX7, rfl, rfl, by decide +kernel⟩
theorem fuf_7_15 : FUF RX7 15 7 1 (.array .int) := ⟨RX7, TX7, 5, tyX7, rfl, by decide, inw7, lwt1 (i := 90) (by decide +kernel) rfl, tyX7_ok, nmX7, rfl, rfl, by decide +kernel⟩
theorem fuf_7_18 : FUF RX7 18 7 2 (.array .int) := ⟨RX7, TX7, 5, tyX7, rfl, by decide, inw7, lwt1 (i := 92) (by decide +kernel) rfl, tyX7_ok, nmX7, rfl, rfl, by decide +kernel⟩
theorem fuf_7_21 : FUF RX7 21 7 3 (.array .int) := ⟨RX7, TX7, 5, tyX7, rfl, by decide, inw7, lwt1 (i := 94) (by decide +kernel) rfl, tyX7_ok, nmX7, rfl, rfl, by decide +kernel⟩
theorem fuf_8_9 : FUF RX8 9 8 0 (.array .byte) := ⟨RX8, TX8, 11, tyX8, rfl, by decide, inw8, lwt1 (i := 37) (by decide +kernel) rfl, tyX8_ok, nmX8, rfl, rfl, by decide +kernel⟩
theorem fuf_9_9 : FUF RX9 9 9 0 (.array .int) := ⟨RX9, TX9, 5, tyX9, rfl, by decide, inw9, lwt2 (i := 148) (by decide +kernel) rfl, tyX9_ok, nmX9, rfl, rfl, by decide +kernel⟩
theorem fuf_9_15 : FUF RX9 15 9 1 (.array .int) := ⟨RX9, TX9, 5, tyX9, rfl, by decide, inw9, lwt2 (i := 150) (by decide +kernel) rfl, tyX9_ok, nmX9, rfl, rfl, by decide +kernel⟩
theorem fuf_9_18 : FUF RX9 18 9 2 (.array .int) := ⟨RX9, TX9, 5, tyX9, rfl, by decide, inw9, lwt2 (i := 152) (by decide +kernel) rfl, tyX9_ok, nmX9, rfl, rfl, by decide +kernel⟩
theorem fuf_9_21 : FUF RX9 21 9 3 (.array .int) := ⟨RX9, TX9, 5, tyX9, rfl, by decide, inw9, lwt2 (i := 154) (by decide +kernel) rfl, tyX9_ok, nmX9, rfl, rfl, by decide +kernel⟩
theorem fuf_10_9 : FUF RX10 9 10 0 (.array .int) := ⟨RX10, TX10, 6, tyX10, rfl, by decide, inw10, lwt2 (i := 30) (by decide +kernel) rfl, tyX10_ok, nmX10, rfl, rfl, by decide +kernel⟩
theorem fuf_10_15 : FUF RX10 15 10 1 (.array .int) := ⟨RX10, TX10, 6, tyX10, rfl, by decide, inw10, lwt2 (i := 32) (by decide +kernel) rfl, tyX10_ok, nmX10, rfl, rfl, by decide +kernel⟩
theorem fuf_10_18 : FUF RX10 18 10 2 (.array .float) := ⟨RX10, TX10, 6, tyX10, rfl, by decide, inw10, lwt2 (i := 33) (by decide +kernel) rfl, tyX10_ok, nmX10, rfl, rfl, by decide +kernel⟩
theorem fuf_10_22 : FUF RX10 22 10 3 (.array .int) := ⟨RX10, TX10, 6, tyX10, rfl, by decide, inw10, lwt2 (i := 35) (by decide +kernel) rfl, tyX10_ok, nmX10, rfl, rfl, by decide +kernel⟩
theorem fuf_10_25 : FUF RX10 25 10 4 (.array .int) := ⟨RX10, TX10, 6, tyX10, rfl, by decide, inw10, lwt2 (i := 37) (by decide +kernel) rfl, tyX10_ok, nmX10, rfl, rfl, by decide +kernel⟩
theorem fuf_11_10 : FUF RX11 10 11 0 (.object "ReliefDesk$Reader") := ⟨RX11, TX11, 18, tyX11, rfl, by decide, inw11, lwt2 (i := 169) (by decide +kernel) rfl, tyX11_ok, nmX11, rfl, rfl, by decide +kernel⟩
theorem fuf_11_29 : FUF RX11 29 11 3 (.object "ReliefDesk$Ledger") := ⟨RX11, TX11, 18, tyX11, rfl, by decide, inw11, lwt2 (i := 172) (by decide +kernel) rfl, tyX11_ok, nmX11, rfl, rfl, by decide +kernel⟩
theorem fuf_11_36 : FUF RX11 36 11 4 (.object "ReliefDesk$History") := ⟨RX11, TX11, 18, tyX11, rfl, by decide, inw11, lwt2 (i := 173) (by decide +kernel) rfl, tyX11_ok, nmX11, rfl, rfl, by decide +kernel⟩
theorem fuf_11_43 : FUF RX11 43 11 5 (.object "ReliefDesk$Image") := ⟨RX11, TX11, 18, tyX11, rfl, by decide, inw11, lwt2 (i := 174) (by decide +kernel) rfl, tyX11_ok, nmX11, rfl, rfl, by decide +kernel⟩
theorem fuf_11_50 : FUF RX11 50 11 6 (.object "ReliefDesk$Shares") := ⟨RX11, TX11, 18, tyX11, rfl, by decide, inw11, lwt2 (i := 175) (by decide +kernel) rfl, tyX11_ok, nmX11, rfl, rfl, by decide +kernel⟩
theorem fuf_11_57 : FUF RX11 57 11 7 (.object "ReliefDesk$Kin") := ⟨RX11, TX11, 18, tyX11, rfl, by decide, inw11, lwt2 (i := 176) (by decide +kernel) rfl, tyX11_ok, nmX11, rfl, rfl, by decide +kernel⟩
theorem fuf_11_64 : FUF RX11 64 11 8 (.object "ReliefDesk$Net") := ⟨RX11, TX11, 18, tyX11, rfl, by decide, inw11, lwt2 (i := 177) (by decide +kernel) rfl, tyX11_ok, nmX11, rfl, rfl, by decide +kernel⟩
theorem fuf_11_71 : FUF RX11 71 11 9 (.object "ReliefDesk$Flow") := ⟨RX11, TX11, 18, tyX11, rfl, by decide, inw11, lwt2 (i := 178) (by decide +kernel) rfl, tyX11_ok, nmX11, rfl, rfl, by decide +kernel⟩
theorem fuf_11_78 : FUF RX11 78 11 10 (.object "ReliefDesk$Settling") := ⟨RX11, TX11, 18, tyX11, rfl, by decide, inw11, lwt2 (i := 179) (by decide +kernel) rfl, tyX11_ok, nmX11, rfl, rfl, by decide +kernel⟩
theorem fuf_11_82 : FUF RX11 82 11 11 (.object "ReliefDesk$Ledger") := ⟨RX11, TX11, 18, tyX11, rfl, by decide, inw11, lwt2 (i := 180) (by decide +kernel) rfl, tyX11_ok, nmX11, rfl, rfl, by decide +kernel⟩
theorem fuf_11_85 : FUF RX11 85 11 12 (.object "ReliefDesk$Kin") := ⟨RX11, TX11, 18, tyX11, rfl, by decide, inw11, lwt2 (i := 181) (by decide +kernel) rfl, tyX11_ok, nmX11, rfl, rfl, by decide +kernel⟩
theorem fuf_11_88 : FUF RX11 88 11 13 (.object "ReliefDesk$Net") := ⟨RX11, TX11, 18, tyX11, rfl, by decide, inw11, lwt2 (i := 182) (by decide +kernel) rfl, tyX11_ok, nmX11, rfl, rfl, by decide +kernel⟩
theorem fuf_11_91 : FUF RX11 91 11 14 (.object "ReliefDesk$Flow") := ⟨RX11, TX11, 18, tyX11, rfl, by decide, inw11, lwt2 (i := 183) (by decide +kernel) rfl, tyX11_ok, nmX11, rfl, rfl, by decide +kernel⟩
theorem fuf_11_94 : FUF RX11 94 11 15 (.array .int) := ⟨RX11, TX11, 18, tyX11, rfl, by decide, inw11, lwt2 (i := 184) (by decide +kernel) rfl, tyX11_ok, nmX11, rfl, rfl, by decide +kernel⟩
theorem fu_3_29 : FU RX3 29 3 3 .boolean := ⟨RX3, TX3, 4, tyX3, rfl, by decide, inw3, lwt2 (i := 13) (by decide +kernel) rfl, tyX3_ok, nmX3, rfl, by decide +kernel⟩
theorem ki_0_35 : KI RX0 35 yX7_init cX7_init 1 := ⟨by decide +kernel, rfl, lwt1 (i := 86) (by decide +kernel) (by decide +kernel), lwt1 (i := 85) (by decide +kernel) (by decide +kernel), lwt1 (i := 4) (by decide +kernel) (by decide +kernel)⟩
theorem ki_3_11 : KI RX3 11 yX5_init cX5_init 1 := ⟨by decide +kernel, rfl, lwt1 (i := 199) (by decide +kernel) (by decide +kernel), lwt1 (i := 198) (by decide +kernel) (by decide +kernel), lwt1 (i := 5) (by decide +kernel) (by decide +kernel)⟩
theorem ki_3_20 : KI RX3 20 yX7_init cX7_init 1 := ⟨by decide +kernel, rfl, lwt1 (i := 86) (by decide +kernel) (by decide +kernel), lwt1 (i := 85) (by decide +kernel) (by decide +kernel), lwt1 (i := 4) (by decide +kernel) (by decide +kernel)⟩
theorem ki_11_9 : KI RX11 9 yX8_init cX8_init 1 := ⟨by decide +kernel, rfl, lwt1 (i := 35) (by decide +kernel) (by decide +kernel), lwt1 (i := 34) (by decide +kernel) (by decide +kernel), lwt1 (i := 2) (by decide +kernel) (by decide +kernel)⟩
theorem ki_11_18 : KI RX11 18 yX0_init cX0_init 1 := ⟨by decide +kernel, rfl, lwt1 (i := 80) (by decide +kernel) (by decide +kernel), lwt1 (i := 79) (by decide +kernel) (by decide +kernel), lwt1 (i := 3) (by decide +kernel) (by decide +kernel)⟩
theorem ki_11_28 : KI RX11 28 yX5_init cX5_init 1 := ⟨by decide +kernel, rfl, lwt1 (i := 199) (by decide +kernel) (by decide +kernel), lwt1 (i := 198) (by decide +kernel) (by decide +kernel), lwt1 (i := 5) (by decide +kernel) (by decide +kernel)⟩
theorem ki_11_35 : KI RX11 35 yX2_init cX2_init 1 := ⟨by decide +kernel, rfl, lwt1 (i := 226) (by decide +kernel) (by decide +kernel), lwt1 (i := 225) (by decide +kernel) (by decide +kernel), lwt1 (i := 6) (by decide +kernel) (by decide +kernel)⟩
theorem ki_11_42 : KI RX11 42 yX3_init cX3_init 1 := ⟨by decide +kernel, rfl, lwt2 (i := 1) (by decide +kernel) (by decide +kernel), lwt2 (i := 0) (by decide +kernel) (by decide +kernel), lwt1 (i := 7) (by decide +kernel) (by decide +kernel)⟩
theorem ki_11_49 : KI RX11 49 yX10_init cX10_init 1 := ⟨by decide +kernel, rfl, lwt2 (i := 28) (by decide +kernel) (by decide +kernel), lwt2 (i := 27) (by decide +kernel) (by decide +kernel), lwt1 (i := 8) (by decide +kernel) (by decide +kernel)⟩
theorem ki_11_56 : KI RX11 56 yX4_init cX4_init 1 := ⟨by decide +kernel, rfl, lwt2 (i := 57) (by decide +kernel) (by decide +kernel), lwt2 (i := 56) (by decide +kernel) (by decide +kernel), lwt1 (i := 9) (by decide +kernel) (by decide +kernel)⟩
theorem ki_11_63 : KI RX11 63 yX6_init cX6_init 1 := ⟨by decide +kernel, rfl, lwt2 (i := 73) (by decide +kernel) (by decide +kernel), lwt2 (i := 72) (by decide +kernel) (by decide +kernel), lwt1 (i := 10) (by decide +kernel) (by decide +kernel)⟩
theorem ki_11_70 : KI RX11 70 yX1_init cX1_init 1 := ⟨by decide +kernel, rfl, lwt2 (i := 90) (by decide +kernel) (by decide +kernel), lwt2 (i := 89) (by decide +kernel) (by decide +kernel), lwt1 (i := 11) (by decide +kernel) (by decide +kernel)⟩
theorem ki_11_77 : KI RX11 77 yX9_init cX9_init 1 := ⟨by decide +kernel, rfl, lwt2 (i := 146) (by decide +kernel) (by decide +kernel), lwt2 (i := 145) (by decide +kernel) (by decide +kernel), lwt1 (i := 12) (by decide +kernel) (by decide +kernel)⟩
abbrev wX7 (g : Geo) (a : Nat → Nat) : va_W := [(a 0, .inr (7, [.ref (a 1), .ref (a 2), .ref (a 3), .ref (a 4), vi 0])), (a 1, .inl (g.2.1.1, 24, .inl (fun _ => 0))), (a 2, .inl (g.2.1.1, 24, .inl (fun _ => 0))), (a 3, .inl (g.2.1.1, 24, .inl (fun _ => 0))), (a 4, .inl (g.2.1.1, 24, .inl (fun _ => 0)))]
abbrev rn_X7 : Room := { frames := 1, cells := 4, slots := 96, locals := 20 }
set_option maxHeartbeats 4000000 in
set_option maxRecDepth 100000 in
theorem n_X7_init (l : Launch) (g : Geo) : MtN nestL l g yX7_init cX7_init 1 rn_X7 7 [.null, .null, .null, .null, .int 0] (wX7 g) 4 96 := by
  refine MtN.of (own := RX7) (by decide +kernel) rfl rfl (Nat.le_refl 1) ?_
  intro h0 p e s m args below meth c C hr hlk hN
  refine ac_aload_n (pc := 0) C 0 dX7_init_0 rfl rfl ?_
  refine ac_obj (pc := 1) C ob_7_3 oi_i oi_c ⟨Nat.le_of_ble_eq_true rfl, Nat.le_of_ble_eq_true rfl⟩ dX7_init_1 ?_
  refine ac_aload_n (pc := 4) C 0 dX7_init_4 rfl rfl ?_
  refine ac_bipush (pc := 5) C dX7_init_5 (by decide) ?_
  refine ac_newa (pc := 7) (atype := .int) (ty := .int) (cA := g.2.1.1) (a0 := (24, .inl (fun _ => 0))) (N' := 24) (cl' := 1) (sl' := 24) C 0 rfl (Or.inl rfl) ar_int rfl (fun _ => rfl) rfl (Nat.le_of_ble_eq_true rfl) rfl rfl ⟨Nat.le_of_ble_eq_true rfl, Nat.le_of_ble_eq_true rfl⟩ dX7_init_7 (fun q1 => ?_)
  show AtC p l e _ s m args below meth c g _ _ _ 1 24 9 _ _ ([(h0, .inr (7, [.null, .null, .null, .null, .int 0])), (q1, .inl (g.2.1.1, 24, .inl (fun _ => 0)))])
  refine ac_putF (pc := 9) (ws' := [(h0, .inr (7, [.ref q1, .null, .null, .null, .int 0])), (q1, .inl (g.2.1.1, 24, .inl (fun _ => 0)))]) C 0 fuf_7_9 rfl rfl rfl (Nat.le_of_ble_eq_true rfl) rfl dX7_init_9 ?_
  refine ac_aload_n (pc := 12) C 0 dX7_init_12 rfl rfl ?_
  refine ac_bipush (pc := 13) C dX7_init_13 (by decide) ?_
  refine ac_newa (pc := 15) (atype := .int) (ty := .int) (cA := g.2.1.1) (a0 := (24, .inl (fun _ => 0))) (N' := 24) (cl' := 2) (sl' := 48) C 0 rfl (Or.inl rfl) ar_int rfl (fun _ => rfl) rfl (Nat.le_of_ble_eq_true rfl) rfl rfl ⟨Nat.le_of_ble_eq_true rfl, Nat.le_of_ble_eq_true rfl⟩ dX7_init_15 (fun q2 => ?_)
  show AtC p l e _ s m args below meth c g _ _ _ 2 48 17 _ _ ([(h0, .inr (7, [.ref q1, .null, .null, .null, .int 0])), (q1, .inl (g.2.1.1, 24, .inl (fun _ => 0))), (q2, .inl (g.2.1.1, 24, .inl (fun _ => 0)))])
  refine ac_putF (pc := 17) (ws' := [(h0, .inr (7, [.ref q1, .ref q2, .null, .null, .int 0])), (q1, .inl (g.2.1.1, 24, .inl (fun _ => 0))), (q2, .inl (g.2.1.1, 24, .inl (fun _ => 0)))]) C 0 fuf_7_15 rfl rfl rfl (Nat.le_of_ble_eq_true rfl) rfl dX7_init_17 ?_
  refine ac_aload_n (pc := 20) C 0 dX7_init_20 rfl rfl ?_
  refine ac_bipush (pc := 21) C dX7_init_21 (by decide) ?_
  refine ac_newa (pc := 23) (atype := .int) (ty := .int) (cA := g.2.1.1) (a0 := (24, .inl (fun _ => 0))) (N' := 24) (cl' := 3) (sl' := 72) C 0 rfl (Or.inl rfl) ar_int rfl (fun _ => rfl) rfl (Nat.le_of_ble_eq_true rfl) rfl rfl ⟨Nat.le_of_ble_eq_true rfl, Nat.le_of_ble_eq_true rfl⟩ dX7_init_23 (fun q3 => ?_)
  show AtC p l e _ s m args below meth c g _ _ _ 3 72 25 _ _ ([(h0, .inr (7, [.ref q1, .ref q2, .null, .null, .int 0])), (q1, .inl (g.2.1.1, 24, .inl (fun _ => 0))), (q2, .inl (g.2.1.1, 24, .inl (fun _ => 0))), (q3, .inl (g.2.1.1, 24, .inl (fun _ => 0)))])
  refine ac_putF (pc := 25) (ws' := [(h0, .inr (7, [.ref q1, .ref q2, .ref q3, .null, .int 0])), (q1, .inl (g.2.1.1, 24, .inl (fun _ => 0))), (q2, .inl (g.2.1.1, 24, .inl (fun _ => 0))), (q3, .inl (g.2.1.1, 24, .inl (fun _ => 0)))]) C 0 fuf_7_18 rfl rfl rfl (Nat.le_of_ble_eq_true rfl) rfl dX7_init_25 ?_
  refine ac_aload_n (pc := 28) C 0 dX7_init_28 rfl rfl ?_
  refine ac_bipush (pc := 29) C dX7_init_29 (by decide) ?_
  refine ac_newa (pc := 31) (atype := .int) (ty := .int) (cA := g.2.1.1) (a0 := (24, .inl (fun _ => 0))) (N' := 24) (cl' := 4) (sl' := 96) C 0 rfl (Or.inl rfl) ar_int rfl (fun _ => rfl) rfl (Nat.le_of_ble_eq_true rfl) rfl rfl ⟨Nat.le_of_ble_eq_true rfl, Nat.le_of_ble_eq_true rfl⟩ dX7_init_31 (fun q4 => ?_)
  show AtC p l e _ s m args below meth c g _ _ _ 4 96 33 _ _ ([(h0, .inr (7, [.ref q1, .ref q2, .ref q3, .null, .int 0])), (q1, .inl (g.2.1.1, 24, .inl (fun _ => 0))), (q2, .inl (g.2.1.1, 24, .inl (fun _ => 0))), (q3, .inl (g.2.1.1, 24, .inl (fun _ => 0))), (q4, .inl (g.2.1.1, 24, .inl (fun _ => 0)))])
  refine ac_putF (pc := 33) (ws' := [(h0, .inr (7, [.ref q1, .ref q2, .ref q3, .ref q4, .int 0])), (q1, .inl (g.2.1.1, 24, .inl (fun _ => 0))), (q2, .inl (g.2.1.1, 24, .inl (fun _ => 0))), (q3, .inl (g.2.1.1, 24, .inl (fun _ => 0))), (q4, .inl (g.2.1.1, 24, .inl (fun _ => 0)))]) C 0 fuf_7_21 rfl rfl rfl (Nat.le_of_ble_eq_true rfl) rfl dX7_init_33 ?_
  refine ac_aload_n (pc := 36) C 0 dX7_init_36 rfl rfl ?_
  refine ac_iconst (pc := 37) C dX7_init_37 ?_
  refine ac_put (pc := 38) (ws' := [(h0, .inr (7, [.ref q1, .ref q2, .ref q3, .ref q4, vi 0])), (q1, .inl (g.2.1.1, 24, .inl (fun _ => 0))), (q2, .inl (g.2.1.1, 24, .inl (fun _ => 0))), (q3, .inl (g.2.1.1, 24, .inl (fun _ => 0))), (q4, .inl (g.2.1.1, 24, .inl (fun _ => 0)))]) C 0 fu_7_24 rfl rfl rfl (Nat.le_of_ble_eq_true rfl) rfl dX7_init_38 ?_
  exact ac_ret (pc := 41) C hr hlk (fun i => ([h0, q1, q2, q3, q4] : List Nat).getD i 0) rfl rfl dX7_init_41
abbrev wX1 (g : Geo) (a : Nat → Nat) : va_W := [(a 0, .inr (1, [.ref (a 1), .ref (a 2), .ref (a 3), .ref (a 4), .ref (a 5), .ref (a 6), .ref (a 7), .ref (a 8), .ref (a 9), vi 0, vi 0, vi 0, vi 0, vi 0])), (a 1, .inl (g.2.1.1, 12, .inl (fun _ => 0))), (a 2, .inl (g.2.1.1, 12, .inl (fun _ => 0))), (a 3, .inl (g.2.1.1, 144, .inl (fun _ => 0))), (a 4, .inl (g.2.1.1, 144, .inl (fun _ => 0))), (a 5, .inl (g.2.1.1, 144, .inl (fun _ => 0))), (a 6, .inl (g.2.1.1, 12, .inl (fun _ => 0))), (a 7, .inl (g.2.1.1, 12, .inl (fun _ => 0))), (a 8, .inl (g.2.1.1, 12, .inl (fun _ => 0))), (a 9, .inl (g.2.1.1, 12, .inl (fun _ => 0)))]
abbrev rn_X1 : Room := { frames := 1, cells := 9, slots := 504, locals := 20 }
set_option maxHeartbeats 4000000 in
set_option maxRecDepth 100000 in
theorem n_X1_init (l : Launch) (g : Geo) : MtN nestL l g yX1_init cX1_init 1 rn_X1 1 [.null, .null, .null, .null, .null, .null, .null, .null, .null, .int 0, .int 0, .int 0, .int 0, .int 0] (wX1 g) 9 504 := by
  refine MtN.of (own := RX1) (by decide +kernel) rfl rfl (Nat.le_refl 1) ?_
  intro h0 p e s m args below meth c C hr hlk hN
  refine ac_aload_n (pc := 0) C 0 dX1_init_0 rfl rfl ?_
  refine ac_obj (pc := 1) C ob_1_3 oi_i oi_c ⟨Nat.le_of_ble_eq_true rfl, Nat.le_of_ble_eq_true rfl⟩ dX1_init_1 ?_
  refine ac_aload_n (pc := 4) C 0 dX1_init_4 rfl rfl ?_
  refine ac_bipush (pc := 5) C dX1_init_5 (by decide) ?_
  refine ac_newa (pc := 7) (atype := .int) (ty := .int) (cA := g.2.1.1) (a0 := (12, .inl (fun _ => 0))) (N' := 12) (cl' := 1) (sl' := 12) C 0 rfl (Or.inl rfl) ar_int rfl (fun _ => rfl) rfl (Nat.le_of_ble_eq_true rfl) rfl rfl ⟨Nat.le_of_ble_eq_true rfl, Nat.le_of_ble_eq_true rfl⟩ dX1_init_7 (fun q1 => ?_)
  show AtC p l e _ s m args below meth c g _ _ _ 1 12 9 _ _ ([(h0, .inr (1, [.null, .null, .null, .null, .null, .null, .null, .null, .null, .int 0, .int 0, .int 0, .int 0, .int 0])), (q1, .inl (g.2.1.1, 12, .inl (fun _ => 0)))])
  refine ac_putF (pc := 9) (ws' := [(h0, .inr (1, [.ref q1, .null, .null, .null, .null, .null, .null, .null, .null, .int 0, .int 0, .int 0, .int 0, .int 0])), (q1, .inl (g.2.1.1, 12, .inl (fun _ => 0)))]) C 0 fuf_1_9 rfl rfl rfl (Nat.le_of_ble_eq_true rfl) rfl dX1_init_9 ?_
  refine ac_aload_n (pc := 12) C 0 dX1_init_12 rfl rfl ?_
  refine ac_bipush (pc := 13) C dX1_init_13 (by decide) ?_
  refine ac_newa (pc := 15) (atype := .int) (ty := .int) (cA := g.2.1.1) (a0 := (12, .inl (fun _ => 0))) (N' := 12) (cl' := 2) (sl' := 24) C 0 rfl (Or.inl rfl) ar_int rfl (fun _ => rfl) rfl (Nat.le_of_ble_eq_true rfl) rfl rfl ⟨Nat.le_of_ble_eq_true rfl, Nat.le_of_ble_eq_true rfl⟩ dX1_init_15 (fun q2 => ?_)
  show AtC p l e _ s m args below meth c g _ _ _ 2 24 17 _ _ ([(h0, .inr (1, [.ref q1, .null, .null, .null, .null, .null, .null, .null, .null, .int 0, .int 0, .int 0, .int 0, .int 0])), (q1, .inl (g.2.1.1, 12, .inl (fun _ => 0))), (q2, .inl (g.2.1.1, 12, .inl (fun _ => 0)))])
  refine ac_putF (pc := 17) (ws' := [(h0, .inr (1, [.ref q1, .ref q2, .null, .null, .null, .null, .null, .null, .null, .int 0, .int 0, .int 0, .int 0, .int 0])), (q1, .inl (g.2.1.1, 12, .inl (fun _ => 0))), (q2, .inl (g.2.1.1, 12, .inl (fun _ => 0)))]) C 0 fuf_1_15 rfl rfl rfl (Nat.le_of_ble_eq_true rfl) rfl dX1_init_17 ?_
  refine ac_aload_n (pc := 20) C 0 dX1_init_20 rfl rfl ?_
  refine ac_sipush (pc := 21) C dX1_init_21 (by decide) ?_
  refine ac_newa (pc := 24) (atype := .int) (ty := .int) (cA := g.2.1.1) (a0 := (144, .inl (fun _ => 0))) (N' := 144) (cl' := 3) (sl' := 168) C 0 rfl (Or.inl rfl) ar_int rfl (fun _ => rfl) rfl (Nat.le_of_ble_eq_true rfl) rfl rfl ⟨Nat.le_of_ble_eq_true rfl, Nat.le_of_ble_eq_true rfl⟩ dX1_init_24 (fun q3 => ?_)
  show AtC p l e _ s m args below meth c g _ _ _ 3 168 26 _ _ ([(h0, .inr (1, [.ref q1, .ref q2, .null, .null, .null, .null, .null, .null, .null, .int 0, .int 0, .int 0, .int 0, .int 0])), (q1, .inl (g.2.1.1, 12, .inl (fun _ => 0))), (q2, .inl (g.2.1.1, 12, .inl (fun _ => 0))), (q3, .inl (g.2.1.1, 144, .inl (fun _ => 0)))])
  refine ac_putF (pc := 26) (ws' := [(h0, .inr (1, [.ref q1, .ref q2, .ref q3, .null, .null, .null, .null, .null, .null, .int 0, .int 0, .int 0, .int 0, .int 0])), (q1, .inl (g.2.1.1, 12, .inl (fun _ => 0))), (q2, .inl (g.2.1.1, 12, .inl (fun _ => 0))), (q3, .inl (g.2.1.1, 144, .inl (fun _ => 0)))]) C 0 fuf_1_18 rfl rfl rfl (Nat.le_of_ble_eq_true rfl) rfl dX1_init_26 ?_
  refine ac_aload_n (pc := 29) C 0 dX1_init_29 rfl rfl ?_
  refine ac_sipush (pc := 30) C dX1_init_30 (by decide) ?_
  refine ac_newa (pc := 33) (atype := .int) (ty := .int) (cA := g.2.1.1) (a0 := (144, .inl (fun _ => 0))) (N' := 144) (cl' := 4) (sl' := 312) C 0 rfl (Or.inl rfl) ar_int rfl (fun _ => rfl) rfl (Nat.le_of_ble_eq_true rfl) rfl rfl ⟨Nat.le_of_ble_eq_true rfl, Nat.le_of_ble_eq_true rfl⟩ dX1_init_33 (fun q4 => ?_)
  show AtC p l e _ s m args below meth c g _ _ _ 4 312 35 _ _ ([(h0, .inr (1, [.ref q1, .ref q2, .ref q3, .null, .null, .null, .null, .null, .null, .int 0, .int 0, .int 0, .int 0, .int 0])), (q1, .inl (g.2.1.1, 12, .inl (fun _ => 0))), (q2, .inl (g.2.1.1, 12, .inl (fun _ => 0))), (q3, .inl (g.2.1.1, 144, .inl (fun _ => 0))), (q4, .inl (g.2.1.1, 144, .inl (fun _ => 0)))])
  refine ac_putF (pc := 35) (ws' := [(h0, .inr (1, [.ref q1, .ref q2, .ref q3, .ref q4, .null, .null, .null, .null, .null, .int 0, .int 0, .int 0, .int 0, .int 0])), (q1, .inl (g.2.1.1, 12, .inl (fun _ => 0))), (q2, .inl (g.2.1.1, 12, .inl (fun _ => 0))), (q3, .inl (g.2.1.1, 144, .inl (fun _ => 0))), (q4, .inl (g.2.1.1, 144, .inl (fun _ => 0)))]) C 0 fuf_1_21 rfl rfl rfl (Nat.le_of_ble_eq_true rfl) rfl dX1_init_35 ?_
  refine ac_aload_n (pc := 38) C 0 dX1_init_38 rfl rfl ?_
  refine ac_sipush (pc := 39) C dX1_init_39 (by decide) ?_
  refine ac_newa (pc := 42) (atype := .int) (ty := .int) (cA := g.2.1.1) (a0 := (144, .inl (fun _ => 0))) (N' := 144) (cl' := 5) (sl' := 456) C 0 rfl (Or.inl rfl) ar_int rfl (fun _ => rfl) rfl (Nat.le_of_ble_eq_true rfl) rfl rfl ⟨Nat.le_of_ble_eq_true rfl, Nat.le_of_ble_eq_true rfl⟩ dX1_init_42 (fun q5 => ?_)
  show AtC p l e _ s m args below meth c g _ _ _ 5 456 44 _ _ ([(h0, .inr (1, [.ref q1, .ref q2, .ref q3, .ref q4, .null, .null, .null, .null, .null, .int 0, .int 0, .int 0, .int 0, .int 0])), (q1, .inl (g.2.1.1, 12, .inl (fun _ => 0))), (q2, .inl (g.2.1.1, 12, .inl (fun _ => 0))), (q3, .inl (g.2.1.1, 144, .inl (fun _ => 0))), (q4, .inl (g.2.1.1, 144, .inl (fun _ => 0))), (q5, .inl (g.2.1.1, 144, .inl (fun _ => 0)))])
  refine ac_putF (pc := 44) (ws' := [(h0, .inr (1, [.ref q1, .ref q2, .ref q3, .ref q4, .ref q5, .null, .null, .null, .null, .int 0, .int 0, .int 0, .int 0, .int 0])), (q1, .inl (g.2.1.1, 12, .inl (fun _ => 0))), (q2, .inl (g.2.1.1, 12, .inl (fun _ => 0))), (q3, .inl (g.2.1.1, 144, .inl (fun _ => 0))), (q4, .inl (g.2.1.1, 144, .inl (fun _ => 0))), (q5, .inl (g.2.1.1, 144, .inl (fun _ => 0)))]) C 0 fuf_1_24 rfl rfl rfl (Nat.le_of_ble_eq_true rfl) rfl dX1_init_44 ?_
  refine ac_aload_n (pc := 47) C 0 dX1_init_47 rfl rfl ?_
  refine ac_bipush (pc := 48) C dX1_init_48 (by decide) ?_
  refine ac_newa (pc := 50) (atype := .int) (ty := .int) (cA := g.2.1.1) (a0 := (12, .inl (fun _ => 0))) (N' := 12) (cl' := 6) (sl' := 468) C 0 rfl (Or.inl rfl) ar_int rfl (fun _ => rfl) rfl (Nat.le_of_ble_eq_true rfl) rfl rfl ⟨Nat.le_of_ble_eq_true rfl, Nat.le_of_ble_eq_true rfl⟩ dX1_init_50 (fun q6 => ?_)
  show AtC p l e _ s m args below meth c g _ _ _ 6 468 52 _ _ ([(h0, .inr (1, [.ref q1, .ref q2, .ref q3, .ref q4, .ref q5, .null, .null, .null, .null, .int 0, .int 0, .int 0, .int 0, .int 0])), (q1, .inl (g.2.1.1, 12, .inl (fun _ => 0))), (q2, .inl (g.2.1.1, 12, .inl (fun _ => 0))), (q3, .inl (g.2.1.1, 144, .inl (fun _ => 0))), (q4, .inl (g.2.1.1, 144, .inl (fun _ => 0))), (q5, .inl (g.2.1.1, 144, .inl (fun _ => 0))), (q6, .inl (g.2.1.1, 12, .inl (fun _ => 0)))])
  refine ac_putF (pc := 52) (ws' := [(h0, .inr (1, [.ref q1, .ref q2, .ref q3, .ref q4, .ref q5, .ref q6, .null, .null, .null, .int 0, .int 0, .int 0, .int 0, .int 0])), (q1, .inl (g.2.1.1, 12, .inl (fun _ => 0))), (q2, .inl (g.2.1.1, 12, .inl (fun _ => 0))), (q3, .inl (g.2.1.1, 144, .inl (fun _ => 0))), (q4, .inl (g.2.1.1, 144, .inl (fun _ => 0))), (q5, .inl (g.2.1.1, 144, .inl (fun _ => 0))), (q6, .inl (g.2.1.1, 12, .inl (fun _ => 0)))]) C 0 fuf_1_27 rfl rfl rfl (Nat.le_of_ble_eq_true rfl) rfl dX1_init_52 ?_
  refine ac_aload_n (pc := 55) C 0 dX1_init_55 rfl rfl ?_
  refine ac_bipush (pc := 56) C dX1_init_56 (by decide) ?_
  refine ac_newa (pc := 58) (atype := .int) (ty := .int) (cA := g.2.1.1) (a0 := (12, .inl (fun _ => 0))) (N' := 12) (cl' := 7) (sl' := 480) C 0 rfl (Or.inl rfl) ar_int rfl (fun _ => rfl) rfl (Nat.le_of_ble_eq_true rfl) rfl rfl ⟨Nat.le_of_ble_eq_true rfl, Nat.le_of_ble_eq_true rfl⟩ dX1_init_58 (fun q7 => ?_)
  show AtC p l e _ s m args below meth c g _ _ _ 7 480 60 _ _ ([(h0, .inr (1, [.ref q1, .ref q2, .ref q3, .ref q4, .ref q5, .ref q6, .null, .null, .null, .int 0, .int 0, .int 0, .int 0, .int 0])), (q1, .inl (g.2.1.1, 12, .inl (fun _ => 0))), (q2, .inl (g.2.1.1, 12, .inl (fun _ => 0))), (q3, .inl (g.2.1.1, 144, .inl (fun _ => 0))), (q4, .inl (g.2.1.1, 144, .inl (fun _ => 0))), (q5, .inl (g.2.1.1, 144, .inl (fun _ => 0))), (q6, .inl (g.2.1.1, 12, .inl (fun _ => 0))), (q7, .inl (g.2.1.1, 12, .inl (fun _ => 0)))])
  refine ac_putF (pc := 60) (ws' := [(h0, .inr (1, [.ref q1, .ref q2, .ref q3, .ref q4, .ref q5, .ref q6, .ref q7, .null, .null, .int 0, .int 0, .int 0, .int 0, .int 0])), (q1, .inl (g.2.1.1, 12, .inl (fun _ => 0))), (q2, .inl (g.2.1.1, 12, .inl (fun _ => 0))), (q3, .inl (g.2.1.1, 144, .inl (fun _ => 0))), (q4, .inl (g.2.1.1, 144, .inl (fun _ => 0))), (q5, .inl (g.2.1.1, 144, .inl (fun _ => 0))), (q6, .inl (g.2.1.1, 12, .inl (fun _ => 0))), (q7, .inl (g.2.1.1, 12, .inl (fun _ => 0)))]) C 0 fuf_1_30 rfl rfl rfl (Nat.le_of_ble_eq_true rfl) rfl dX1_init_60 ?_
  refine ac_aload_n (pc := 63) C 0 dX1_init_63 rfl rfl ?_
  refine ac_bipush (pc := 64) C dX1_init_64 (by decide) ?_
  refine ac_newa (pc := 66) (atype := .int) (ty := .int) (cA := g.2.1.1) (a0 := (12, .inl (fun _ => 0))) (N' := 12) (cl' := 8) (sl' := 492) C 0 rfl (Or.inl rfl) ar_int rfl (fun _ => rfl) rfl (Nat.le_of_ble_eq_true rfl) rfl rfl ⟨Nat.le_of_ble_eq_true rfl, Nat.le_of_ble_eq_true rfl⟩ dX1_init_66 (fun q8 => ?_)
  show AtC p l e _ s m args below meth c g _ _ _ 8 492 68 _ _ ([(h0, .inr (1, [.ref q1, .ref q2, .ref q3, .ref q4, .ref q5, .ref q6, .ref q7, .null, .null, .int 0, .int 0, .int 0, .int 0, .int 0])), (q1, .inl (g.2.1.1, 12, .inl (fun _ => 0))), (q2, .inl (g.2.1.1, 12, .inl (fun _ => 0))), (q3, .inl (g.2.1.1, 144, .inl (fun _ => 0))), (q4, .inl (g.2.1.1, 144, .inl (fun _ => 0))), (q5, .inl (g.2.1.1, 144, .inl (fun _ => 0))), (q6, .inl (g.2.1.1, 12, .inl (fun _ => 0))), (q7, .inl (g.2.1.1, 12, .inl (fun _ => 0))), (q8, .inl (g.2.1.1, 12, .inl (fun _ => 0)))])
  refine ac_putF (pc := 68) (ws' := [(h0, .inr (1, [.ref q1, .ref q2, .ref q3, .ref q4, .ref q5, .ref q6, .ref q7, .ref q8, .null, .int 0, .int 0, .int 0, .int 0, .int 0])), (q1, .inl (g.2.1.1, 12, .inl (fun _ => 0))), (q2, .inl (g.2.1.1, 12, .inl (fun _ => 0))), (q3, .inl (g.2.1.1, 144, .inl (fun _ => 0))), (q4, .inl (g.2.1.1, 144, .inl (fun _ => 0))), (q5, .inl (g.2.1.1, 144, .inl (fun _ => 0))), (q6, .inl (g.2.1.1, 12, .inl (fun _ => 0))), (q7, .inl (g.2.1.1, 12, .inl (fun _ => 0))), (q8, .inl (g.2.1.1, 12, .inl (fun _ => 0)))]) C 0 fuf_1_33 rfl rfl rfl (Nat.le_of_ble_eq_true rfl) rfl dX1_init_68 ?_
  refine ac_aload_n (pc := 71) C 0 dX1_init_71 rfl rfl ?_
  refine ac_bipush (pc := 72) C dX1_init_72 (by decide) ?_
  refine ac_newa (pc := 74) (atype := .int) (ty := .int) (cA := g.2.1.1) (a0 := (12, .inl (fun _ => 0))) (N' := 12) (cl' := 9) (sl' := 504) C 0 rfl (Or.inl rfl) ar_int rfl (fun _ => rfl) rfl (Nat.le_of_ble_eq_true rfl) rfl rfl ⟨Nat.le_of_ble_eq_true rfl, Nat.le_of_ble_eq_true rfl⟩ dX1_init_74 (fun q9 => ?_)
  show AtC p l e _ s m args below meth c g _ _ _ 9 504 76 _ _ ([(h0, .inr (1, [.ref q1, .ref q2, .ref q3, .ref q4, .ref q5, .ref q6, .ref q7, .ref q8, .null, .int 0, .int 0, .int 0, .int 0, .int 0])), (q1, .inl (g.2.1.1, 12, .inl (fun _ => 0))), (q2, .inl (g.2.1.1, 12, .inl (fun _ => 0))), (q3, .inl (g.2.1.1, 144, .inl (fun _ => 0))), (q4, .inl (g.2.1.1, 144, .inl (fun _ => 0))), (q5, .inl (g.2.1.1, 144, .inl (fun _ => 0))), (q6, .inl (g.2.1.1, 12, .inl (fun _ => 0))), (q7, .inl (g.2.1.1, 12, .inl (fun _ => 0))), (q8, .inl (g.2.1.1, 12, .inl (fun _ => 0))), (q9, .inl (g.2.1.1, 12, .inl (fun _ => 0)))])
  refine ac_putF (pc := 76) (ws' := [(h0, .inr (1, [.ref q1, .ref q2, .ref q3, .ref q4, .ref q5, .ref q6, .ref q7, .ref q8, .ref q9, .int 0, .int 0, .int 0, .int 0, .int 0])), (q1, .inl (g.2.1.1, 12, .inl (fun _ => 0))), (q2, .inl (g.2.1.1, 12, .inl (fun _ => 0))), (q3, .inl (g.2.1.1, 144, .inl (fun _ => 0))), (q4, .inl (g.2.1.1, 144, .inl (fun _ => 0))), (q5, .inl (g.2.1.1, 144, .inl (fun _ => 0))), (q6, .inl (g.2.1.1, 12, .inl (fun _ => 0))), (q7, .inl (g.2.1.1, 12, .inl (fun _ => 0))), (q8, .inl (g.2.1.1, 12, .inl (fun _ => 0))), (q9, .inl (g.2.1.1, 12, .inl (fun _ => 0)))]) C 0 fuf_1_36 rfl rfl rfl (Nat.le_of_ble_eq_true rfl) rfl dX1_init_76 ?_
  refine ac_aload_n (pc := 79) C 0 dX1_init_79 rfl rfl ?_
  refine ac_iconst (pc := 80) C dX1_init_80 ?_
  refine ac_put (pc := 81) (ws' := [(h0, .inr (1, [.ref q1, .ref q2, .ref q3, .ref q4, .ref q5, .ref q6, .ref q7, .ref q8, .ref q9, vi 0, .int 0, .int 0, .int 0, .int 0])), (q1, .inl (g.2.1.1, 12, .inl (fun _ => 0))), (q2, .inl (g.2.1.1, 12, .inl (fun _ => 0))), (q3, .inl (g.2.1.1, 144, .inl (fun _ => 0))), (q4, .inl (g.2.1.1, 144, .inl (fun _ => 0))), (q5, .inl (g.2.1.1, 144, .inl (fun _ => 0))), (q6, .inl (g.2.1.1, 12, .inl (fun _ => 0))), (q7, .inl (g.2.1.1, 12, .inl (fun _ => 0))), (q8, .inl (g.2.1.1, 12, .inl (fun _ => 0))), (q9, .inl (g.2.1.1, 12, .inl (fun _ => 0)))]) C 0 fu_1_39 rfl rfl rfl (Nat.le_of_ble_eq_true rfl) rfl dX1_init_81 ?_
  refine ac_aload_n (pc := 84) C 0 dX1_init_84 rfl rfl ?_
  refine ac_iconst (pc := 85) C dX1_init_85 ?_
  refine ac_put (pc := 86) (ws' := [(h0, .inr (1, [.ref q1, .ref q2, .ref q3, .ref q4, .ref q5, .ref q6, .ref q7, .ref q8, .ref q9, vi 0, vi 0, .int 0, .int 0, .int 0])), (q1, .inl (g.2.1.1, 12, .inl (fun _ => 0))), (q2, .inl (g.2.1.1, 12, .inl (fun _ => 0))), (q3, .inl (g.2.1.1, 144, .inl (fun _ => 0))), (q4, .inl (g.2.1.1, 144, .inl (fun _ => 0))), (q5, .inl (g.2.1.1, 144, .inl (fun _ => 0))), (q6, .inl (g.2.1.1, 12, .inl (fun _ => 0))), (q7, .inl (g.2.1.1, 12, .inl (fun _ => 0))), (q8, .inl (g.2.1.1, 12, .inl (fun _ => 0))), (q9, .inl (g.2.1.1, 12, .inl (fun _ => 0)))]) C 0 fu_1_43 rfl rfl rfl (Nat.le_of_ble_eq_true rfl) rfl dX1_init_86 ?_
  refine ac_aload_n (pc := 89) C 0 dX1_init_89 rfl rfl ?_
  refine ac_iconst (pc := 90) C dX1_init_90 ?_
  refine ac_put (pc := 91) (ws' := [(h0, .inr (1, [.ref q1, .ref q2, .ref q3, .ref q4, .ref q5, .ref q6, .ref q7, .ref q8, .ref q9, vi 0, vi 0, vi 0, .int 0, .int 0])), (q1, .inl (g.2.1.1, 12, .inl (fun _ => 0))), (q2, .inl (g.2.1.1, 12, .inl (fun _ => 0))), (q3, .inl (g.2.1.1, 144, .inl (fun _ => 0))), (q4, .inl (g.2.1.1, 144, .inl (fun _ => 0))), (q5, .inl (g.2.1.1, 144, .inl (fun _ => 0))), (q6, .inl (g.2.1.1, 12, .inl (fun _ => 0))), (q7, .inl (g.2.1.1, 12, .inl (fun _ => 0))), (q8, .inl (g.2.1.1, 12, .inl (fun _ => 0))), (q9, .inl (g.2.1.1, 12, .inl (fun _ => 0)))]) C 0 fu_1_46 rfl rfl rfl (Nat.le_of_ble_eq_true rfl) rfl dX1_init_91 ?_
  refine ac_aload_n (pc := 94) C 0 dX1_init_94 rfl rfl ?_
  refine ac_iconst (pc := 95) C dX1_init_95 ?_
  refine ac_put (pc := 96) (ws' := [(h0, .inr (1, [.ref q1, .ref q2, .ref q3, .ref q4, .ref q5, .ref q6, .ref q7, .ref q8, .ref q9, vi 0, vi 0, vi 0, vi 0, .int 0])), (q1, .inl (g.2.1.1, 12, .inl (fun _ => 0))), (q2, .inl (g.2.1.1, 12, .inl (fun _ => 0))), (q3, .inl (g.2.1.1, 144, .inl (fun _ => 0))), (q4, .inl (g.2.1.1, 144, .inl (fun _ => 0))), (q5, .inl (g.2.1.1, 144, .inl (fun _ => 0))), (q6, .inl (g.2.1.1, 12, .inl (fun _ => 0))), (q7, .inl (g.2.1.1, 12, .inl (fun _ => 0))), (q8, .inl (g.2.1.1, 12, .inl (fun _ => 0))), (q9, .inl (g.2.1.1, 12, .inl (fun _ => 0)))]) C 0 fu_1_49 rfl rfl rfl (Nat.le_of_ble_eq_true rfl) rfl dX1_init_96 ?_
  refine ac_aload_n (pc := 99) C 0 dX1_init_99 rfl rfl ?_
  refine ac_iconst (pc := 100) C dX1_init_100 ?_
  refine ac_put (pc := 101) (ws' := [(h0, .inr (1, [.ref q1, .ref q2, .ref q3, .ref q4, .ref q5, .ref q6, .ref q7, .ref q8, .ref q9, vi 0, vi 0, vi 0, vi 0, vi 0])), (q1, .inl (g.2.1.1, 12, .inl (fun _ => 0))), (q2, .inl (g.2.1.1, 12, .inl (fun _ => 0))), (q3, .inl (g.2.1.1, 144, .inl (fun _ => 0))), (q4, .inl (g.2.1.1, 144, .inl (fun _ => 0))), (q5, .inl (g.2.1.1, 144, .inl (fun _ => 0))), (q6, .inl (g.2.1.1, 12, .inl (fun _ => 0))), (q7, .inl (g.2.1.1, 12, .inl (fun _ => 0))), (q8, .inl (g.2.1.1, 12, .inl (fun _ => 0))), (q9, .inl (g.2.1.1, 12, .inl (fun _ => 0)))]) C 0 fu_1_52 rfl rfl rfl (Nat.le_of_ble_eq_true rfl) rfl dX1_init_101 ?_
  exact ac_ret (pc := 104) C hr hlk (fun i => ([h0, q1, q2, q3, q4, q5, q6, q7, q8, q9] : List Nat).getD i 0) rfl rfl dX1_init_104
abbrev wX2 (g : Geo) (a : Nat → Nat) : va_W := [(a 0, .inr (2, [.ref (a 1), vi 0])), (a 1, .inl (g.2.1.1, 100, .inl (fun _ => 0)))]
abbrev rn_X2 : Room := { frames := 1, cells := 1, slots := 100, locals := 20 }
set_option maxHeartbeats 4000000 in
set_option maxRecDepth 100000 in
theorem n_X2_init (l : Launch) (g : Geo) : MtN nestL l g yX2_init cX2_init 1 rn_X2 2 [.null, .int 0] (wX2 g) 1 100 := by
  refine MtN.of (own := RX2) (by decide +kernel) rfl rfl (Nat.le_refl 1) ?_
  intro h0 p e s m args below meth c C hr hlk hN
  refine ac_aload_n (pc := 0) C 0 dX2_init_0 rfl rfl ?_
  refine ac_obj (pc := 1) C ob_2_3 oi_i oi_c ⟨Nat.le_of_ble_eq_true rfl, Nat.le_of_ble_eq_true rfl⟩ dX2_init_1 ?_
  refine ac_aload_n (pc := 4) C 0 dX2_init_4 rfl rfl ?_
  refine ac_bipush (pc := 5) C dX2_init_5 (by decide) ?_
  refine ac_newa (pc := 7) (atype := .int) (ty := .int) (cA := g.2.1.1) (a0 := (100, .inl (fun _ => 0))) (N' := 100) (cl' := 1) (sl' := 100) C 0 rfl (Or.inl rfl) ar_int rfl (fun _ => rfl) rfl (Nat.le_of_ble_eq_true rfl) rfl rfl ⟨Nat.le_of_ble_eq_true rfl, Nat.le_of_ble_eq_true rfl⟩ dX2_init_7 (fun q1 => ?_)
  show AtC p l e _ s m args below meth c g _ _ _ 1 100 9 _ _ ([(h0, .inr (2, [.null, .int 0])), (q1, .inl (g.2.1.1, 100, .inl (fun _ => 0)))])
  refine ac_putF (pc := 9) (ws' := [(h0, .inr (2, [.ref q1, .int 0])), (q1, .inl (g.2.1.1, 100, .inl (fun _ => 0)))]) C 0 fuf_2_11 rfl rfl rfl (Nat.le_of_ble_eq_true rfl) rfl dX2_init_9 ?_
  refine ac_aload_n (pc := 12) C 0 dX2_init_12 rfl rfl ?_
  refine ac_iconst (pc := 13) C dX2_init_13 ?_
  refine ac_put (pc := 14) (ws' := [(h0, .inr (2, [.ref q1, vi 0])), (q1, .inl (g.2.1.1, 100, .inl (fun _ => 0)))]) C 0 fu_2_15 rfl rfl rfl (Nat.le_of_ble_eq_true rfl) rfl dX2_init_14 ?_
  exact ac_ret (pc := 17) C hr hlk (fun i => ([h0, q1] : List Nat).getD i 0) rfl rfl dX2_init_17
abbrev wX4 (g : Geo) (a : Nat → Nat) : va_W := [(a 0, .inr (4, [.ref (a 1), .ref (a 2), vi 0])), (a 1, .inl (g.2.1.1, 25, .inl (fun _ => 0))), (a 2, .inl (g.2.1.1, 200, .inl (fun _ => 0)))]
abbrev rn_X4 : Room := { frames := 1, cells := 2, slots := 225, locals := 20 }
set_option maxHeartbeats 4000000 in
set_option maxRecDepth 100000 in
theorem n_X4_init (l : Launch) (g : Geo) : MtN nestL l g yX4_init cX4_init 1 rn_X4 4 [.null, .null, .int 0] (wX4 g) 2 225 := by
  refine MtN.of (own := RX4) (by decide +kernel) rfl rfl (Nat.le_refl 1) ?_
  intro h0 p e s m args below meth c C hr hlk hN
  refine ac_aload_n (pc := 0) C 0 dX4_init_0 rfl rfl ?_
  refine ac_obj (pc := 1) C ob_4_3 oi_i oi_c ⟨Nat.le_of_ble_eq_true rfl, Nat.le_of_ble_eq_true rfl⟩ dX4_init_1 ?_
  refine ac_aload_n (pc := 4) C 0 dX4_init_4 rfl rfl ?_
  refine ac_bipush (pc := 5) C dX4_init_5 (by decide) ?_
  refine ac_newa (pc := 7) (atype := .int) (ty := .int) (cA := g.2.1.1) (a0 := (25, .inl (fun _ => 0))) (N' := 25) (cl' := 1) (sl' := 25) C 0 rfl (Or.inl rfl) ar_int rfl (fun _ => rfl) rfl (Nat.le_of_ble_eq_true rfl) rfl rfl ⟨Nat.le_of_ble_eq_true rfl, Nat.le_of_ble_eq_true rfl⟩ dX4_init_7 (fun q1 => ?_)
  show AtC p l e _ s m args below meth c g _ _ _ 1 25 9 _ _ ([(h0, .inr (4, [.null, .null, .int 0])), (q1, .inl (g.2.1.1, 25, .inl (fun _ => 0)))])
  refine ac_putF (pc := 9) (ws' := [(h0, .inr (4, [.ref q1, .null, .int 0])), (q1, .inl (g.2.1.1, 25, .inl (fun _ => 0)))]) C 0 fuf_4_9 rfl rfl rfl (Nat.le_of_ble_eq_true rfl) rfl dX4_init_9 ?_
  refine ac_aload_n (pc := 12) C 0 dX4_init_12 rfl rfl ?_
  refine ac_sipush (pc := 13) C dX4_init_13 (by decide) ?_
  refine ac_newa (pc := 16) (atype := .int) (ty := .int) (cA := g.2.1.1) (a0 := (200, .inl (fun _ => 0))) (N' := 200) (cl' := 2) (sl' := 225) C 0 rfl (Or.inl rfl) ar_int rfl (fun _ => rfl) rfl (Nat.le_of_ble_eq_true rfl) rfl rfl ⟨Nat.le_of_ble_eq_true rfl, Nat.le_of_ble_eq_true rfl⟩ dX4_init_16 (fun q2 => ?_)
  show AtC p l e _ s m args below meth c g _ _ _ 2 225 18 _ _ ([(h0, .inr (4, [.ref q1, .null, .int 0])), (q1, .inl (g.2.1.1, 25, .inl (fun _ => 0))), (q2, .inl (g.2.1.1, 200, .inl (fun _ => 0)))])
  refine ac_putF (pc := 18) (ws' := [(h0, .inr (4, [.ref q1, .ref q2, .int 0])), (q1, .inl (g.2.1.1, 25, .inl (fun _ => 0))), (q2, .inl (g.2.1.1, 200, .inl (fun _ => 0)))]) C 0 fuf_4_15 rfl rfl rfl (Nat.le_of_ble_eq_true rfl) rfl dX4_init_18 ?_
  refine ac_aload_n (pc := 21) C 0 dX4_init_21 rfl rfl ?_
  refine ac_iconst (pc := 22) C dX4_init_22 ?_
  refine ac_put (pc := 23) (ws' := [(h0, .inr (4, [.ref q1, .ref q2, vi 0])), (q1, .inl (g.2.1.1, 25, .inl (fun _ => 0))), (q2, .inl (g.2.1.1, 200, .inl (fun _ => 0)))]) C 0 fu_4_18 rfl rfl rfl (Nat.le_of_ble_eq_true rfl) rfl dX4_init_23 ?_
  exact ac_ret (pc := 26) C hr hlk (fun i => ([h0, q1, q2] : List Nat).getD i 0) rfl rfl dX4_init_26
abbrev wX5 (g : Geo) (a : Nat → Nat) : va_W := [(a 0, .inr (5, [.ref (a 1), .ref (a 2), .ref (a 3), vi 0])), (a 1, .inl (g.2.1.1, 30, .inl (fun _ => 0))), (a 2, .inl (g.2.1.1, 30, .inl (fun _ => 0))), (a 3, .inl (g.2.1.1, 30, .inl (fun _ => 0)))]
abbrev rn_X5 : Room := { frames := 1, cells := 3, slots := 90, locals := 20 }
set_option maxHeartbeats 4000000 in
set_option maxRecDepth 100000 in
theorem n_X5_init (l : Launch) (g : Geo) : MtN nestL l g yX5_init cX5_init 1 rn_X5 5 [.null, .null, .null, .int 0] (wX5 g) 3 90 := by
  refine MtN.of (own := RX5) (by decide +kernel) rfl rfl (Nat.le_refl 1) ?_
  intro h0 p e s m args below meth c C hr hlk hN
  refine ac_aload_n (pc := 0) C 0 dX5_init_0 rfl rfl ?_
  refine ac_obj (pc := 1) C ob_5_3 oi_i oi_c ⟨Nat.le_of_ble_eq_true rfl, Nat.le_of_ble_eq_true rfl⟩ dX5_init_1 ?_
  refine ac_aload_n (pc := 4) C 0 dX5_init_4 rfl rfl ?_
  refine ac_bipush (pc := 5) C dX5_init_5 (by decide) ?_
  refine ac_newa (pc := 7) (atype := .int) (ty := .int) (cA := g.2.1.1) (a0 := (30, .inl (fun _ => 0))) (N' := 30) (cl' := 1) (sl' := 30) C 0 rfl (Or.inl rfl) ar_int rfl (fun _ => rfl) rfl (Nat.le_of_ble_eq_true rfl) rfl rfl ⟨Nat.le_of_ble_eq_true rfl, Nat.le_of_ble_eq_true rfl⟩ dX5_init_7 (fun q1 => ?_)
  show AtC p l e _ s m args below meth c g _ _ _ 1 30 9 _ _ ([(h0, .inr (5, [.null, .null, .null, .int 0])), (q1, .inl (g.2.1.1, 30, .inl (fun _ => 0)))])
  refine ac_putF (pc := 9) (ws' := [(h0, .inr (5, [.ref q1, .null, .null, .int 0])), (q1, .inl (g.2.1.1, 30, .inl (fun _ => 0)))]) C 0 fuf_5_9 rfl rfl rfl (Nat.le_of_ble_eq_true rfl) rfl dX5_init_9 ?_
  refine ac_aload_n (pc := 12) C 0 dX5_init_12 rfl rfl ?_
  refine ac_bipush (pc := 13) C dX5_init_13 (by decide) ?_
  refine ac_newa (pc := 15) (atype := .int) (ty := .int) (cA := g.2.1.1) (a0 := (30, .inl (fun _ => 0))) (N' := 30) (cl' := 2) (sl' := 60) C 0 rfl (Or.inl rfl) ar_int rfl (fun _ => rfl) rfl (Nat.le_of_ble_eq_true rfl) rfl rfl ⟨Nat.le_of_ble_eq_true rfl, Nat.le_of_ble_eq_true rfl⟩ dX5_init_15 (fun q2 => ?_)
  show AtC p l e _ s m args below meth c g _ _ _ 2 60 17 _ _ ([(h0, .inr (5, [.ref q1, .null, .null, .int 0])), (q1, .inl (g.2.1.1, 30, .inl (fun _ => 0))), (q2, .inl (g.2.1.1, 30, .inl (fun _ => 0)))])
  refine ac_putF (pc := 17) (ws' := [(h0, .inr (5, [.ref q1, .ref q2, .null, .int 0])), (q1, .inl (g.2.1.1, 30, .inl (fun _ => 0))), (q2, .inl (g.2.1.1, 30, .inl (fun _ => 0)))]) C 0 fuf_5_15 rfl rfl rfl (Nat.le_of_ble_eq_true rfl) rfl dX5_init_17 ?_
  refine ac_aload_n (pc := 20) C 0 dX5_init_20 rfl rfl ?_
  refine ac_bipush (pc := 21) C dX5_init_21 (by decide) ?_
  refine ac_newa (pc := 23) (atype := .int) (ty := .int) (cA := g.2.1.1) (a0 := (30, .inl (fun _ => 0))) (N' := 30) (cl' := 3) (sl' := 90) C 0 rfl (Or.inl rfl) ar_int rfl (fun _ => rfl) rfl (Nat.le_of_ble_eq_true rfl) rfl rfl ⟨Nat.le_of_ble_eq_true rfl, Nat.le_of_ble_eq_true rfl⟩ dX5_init_23 (fun q3 => ?_)
  show AtC p l e _ s m args below meth c g _ _ _ 3 90 25 _ _ ([(h0, .inr (5, [.ref q1, .ref q2, .null, .int 0])), (q1, .inl (g.2.1.1, 30, .inl (fun _ => 0))), (q2, .inl (g.2.1.1, 30, .inl (fun _ => 0))), (q3, .inl (g.2.1.1, 30, .inl (fun _ => 0)))])
  refine ac_putF (pc := 25) (ws' := [(h0, .inr (5, [.ref q1, .ref q2, .ref q3, .int 0])), (q1, .inl (g.2.1.1, 30, .inl (fun _ => 0))), (q2, .inl (g.2.1.1, 30, .inl (fun _ => 0))), (q3, .inl (g.2.1.1, 30, .inl (fun _ => 0)))]) C 0 fuf_5_18 rfl rfl rfl (Nat.le_of_ble_eq_true rfl) rfl dX5_init_25 ?_
  refine ac_aload_n (pc := 28) C 0 dX5_init_28 rfl rfl ?_
  refine ac_iconst (pc := 29) C dX5_init_29 ?_
  refine ac_put (pc := 30) (ws' := [(h0, .inr (5, [.ref q1, .ref q2, .ref q3, vi 0])), (q1, .inl (g.2.1.1, 30, .inl (fun _ => 0))), (q2, .inl (g.2.1.1, 30, .inl (fun _ => 0))), (q3, .inl (g.2.1.1, 30, .inl (fun _ => 0)))]) C 0 fu_5_21 rfl rfl rfl (Nat.le_of_ble_eq_true rfl) rfl dX5_init_30 ?_
  exact ac_ret (pc := 33) C hr hlk (fun i => ([h0, q1, q2, q3] : List Nat).getD i 0) rfl rfl dX5_init_33
abbrev wX6 (g : Geo) (a : Nat → Nat) : va_W := [(a 0, .inr (6, [.ref (a 1), .ref (a 2)])), (a 1, .inl (g.2.1.1, 144, .inl (fun _ => 0))), (a 2, .inl (g.2.1.1, 144, .inl (fun _ => 0)))]
abbrev rn_X6 : Room := { frames := 1, cells := 2, slots := 288, locals := 20 }
set_option maxHeartbeats 4000000 in
set_option maxRecDepth 100000 in
theorem n_X6_init (l : Launch) (g : Geo) : MtN nestL l g yX6_init cX6_init 1 rn_X6 6 [.null, .null] (wX6 g) 2 288 := by
  refine MtN.of (own := RX6) (by decide +kernel) rfl rfl (Nat.le_refl 1) ?_
  intro h0 p e s m args below meth c C hr hlk hN
  refine ac_aload_n (pc := 0) C 0 dX6_init_0 rfl rfl ?_
  refine ac_obj (pc := 1) C ob_6_3 oi_i oi_c ⟨Nat.le_of_ble_eq_true rfl, Nat.le_of_ble_eq_true rfl⟩ dX6_init_1 ?_
  refine ac_aload_n (pc := 4) C 0 dX6_init_4 rfl rfl ?_
  refine ac_sipush (pc := 5) C dX6_init_5 (by decide) ?_
  refine ac_newa (pc := 8) (atype := .int) (ty := .int) (cA := g.2.1.1) (a0 := (144, .inl (fun _ => 0))) (N' := 144) (cl' := 1) (sl' := 144) C 0 rfl (Or.inl rfl) ar_int rfl (fun _ => rfl) rfl (Nat.le_of_ble_eq_true rfl) rfl rfl ⟨Nat.le_of_ble_eq_true rfl, Nat.le_of_ble_eq_true rfl⟩ dX6_init_8 (fun q1 => ?_)
  show AtC p l e _ s m args below meth c g _ _ _ 1 144 10 _ _ ([(h0, .inr (6, [.null, .null])), (q1, .inl (g.2.1.1, 144, .inl (fun _ => 0)))])
  refine ac_putF (pc := 10) (ws' := [(h0, .inr (6, [.ref q1, .null])), (q1, .inl (g.2.1.1, 144, .inl (fun _ => 0)))]) C 0 fuf_6_9 rfl rfl rfl (Nat.le_of_ble_eq_true rfl) rfl dX6_init_10 ?_
  refine ac_aload_n (pc := 13) C 0 dX6_init_13 rfl rfl ?_
  refine ac_sipush (pc := 14) C dX6_init_14 (by decide) ?_
  refine ac_newa (pc := 17) (atype := .int) (ty := .int) (cA := g.2.1.1) (a0 := (144, .inl (fun _ => 0))) (N' := 144) (cl' := 2) (sl' := 288) C 0 rfl (Or.inl rfl) ar_int rfl (fun _ => rfl) rfl (Nat.le_of_ble_eq_true rfl) rfl rfl ⟨Nat.le_of_ble_eq_true rfl, Nat.le_of_ble_eq_true rfl⟩ dX6_init_17 (fun q2 => ?_)
  show AtC p l e _ s m args below meth c g _ _ _ 2 288 19 _ _ ([(h0, .inr (6, [.ref q1, .null])), (q1, .inl (g.2.1.1, 144, .inl (fun _ => 0))), (q2, .inl (g.2.1.1, 144, .inl (fun _ => 0)))])
  refine ac_putF (pc := 19) (ws' := [(h0, .inr (6, [.ref q1, .ref q2])), (q1, .inl (g.2.1.1, 144, .inl (fun _ => 0))), (q2, .inl (g.2.1.1, 144, .inl (fun _ => 0)))]) C 0 fuf_6_15 rfl rfl rfl (Nat.le_of_ble_eq_true rfl) rfl dX6_init_19 ?_
  exact ac_ret (pc := 22) C hr hlk (fun i => ([h0, q1, q2] : List Nat).getD i 0) rfl rfl dX6_init_22
abbrev wX8 (g : Geo) (a : Nat → Nat) : va_W := [(a 0, .inr (8, [.ref (a 1), vi 0, vi 0, vi 0, vi 0, vi 0, vi 0, vi 0, vi 0, vi 0, vi (-1)])), (a 1, .inl (g.2.1.2.1, 700, .inl (fun _ => 0)))]
abbrev rn_X8 : Room := { frames := 1, cells := 1, slots := 700, locals := 20 }
set_option maxHeartbeats 4000000 in
set_option maxRecDepth 100000 in
theorem n_X8_init (l : Launch) (g : Geo) : MtN nestL l g yX8_init cX8_init 1 rn_X8 8 [.null, .int 0, .int 0, .int 0, .int 0, .int 0, .int 0, .int 0, .int 0, .int 0, .int 0] (wX8 g) 1 700 := by
  refine MtN.of (own := RX8) (by decide +kernel) rfl rfl (Nat.le_refl 1) ?_
  intro h0 p e s m args below meth c C hr hlk hN
  refine ac_aload_n (pc := 0) C 0 dX8_init_0 rfl rfl ?_
  refine ac_obj (pc := 1) C ob_8_3 oi_i oi_c ⟨Nat.le_of_ble_eq_true rfl, Nat.le_of_ble_eq_true rfl⟩ dX8_init_1 ?_
  refine ac_aload_n (pc := 4) C 0 dX8_init_4 rfl rfl ?_
  refine ac_sipush (pc := 5) C dX8_init_5 (by decide) ?_
  refine ac_newa (pc := 8) (atype := .byte) (ty := .byte) (cA := g.2.1.2.1) (a0 := (700, .inl (fun _ => 0))) (N' := 700) (cl' := 1) (sl' := 700) C 1 rfl (Or.inr (Or.inl rfl)) ar_byte rfl (fun _ => rfl) rfl (Nat.le_of_ble_eq_true rfl) rfl rfl ⟨Nat.le_of_ble_eq_true rfl, Nat.le_of_ble_eq_true rfl⟩ dX8_init_8 (fun q1 => ?_)
  show AtC p l e _ s m args below meth c g _ _ _ 1 700 10 _ _ ([(h0, .inr (8, [.null, .int 0, .int 0, .int 0, .int 0, .int 0, .int 0, .int 0, .int 0, .int 0, .int 0])), (q1, .inl (g.2.1.2.1, 700, .inl (fun _ => 0)))])
  refine ac_putF (pc := 10) (ws' := [(h0, .inr (8, [.ref q1, .int 0, .int 0, .int 0, .int 0, .int 0, .int 0, .int 0, .int 0, .int 0, .int 0])), (q1, .inl (g.2.1.2.1, 700, .inl (fun _ => 0)))]) C 0 fuf_8_9 rfl rfl rfl (Nat.le_of_ble_eq_true rfl) rfl dX8_init_10 ?_
  refine ac_aload_n (pc := 13) C 0 dX8_init_13 rfl rfl ?_
  refine ac_iconst (pc := 14) C dX8_init_14 ?_
  refine ac_put (pc := 15) (ws' := [(h0, .inr (8, [.ref q1, vi 0, .int 0, .int 0, .int 0, .int 0, .int 0, .int 0, .int 0, .int 0, .int 0])), (q1, .inl (g.2.1.2.1, 700, .inl (fun _ => 0)))]) C 0 fu_8_15 rfl rfl rfl (Nat.le_of_ble_eq_true rfl) rfl dX8_init_15 ?_
  refine ac_aload_n (pc := 18) C 0 dX8_init_18 rfl rfl ?_
  refine ac_iconst (pc := 19) C dX8_init_19 ?_
  refine ac_put (pc := 20) (ws' := [(h0, .inr (8, [.ref q1, vi 0, vi 0, .int 0, .int 0, .int 0, .int 0, .int 0, .int 0, .int 0, .int 0])), (q1, .inl (g.2.1.2.1, 700, .inl (fun _ => 0)))]) C 0 fu_8_19 rfl rfl rfl (Nat.le_of_ble_eq_true rfl) rfl dX8_init_20 ?_
  refine ac_aload_n (pc := 23) C 0 dX8_init_23 rfl rfl ?_
  refine ac_iconst (pc := 24) C dX8_init_24 ?_
  refine ac_put (pc := 25) (ws' := [(h0, .inr (8, [.ref q1, vi 0, vi 0, vi 0, .int 0, .int 0, .int 0, .int 0, .int 0, .int 0, .int 0])), (q1, .inl (g.2.1.2.1, 700, .inl (fun _ => 0)))]) C 0 fu_8_22 rfl rfl rfl (Nat.le_of_ble_eq_true rfl) rfl dX8_init_25 ?_
  refine ac_aload_n (pc := 28) C 0 dX8_init_28 rfl rfl ?_
  refine ac_iconst (pc := 29) C dX8_init_29 ?_
  refine ac_put (pc := 30) (ws' := [(h0, .inr (8, [.ref q1, vi 0, vi 0, vi 0, vi 0, .int 0, .int 0, .int 0, .int 0, .int 0, .int 0])), (q1, .inl (g.2.1.2.1, 700, .inl (fun _ => 0)))]) C 0 fu_8_25 rfl rfl rfl (Nat.le_of_ble_eq_true rfl) rfl dX8_init_30 ?_
  refine ac_aload_n (pc := 33) C 0 dX8_init_33 rfl rfl ?_
  refine ac_iconst (pc := 34) C dX8_init_34 ?_
  refine ac_put (pc := 35) (ws' := [(h0, .inr (8, [.ref q1, vi 0, vi 0, vi 0, vi 0, vi 0, .int 0, .int 0, .int 0, .int 0, .int 0])), (q1, .inl (g.2.1.2.1, 700, .inl (fun _ => 0)))]) C 0 fu_8_28 rfl rfl rfl (Nat.le_of_ble_eq_true rfl) rfl dX8_init_35 ?_
  refine ac_aload_n (pc := 38) C 0 dX8_init_38 rfl rfl ?_
  refine ac_iconst (pc := 39) C dX8_init_39 ?_
  refine ac_put (pc := 40) (ws' := [(h0, .inr (8, [.ref q1, vi 0, vi 0, vi 0, vi 0, vi 0, vi 0, .int 0, .int 0, .int 0, .int 0])), (q1, .inl (g.2.1.2.1, 700, .inl (fun _ => 0)))]) C 0 fu_8_31 rfl rfl rfl (Nat.le_of_ble_eq_true rfl) rfl dX8_init_40 ?_
  refine ac_aload_n (pc := 43) C 0 dX8_init_43 rfl rfl ?_
  refine ac_iconst (pc := 44) C dX8_init_44 ?_
  refine ac_put (pc := 45) (ws' := [(h0, .inr (8, [.ref q1, vi 0, vi 0, vi 0, vi 0, vi 0, vi 0, vi 0, .int 0, .int 0, .int 0])), (q1, .inl (g.2.1.2.1, 700, .inl (fun _ => 0)))]) C 0 fu_8_34 rfl rfl rfl (Nat.le_of_ble_eq_true rfl) rfl dX8_init_45 ?_
  refine ac_aload_n (pc := 48) C 0 dX8_init_48 rfl rfl ?_
  refine ac_iconst (pc := 49) C dX8_init_49 ?_
  refine ac_put (pc := 50) (ws' := [(h0, .inr (8, [.ref q1, vi 0, vi 0, vi 0, vi 0, vi 0, vi 0, vi 0, vi 0, .int 0, .int 0])), (q1, .inl (g.2.1.2.1, 700, .inl (fun _ => 0)))]) C 0 fu_8_37 rfl rfl rfl (Nat.le_of_ble_eq_true rfl) rfl dX8_init_50 ?_
  refine ac_aload_n (pc := 53) C 0 dX8_init_53 rfl rfl ?_
  refine ac_iconst (pc := 54) C dX8_init_54 ?_
  refine ac_put (pc := 55) (ws' := [(h0, .inr (8, [.ref q1, vi 0, vi 0, vi 0, vi 0, vi 0, vi 0, vi 0, vi 0, vi 0, .int 0])), (q1, .inl (g.2.1.2.1, 700, .inl (fun _ => 0)))]) C 0 fu_8_40 rfl rfl rfl (Nat.le_of_ble_eq_true rfl) rfl dX8_init_55 ?_
  refine ac_aload_n (pc := 58) C 0 dX8_init_58 rfl rfl ?_
  refine ac_iconst (pc := 59) C dX8_init_59 ?_
  refine ac_put (pc := 60) (ws' := [(h0, .inr (8, [.ref q1, vi 0, vi 0, vi 0, vi 0, vi 0, vi 0, vi 0, vi 0, vi 0, vi (-1)])), (q1, .inl (g.2.1.2.1, 700, .inl (fun _ => 0)))]) C 0 fu_8_43 rfl rfl rfl (Nat.le_of_ble_eq_true rfl) rfl dX8_init_60 ?_
  exact ac_ret (pc := 63) C hr hlk (fun i => ([h0, q1] : List Nat).getD i 0) rfl rfl dX8_init_63
abbrev wX9 (g : Geo) (a : Nat → Nat) : va_W := [(a 0, .inr (9, [.ref (a 1), .ref (a 2), .ref (a 3), .ref (a 4), vi 0])), (a 1, .inl (g.2.1.1, 8, .inl (fun _ => 0))), (a 2, .inl (g.2.1.1, 8, .inl (fun _ => 0))), (a 3, .inl (g.2.1.1, 8, .inl (fun _ => 0))), (a 4, .inl (g.2.1.1, 8, .inl (fun _ => 0)))]
abbrev rn_X9 : Room := { frames := 1, cells := 4, slots := 32, locals := 20 }
set_option maxHeartbeats 4000000 in
set_option maxRecDepth 100000 in
theorem n_X9_init (l : Launch) (g : Geo) : MtN nestL l g yX9_init cX9_init 1 rn_X9 9 [.null, .null, .null, .null, .int 0] (wX9 g) 4 32 := by
  refine MtN.of (own := RX9) (by decide +kernel) rfl rfl (Nat.le_refl 1) ?_
  intro h0 p e s m args below meth c C hr hlk hN
  refine ac_aload_n (pc := 0) C 0 dX9_init_0 rfl rfl ?_
  refine ac_obj (pc := 1) C ob_9_3 oi_i oi_c ⟨Nat.le_of_ble_eq_true rfl, Nat.le_of_ble_eq_true rfl⟩ dX9_init_1 ?_
  refine ac_aload_n (pc := 4) C 0 dX9_init_4 rfl rfl ?_
  refine ac_bipush (pc := 5) C dX9_init_5 (by decide) ?_
  refine ac_newa (pc := 7) (atype := .int) (ty := .int) (cA := g.2.1.1) (a0 := (8, .inl (fun _ => 0))) (N' := 8) (cl' := 1) (sl' := 8) C 0 rfl (Or.inl rfl) ar_int rfl (fun _ => rfl) rfl (Nat.le_of_ble_eq_true rfl) rfl rfl ⟨Nat.le_of_ble_eq_true rfl, Nat.le_of_ble_eq_true rfl⟩ dX9_init_7 (fun q1 => ?_)
  show AtC p l e _ s m args below meth c g _ _ _ 1 8 9 _ _ ([(h0, .inr (9, [.null, .null, .null, .null, .int 0])), (q1, .inl (g.2.1.1, 8, .inl (fun _ => 0)))])
  refine ac_putF (pc := 9) (ws' := [(h0, .inr (9, [.ref q1, .null, .null, .null, .int 0])), (q1, .inl (g.2.1.1, 8, .inl (fun _ => 0)))]) C 0 fuf_9_9 rfl rfl rfl (Nat.le_of_ble_eq_true rfl) rfl dX9_init_9 ?_
  refine ac_aload_n (pc := 12) C 0 dX9_init_12 rfl rfl ?_
  refine ac_bipush (pc := 13) C dX9_init_13 (by decide) ?_
  refine ac_newa (pc := 15) (atype := .int) (ty := .int) (cA := g.2.1.1) (a0 := (8, .inl (fun _ => 0))) (N' := 8) (cl' := 2) (sl' := 16) C 0 rfl (Or.inl rfl) ar_int rfl (fun _ => rfl) rfl (Nat.le_of_ble_eq_true rfl) rfl rfl ⟨Nat.le_of_ble_eq_true rfl, Nat.le_of_ble_eq_true rfl⟩ dX9_init_15 (fun q2 => ?_)
  show AtC p l e _ s m args below meth c g _ _ _ 2 16 17 _ _ ([(h0, .inr (9, [.ref q1, .null, .null, .null, .int 0])), (q1, .inl (g.2.1.1, 8, .inl (fun _ => 0))), (q2, .inl (g.2.1.1, 8, .inl (fun _ => 0)))])
  refine ac_putF (pc := 17) (ws' := [(h0, .inr (9, [.ref q1, .ref q2, .null, .null, .int 0])), (q1, .inl (g.2.1.1, 8, .inl (fun _ => 0))), (q2, .inl (g.2.1.1, 8, .inl (fun _ => 0)))]) C 0 fuf_9_15 rfl rfl rfl (Nat.le_of_ble_eq_true rfl) rfl dX9_init_17 ?_
  refine ac_aload_n (pc := 20) C 0 dX9_init_20 rfl rfl ?_
  refine ac_bipush (pc := 21) C dX9_init_21 (by decide) ?_
  refine ac_newa (pc := 23) (atype := .int) (ty := .int) (cA := g.2.1.1) (a0 := (8, .inl (fun _ => 0))) (N' := 8) (cl' := 3) (sl' := 24) C 0 rfl (Or.inl rfl) ar_int rfl (fun _ => rfl) rfl (Nat.le_of_ble_eq_true rfl) rfl rfl ⟨Nat.le_of_ble_eq_true rfl, Nat.le_of_ble_eq_true rfl⟩ dX9_init_23 (fun q3 => ?_)
  show AtC p l e _ s m args below meth c g _ _ _ 3 24 25 _ _ ([(h0, .inr (9, [.ref q1, .ref q2, .null, .null, .int 0])), (q1, .inl (g.2.1.1, 8, .inl (fun _ => 0))), (q2, .inl (g.2.1.1, 8, .inl (fun _ => 0))), (q3, .inl (g.2.1.1, 8, .inl (fun _ => 0)))])
  refine ac_putF (pc := 25) (ws' := [(h0, .inr (9, [.ref q1, .ref q2, .ref q3, .null, .int 0])), (q1, .inl (g.2.1.1, 8, .inl (fun _ => 0))), (q2, .inl (g.2.1.1, 8, .inl (fun _ => 0))), (q3, .inl (g.2.1.1, 8, .inl (fun _ => 0)))]) C 0 fuf_9_18 rfl rfl rfl (Nat.le_of_ble_eq_true rfl) rfl dX9_init_25 ?_
  refine ac_aload_n (pc := 28) C 0 dX9_init_28 rfl rfl ?_
  refine ac_bipush (pc := 29) C dX9_init_29 (by decide) ?_
  refine ac_newa (pc := 31) (atype := .int) (ty := .int) (cA := g.2.1.1) (a0 := (8, .inl (fun _ => 0))) (N' := 8) (cl' := 4) (sl' := 32) C 0 rfl (Or.inl rfl) ar_int rfl (fun _ => rfl) rfl (Nat.le_of_ble_eq_true rfl) rfl rfl ⟨Nat.le_of_ble_eq_true rfl, Nat.le_of_ble_eq_true rfl⟩ dX9_init_31 (fun q4 => ?_)
  show AtC p l e _ s m args below meth c g _ _ _ 4 32 33 _ _ ([(h0, .inr (9, [.ref q1, .ref q2, .ref q3, .null, .int 0])), (q1, .inl (g.2.1.1, 8, .inl (fun _ => 0))), (q2, .inl (g.2.1.1, 8, .inl (fun _ => 0))), (q3, .inl (g.2.1.1, 8, .inl (fun _ => 0))), (q4, .inl (g.2.1.1, 8, .inl (fun _ => 0)))])
  refine ac_putF (pc := 33) (ws' := [(h0, .inr (9, [.ref q1, .ref q2, .ref q3, .ref q4, .int 0])), (q1, .inl (g.2.1.1, 8, .inl (fun _ => 0))), (q2, .inl (g.2.1.1, 8, .inl (fun _ => 0))), (q3, .inl (g.2.1.1, 8, .inl (fun _ => 0))), (q4, .inl (g.2.1.1, 8, .inl (fun _ => 0)))]) C 0 fuf_9_21 rfl rfl rfl (Nat.le_of_ble_eq_true rfl) rfl dX9_init_33 ?_
  refine ac_aload_n (pc := 36) C 0 dX9_init_36 rfl rfl ?_
  refine ac_iconst (pc := 37) C dX9_init_37 ?_
  refine ac_put (pc := 38) (ws' := [(h0, .inr (9, [.ref q1, .ref q2, .ref q3, .ref q4, vi 0])), (q1, .inl (g.2.1.1, 8, .inl (fun _ => 0))), (q2, .inl (g.2.1.1, 8, .inl (fun _ => 0))), (q3, .inl (g.2.1.1, 8, .inl (fun _ => 0))), (q4, .inl (g.2.1.1, 8, .inl (fun _ => 0)))]) C 0 fu_9_24 rfl rfl rfl (Nat.le_of_ble_eq_true rfl) rfl dX9_init_38 ?_
  exact ac_ret (pc := 41) C hr hlk (fun i => ([h0, q1, q2, q3, q4] : List Nat).getD i 0) rfl rfl dX9_init_41
abbrev wX10 (g : Geo) (a : Nat → Nat) : va_W := [(a 0, .inr (10, [.ref (a 1), .ref (a 2), .ref (a 3), .ref (a 4), .ref (a 5), vi 0])), (a 1, .inl (g.2.1.1, 64, .inl (fun _ => 0))), (a 2, .inl (g.2.1.1, 64, .inl (fun _ => 0))), (a 3, .inl (g.2.1.2.2.1, 64, .inr (.inr (.inl (fun _ => 0))))), (a 4, .inl (g.2.1.1, 8, .inl (fun _ => 0))), (a 5, .inl (g.2.1.1, 8, .inl (fun _ => 0)))]
abbrev rn_X10 : Room := { frames := 1, cells := 5, slots := 208, locals := 20 }
set_option maxHeartbeats 4000000 in
set_option maxRecDepth 100000 in
theorem n_X10_init (l : Launch) (g : Geo) : MtN nestL l g yX10_init cX10_init 1 rn_X10 10 [.null, .null, .null, .null, .null, .int 0] (wX10 g) 5 208 := by
  refine MtN.of (own := RX10) (by decide +kernel) rfl rfl (Nat.le_refl 1) ?_
  intro h0 p e s m args below meth c C hr hlk hN
  refine ac_aload_n (pc := 0) C 0 dX10_init_0 rfl rfl ?_
  refine ac_obj (pc := 1) C ob_10_3 oi_i oi_c ⟨Nat.le_of_ble_eq_true rfl, Nat.le_of_ble_eq_true rfl⟩ dX10_init_1 ?_
  refine ac_aload_n (pc := 4) C 0 dX10_init_4 rfl rfl ?_
  refine ac_bipush (pc := 5) C dX10_init_5 (by decide) ?_
  refine ac_newa (pc := 7) (atype := .int) (ty := .int) (cA := g.2.1.1) (a0 := (64, .inl (fun _ => 0))) (N' := 64) (cl' := 1) (sl' := 64) C 0 rfl (Or.inl rfl) ar_int rfl (fun _ => rfl) rfl (Nat.le_of_ble_eq_true rfl) rfl rfl ⟨Nat.le_of_ble_eq_true rfl, Nat.le_of_ble_eq_true rfl⟩ dX10_init_7 (fun q1 => ?_)
  show AtC p l e _ s m args below meth c g _ _ _ 1 64 9 _ _ ([(h0, .inr (10, [.null, .null, .null, .null, .null, .int 0])), (q1, .inl (g.2.1.1, 64, .inl (fun _ => 0)))])
  refine ac_putF (pc := 9) (ws' := [(h0, .inr (10, [.ref q1, .null, .null, .null, .null, .int 0])), (q1, .inl (g.2.1.1, 64, .inl (fun _ => 0)))]) C 0 fuf_10_9 rfl rfl rfl (Nat.le_of_ble_eq_true rfl) rfl dX10_init_9 ?_
  refine ac_aload_n (pc := 12) C 0 dX10_init_12 rfl rfl ?_
  refine ac_bipush (pc := 13) C dX10_init_13 (by decide) ?_
  refine ac_newa (pc := 15) (atype := .int) (ty := .int) (cA := g.2.1.1) (a0 := (64, .inl (fun _ => 0))) (N' := 64) (cl' := 2) (sl' := 128) C 0 rfl (Or.inl rfl) ar_int rfl (fun _ => rfl) rfl (Nat.le_of_ble_eq_true rfl) rfl rfl ⟨Nat.le_of_ble_eq_true rfl, Nat.le_of_ble_eq_true rfl⟩ dX10_init_15 (fun q2 => ?_)
  show AtC p l e _ s m args below meth c g _ _ _ 2 128 17 _ _ ([(h0, .inr (10, [.ref q1, .null, .null, .null, .null, .int 0])), (q1, .inl (g.2.1.1, 64, .inl (fun _ => 0))), (q2, .inl (g.2.1.1, 64, .inl (fun _ => 0)))])
  refine ac_putF (pc := 17) (ws' := [(h0, .inr (10, [.ref q1, .ref q2, .null, .null, .null, .int 0])), (q1, .inl (g.2.1.1, 64, .inl (fun _ => 0))), (q2, .inl (g.2.1.1, 64, .inl (fun _ => 0)))]) C 0 fuf_10_15 rfl rfl rfl (Nat.le_of_ble_eq_true rfl) rfl dX10_init_17 ?_
  refine ac_aload_n (pc := 20) C 0 dX10_init_20 rfl rfl ?_
  refine ac_bipush (pc := 21) C dX10_init_21 (by decide) ?_
  refine ac_newa (pc := 23) (atype := .float) (ty := .float) (cA := g.2.1.2.2.1) (a0 := (64, .inr (.inr (.inl (fun _ => 0))))) (N' := 64) (cl' := 3) (sl' := 192) C 2 rfl (Or.inr (Or.inr (Or.inl rfl))) ar_float rfl (fun _ => rfl) rfl (Nat.le_of_ble_eq_true rfl) rfl rfl ⟨Nat.le_of_ble_eq_true rfl, Nat.le_of_ble_eq_true rfl⟩ dX10_init_23 (fun q3 => ?_)
  show AtC p l e _ s m args below meth c g _ _ _ 3 192 25 _ _ ([(h0, .inr (10, [.ref q1, .ref q2, .null, .null, .null, .int 0])), (q1, .inl (g.2.1.1, 64, .inl (fun _ => 0))), (q2, .inl (g.2.1.1, 64, .inl (fun _ => 0))), (q3, .inl (g.2.1.2.2.1, 64, .inr (.inr (.inl (fun _ => 0)))))])
  refine ac_putF (pc := 25) (ws' := [(h0, .inr (10, [.ref q1, .ref q2, .ref q3, .null, .null, .int 0])), (q1, .inl (g.2.1.1, 64, .inl (fun _ => 0))), (q2, .inl (g.2.1.1, 64, .inl (fun _ => 0))), (q3, .inl (g.2.1.2.2.1, 64, .inr (.inr (.inl (fun _ => 0)))))]) C 0 fuf_10_18 rfl rfl rfl (Nat.le_of_ble_eq_true rfl) rfl dX10_init_25 ?_
  refine ac_aload_n (pc := 28) C 0 dX10_init_28 rfl rfl ?_
  refine ac_bipush (pc := 29) C dX10_init_29 (by decide) ?_
  refine ac_newa (pc := 31) (atype := .int) (ty := .int) (cA := g.2.1.1) (a0 := (8, .inl (fun _ => 0))) (N' := 8) (cl' := 4) (sl' := 200) C 0 rfl (Or.inl rfl) ar_int rfl (fun _ => rfl) rfl (Nat.le_of_ble_eq_true rfl) rfl rfl ⟨Nat.le_of_ble_eq_true rfl, Nat.le_of_ble_eq_true rfl⟩ dX10_init_31 (fun q4 => ?_)
  show AtC p l e _ s m args below meth c g _ _ _ 4 200 33 _ _ ([(h0, .inr (10, [.ref q1, .ref q2, .ref q3, .null, .null, .int 0])), (q1, .inl (g.2.1.1, 64, .inl (fun _ => 0))), (q2, .inl (g.2.1.1, 64, .inl (fun _ => 0))), (q3, .inl (g.2.1.2.2.1, 64, .inr (.inr (.inl (fun _ => 0))))), (q4, .inl (g.2.1.1, 8, .inl (fun _ => 0)))])
  refine ac_putF (pc := 33) (ws' := [(h0, .inr (10, [.ref q1, .ref q2, .ref q3, .ref q4, .null, .int 0])), (q1, .inl (g.2.1.1, 64, .inl (fun _ => 0))), (q2, .inl (g.2.1.1, 64, .inl (fun _ => 0))), (q3, .inl (g.2.1.2.2.1, 64, .inr (.inr (.inl (fun _ => 0))))), (q4, .inl (g.2.1.1, 8, .inl (fun _ => 0)))]) C 0 fuf_10_22 rfl rfl rfl (Nat.le_of_ble_eq_true rfl) rfl dX10_init_33 ?_
  refine ac_aload_n (pc := 36) C 0 dX10_init_36 rfl rfl ?_
  refine ac_bipush (pc := 37) C dX10_init_37 (by decide) ?_
  refine ac_newa (pc := 39) (atype := .int) (ty := .int) (cA := g.2.1.1) (a0 := (8, .inl (fun _ => 0))) (N' := 8) (cl' := 5) (sl' := 208) C 0 rfl (Or.inl rfl) ar_int rfl (fun _ => rfl) rfl (Nat.le_of_ble_eq_true rfl) rfl rfl ⟨Nat.le_of_ble_eq_true rfl, Nat.le_of_ble_eq_true rfl⟩ dX10_init_39 (fun q5 => ?_)
  show AtC p l e _ s m args below meth c g _ _ _ 5 208 41 _ _ ([(h0, .inr (10, [.ref q1, .ref q2, .ref q3, .ref q4, .null, .int 0])), (q1, .inl (g.2.1.1, 64, .inl (fun _ => 0))), (q2, .inl (g.2.1.1, 64, .inl (fun _ => 0))), (q3, .inl (g.2.1.2.2.1, 64, .inr (.inr (.inl (fun _ => 0))))), (q4, .inl (g.2.1.1, 8, .inl (fun _ => 0))), (q5, .inl (g.2.1.1, 8, .inl (fun _ => 0)))])
  refine ac_putF (pc := 41) (ws' := [(h0, .inr (10, [.ref q1, .ref q2, .ref q3, .ref q4, .ref q5, .int 0])), (q1, .inl (g.2.1.1, 64, .inl (fun _ => 0))), (q2, .inl (g.2.1.1, 64, .inl (fun _ => 0))), (q3, .inl (g.2.1.2.2.1, 64, .inr (.inr (.inl (fun _ => 0))))), (q4, .inl (g.2.1.1, 8, .inl (fun _ => 0))), (q5, .inl (g.2.1.1, 8, .inl (fun _ => 0)))]) C 0 fuf_10_25 rfl rfl rfl (Nat.le_of_ble_eq_true rfl) rfl dX10_init_41 ?_
  refine ac_aload_n (pc := 44) C 0 dX10_init_44 rfl rfl ?_
  refine ac_iconst (pc := 45) C dX10_init_45 ?_
  refine ac_put (pc := 46) (ws' := [(h0, .inr (10, [.ref q1, .ref q2, .ref q3, .ref q4, .ref q5, vi 0])), (q1, .inl (g.2.1.1, 64, .inl (fun _ => 0))), (q2, .inl (g.2.1.1, 64, .inl (fun _ => 0))), (q3, .inl (g.2.1.2.2.1, 64, .inr (.inr (.inl (fun _ => 0))))), (q4, .inl (g.2.1.1, 8, .inl (fun _ => 0))), (q5, .inl (g.2.1.1, 8, .inl (fun _ => 0)))]) C 0 fu_10_28 rfl rfl rfl (Nat.le_of_ble_eq_true rfl) rfl dX10_init_46 ?_
  exact ac_ret (pc := 49) C hr hlk (fun i => ([h0, q1, q2, q3, q4, q5] : List Nat).getD i 0) rfl rfl dX10_init_49
abbrev wX0 (g : Geo) (a : Nat → Nat) : va_W := [(a 0, .inr (0, [.ref (a 1), .ref (a 2), .ref (a 3), .ref (a 4), .ref (a 5), .ref (a 6), .ref (a 7), .ref (a 8), vi 0, vi 0, vi 75, vi 0, vi 0, vi 0])), (a 1, .inl (g.2.1.1, 8, .inl (fun _ => 0))), (a 2, .inl (g.2.1.1, 8, .inl (fun _ => 0))), (a 3, .inl (g.2.1.1, 8, .inl (fun _ => 0))), (a 4, .inl (g.2.1.1, 12, .inl (fun _ => 0))), (a 5, .inl (g.2.1.1, 12, .inl (fun _ => 0))), (a 6, .inl (g.2.1.1, 12, .inl (fun _ => 0))), (a 7, .inl (g.2.1.1, 12, .inl (fun _ => 0)))] ++ wX7 g (fun i => a (i + 8))
abbrev rn_X0 : Room := { frames := 2, cells := 12, slots := 173, locals := 40 }
set_option maxHeartbeats 4000000 in
set_option maxRecDepth 100000 in
theorem n_X0_init (l : Launch) (g : Geo) : MtN nestL l g yX0_init cX0_init 1 rn_X0 0 [.null, .null, .null, .null, .null, .null, .null, .null, .int 0, .int 0, .int 0, .int 0, .int 0, .int 0] (wX0 g) 12 173 := by
  refine MtN.of (own := RX0) (by decide +kernel) rfl rfl (Nat.le_refl 1) ?_
  intro h0 p e s m args below meth c C hr hlk hN
  refine ac_aload_n (pc := 0) C 0 dX0_init_0 rfl rfl ?_
  refine ac_obj (pc := 1) C ob_0_3 oi_i oi_c ⟨Nat.le_of_ble_eq_true rfl, Nat.le_of_ble_eq_true rfl⟩ dX0_init_1 ?_
  refine ac_aload_n (pc := 4) C 0 dX0_init_4 rfl rfl ?_
  refine ac_bipush (pc := 5) C dX0_init_5 (by decide) ?_
  refine ac_newa (pc := 7) (atype := .int) (ty := .int) (cA := g.2.1.1) (a0 := (8, .inl (fun _ => 0))) (N' := 8) (cl' := 1) (sl' := 8) C 0 rfl (Or.inl rfl) ar_int rfl (fun _ => rfl) rfl (Nat.le_of_ble_eq_true rfl) rfl rfl ⟨Nat.le_of_ble_eq_true rfl, Nat.le_of_ble_eq_true rfl⟩ dX0_init_7 (fun q1 => ?_)
  show AtC p l e _ s m args below meth c g _ _ _ 1 8 9 _ _ ([(h0, .inr (0, [.null, .null, .null, .null, .null, .null, .null, .null, .int 0, .int 0, .int 0, .int 0, .int 0, .int 0])), (q1, .inl (g.2.1.1, 8, .inl (fun _ => 0)))])
  refine ac_putF (pc := 9) (ws' := [(h0, .inr (0, [.ref q1, .null, .null, .null, .null, .null, .null, .null, .int 0, .int 0, .int 0, .int 0, .int 0, .int 0])), (q1, .inl (g.2.1.1, 8, .inl (fun _ => 0)))]) C 0 fuf_0_9 rfl rfl rfl (Nat.le_of_ble_eq_true rfl) rfl dX0_init_9 ?_
  refine ac_aload_n (pc := 12) C 0 dX0_init_12 rfl rfl ?_
  refine ac_bipush (pc := 13) C dX0_init_13 (by decide) ?_
  refine ac_newa (pc := 15) (atype := .int) (ty := .int) (cA := g.2.1.1) (a0 := (8, .inl (fun _ => 0))) (N' := 8) (cl' := 2) (sl' := 16) C 0 rfl (Or.inl rfl) ar_int rfl (fun _ => rfl) rfl (Nat.le_of_ble_eq_true rfl) rfl rfl ⟨Nat.le_of_ble_eq_true rfl, Nat.le_of_ble_eq_true rfl⟩ dX0_init_15 (fun q2 => ?_)
  show AtC p l e _ s m args below meth c g _ _ _ 2 16 17 _ _ ([(h0, .inr (0, [.ref q1, .null, .null, .null, .null, .null, .null, .null, .int 0, .int 0, .int 0, .int 0, .int 0, .int 0])), (q1, .inl (g.2.1.1, 8, .inl (fun _ => 0))), (q2, .inl (g.2.1.1, 8, .inl (fun _ => 0)))])
  refine ac_putF (pc := 17) (ws' := [(h0, .inr (0, [.ref q1, .ref q2, .null, .null, .null, .null, .null, .null, .int 0, .int 0, .int 0, .int 0, .int 0, .int 0])), (q1, .inl (g.2.1.1, 8, .inl (fun _ => 0))), (q2, .inl (g.2.1.1, 8, .inl (fun _ => 0)))]) C 0 fuf_0_15 rfl rfl rfl (Nat.le_of_ble_eq_true rfl) rfl dX0_init_17 ?_
  refine ac_aload_n (pc := 20) C 0 dX0_init_20 rfl rfl ?_
  refine ac_bipush (pc := 21) C dX0_init_21 (by decide) ?_
  refine ac_newa (pc := 23) (atype := .int) (ty := .int) (cA := g.2.1.1) (a0 := (8, .inl (fun _ => 0))) (N' := 8) (cl' := 3) (sl' := 24) C 0 rfl (Or.inl rfl) ar_int rfl (fun _ => rfl) rfl (Nat.le_of_ble_eq_true rfl) rfl rfl ⟨Nat.le_of_ble_eq_true rfl, Nat.le_of_ble_eq_true rfl⟩ dX0_init_23 (fun q3 => ?_)
  show AtC p l e _ s m args below meth c g _ _ _ 3 24 25 _ _ ([(h0, .inr (0, [.ref q1, .ref q2, .null, .null, .null, .null, .null, .null, .int 0, .int 0, .int 0, .int 0, .int 0, .int 0])), (q1, .inl (g.2.1.1, 8, .inl (fun _ => 0))), (q2, .inl (g.2.1.1, 8, .inl (fun _ => 0))), (q3, .inl (g.2.1.1, 8, .inl (fun _ => 0)))])
  refine ac_putF (pc := 25) (ws' := [(h0, .inr (0, [.ref q1, .ref q2, .ref q3, .null, .null, .null, .null, .null, .int 0, .int 0, .int 0, .int 0, .int 0, .int 0])), (q1, .inl (g.2.1.1, 8, .inl (fun _ => 0))), (q2, .inl (g.2.1.1, 8, .inl (fun _ => 0))), (q3, .inl (g.2.1.1, 8, .inl (fun _ => 0)))]) C 0 fuf_0_18 rfl rfl rfl (Nat.le_of_ble_eq_true rfl) rfl dX0_init_25 ?_
  refine ac_aload_n (pc := 28) C 0 dX0_init_28 rfl rfl ?_
  refine ac_bipush (pc := 29) C dX0_init_29 (by decide) ?_
  refine ac_newa (pc := 31) (atype := .int) (ty := .int) (cA := g.2.1.1) (a0 := (12, .inl (fun _ => 0))) (N' := 12) (cl' := 4) (sl' := 36) C 0 rfl (Or.inl rfl) ar_int rfl (fun _ => rfl) rfl (Nat.le_of_ble_eq_true rfl) rfl rfl ⟨Nat.le_of_ble_eq_true rfl, Nat.le_of_ble_eq_true rfl⟩ dX0_init_31 (fun q4 => ?_)
  show AtC p l e _ s m args below meth c g _ _ _ 4 36 33 _ _ ([(h0, .inr (0, [.ref q1, .ref q2, .ref q3, .null, .null, .null, .null, .null, .int 0, .int 0, .int 0, .int 0, .int 0, .int 0])), (q1, .inl (g.2.1.1, 8, .inl (fun _ => 0))), (q2, .inl (g.2.1.1, 8, .inl (fun _ => 0))), (q3, .inl (g.2.1.1, 8, .inl (fun _ => 0))), (q4, .inl (g.2.1.1, 12, .inl (fun _ => 0)))])
  refine ac_putF (pc := 33) (ws' := [(h0, .inr (0, [.ref q1, .ref q2, .ref q3, .ref q4, .null, .null, .null, .null, .int 0, .int 0, .int 0, .int 0, .int 0, .int 0])), (q1, .inl (g.2.1.1, 8, .inl (fun _ => 0))), (q2, .inl (g.2.1.1, 8, .inl (fun _ => 0))), (q3, .inl (g.2.1.1, 8, .inl (fun _ => 0))), (q4, .inl (g.2.1.1, 12, .inl (fun _ => 0)))]) C 0 fuf_0_21 rfl rfl rfl (Nat.le_of_ble_eq_true rfl) rfl dX0_init_33 ?_
  refine ac_aload_n (pc := 36) C 0 dX0_init_36 rfl rfl ?_
  refine ac_bipush (pc := 37) C dX0_init_37 (by decide) ?_
  refine ac_newa (pc := 39) (atype := .int) (ty := .int) (cA := g.2.1.1) (a0 := (12, .inl (fun _ => 0))) (N' := 12) (cl' := 5) (sl' := 48) C 0 rfl (Or.inl rfl) ar_int rfl (fun _ => rfl) rfl (Nat.le_of_ble_eq_true rfl) rfl rfl ⟨Nat.le_of_ble_eq_true rfl, Nat.le_of_ble_eq_true rfl⟩ dX0_init_39 (fun q5 => ?_)
  show AtC p l e _ s m args below meth c g _ _ _ 5 48 41 _ _ ([(h0, .inr (0, [.ref q1, .ref q2, .ref q3, .ref q4, .null, .null, .null, .null, .int 0, .int 0, .int 0, .int 0, .int 0, .int 0])), (q1, .inl (g.2.1.1, 8, .inl (fun _ => 0))), (q2, .inl (g.2.1.1, 8, .inl (fun _ => 0))), (q3, .inl (g.2.1.1, 8, .inl (fun _ => 0))), (q4, .inl (g.2.1.1, 12, .inl (fun _ => 0))), (q5, .inl (g.2.1.1, 12, .inl (fun _ => 0)))])
  refine ac_putF (pc := 41) (ws' := [(h0, .inr (0, [.ref q1, .ref q2, .ref q3, .ref q4, .ref q5, .null, .null, .null, .int 0, .int 0, .int 0, .int 0, .int 0, .int 0])), (q1, .inl (g.2.1.1, 8, .inl (fun _ => 0))), (q2, .inl (g.2.1.1, 8, .inl (fun _ => 0))), (q3, .inl (g.2.1.1, 8, .inl (fun _ => 0))), (q4, .inl (g.2.1.1, 12, .inl (fun _ => 0))), (q5, .inl (g.2.1.1, 12, .inl (fun _ => 0)))]) C 0 fuf_0_24 rfl rfl rfl (Nat.le_of_ble_eq_true rfl) rfl dX0_init_41 ?_
  refine ac_aload_n (pc := 44) C 0 dX0_init_44 rfl rfl ?_
  refine ac_bipush (pc := 45) C dX0_init_45 (by decide) ?_
  refine ac_newa (pc := 47) (atype := .int) (ty := .int) (cA := g.2.1.1) (a0 := (12, .inl (fun _ => 0))) (N' := 12) (cl' := 6) (sl' := 60) C 0 rfl (Or.inl rfl) ar_int rfl (fun _ => rfl) rfl (Nat.le_of_ble_eq_true rfl) rfl rfl ⟨Nat.le_of_ble_eq_true rfl, Nat.le_of_ble_eq_true rfl⟩ dX0_init_47 (fun q6 => ?_)
  show AtC p l e _ s m args below meth c g _ _ _ 6 60 49 _ _ ([(h0, .inr (0, [.ref q1, .ref q2, .ref q3, .ref q4, .ref q5, .null, .null, .null, .int 0, .int 0, .int 0, .int 0, .int 0, .int 0])), (q1, .inl (g.2.1.1, 8, .inl (fun _ => 0))), (q2, .inl (g.2.1.1, 8, .inl (fun _ => 0))), (q3, .inl (g.2.1.1, 8, .inl (fun _ => 0))), (q4, .inl (g.2.1.1, 12, .inl (fun _ => 0))), (q5, .inl (g.2.1.1, 12, .inl (fun _ => 0))), (q6, .inl (g.2.1.1, 12, .inl (fun _ => 0)))])
  refine ac_putF (pc := 49) (ws' := [(h0, .inr (0, [.ref q1, .ref q2, .ref q3, .ref q4, .ref q5, .ref q6, .null, .null, .int 0, .int 0, .int 0, .int 0, .int 0, .int 0])), (q1, .inl (g.2.1.1, 8, .inl (fun _ => 0))), (q2, .inl (g.2.1.1, 8, .inl (fun _ => 0))), (q3, .inl (g.2.1.1, 8, .inl (fun _ => 0))), (q4, .inl (g.2.1.1, 12, .inl (fun _ => 0))), (q5, .inl (g.2.1.1, 12, .inl (fun _ => 0))), (q6, .inl (g.2.1.1, 12, .inl (fun _ => 0)))]) C 0 fuf_0_27 rfl rfl rfl (Nat.le_of_ble_eq_true rfl) rfl dX0_init_49 ?_
  refine ac_aload_n (pc := 52) C 0 dX0_init_52 rfl rfl ?_
  refine ac_bipush (pc := 53) C dX0_init_53 (by decide) ?_
  refine ac_newa (pc := 55) (atype := .int) (ty := .int) (cA := g.2.1.1) (a0 := (12, .inl (fun _ => 0))) (N' := 12) (cl' := 7) (sl' := 72) C 0 rfl (Or.inl rfl) ar_int rfl (fun _ => rfl) rfl (Nat.le_of_ble_eq_true rfl) rfl rfl ⟨Nat.le_of_ble_eq_true rfl, Nat.le_of_ble_eq_true rfl⟩ dX0_init_55 (fun q7 => ?_)
  show AtC p l e _ s m args below meth c g _ _ _ 7 72 57 _ _ ([(h0, .inr (0, [.ref q1, .ref q2, .ref q3, .ref q4, .ref q5, .ref q6, .null, .null, .int 0, .int 0, .int 0, .int 0, .int 0, .int 0])), (q1, .inl (g.2.1.1, 8, .inl (fun _ => 0))), (q2, .inl (g.2.1.1, 8, .inl (fun _ => 0))), (q3, .inl (g.2.1.1, 8, .inl (fun _ => 0))), (q4, .inl (g.2.1.1, 12, .inl (fun _ => 0))), (q5, .inl (g.2.1.1, 12, .inl (fun _ => 0))), (q6, .inl (g.2.1.1, 12, .inl (fun _ => 0))), (q7, .inl (g.2.1.1, 12, .inl (fun _ => 0)))])
  refine ac_putF (pc := 57) (ws' := [(h0, .inr (0, [.ref q1, .ref q2, .ref q3, .ref q4, .ref q5, .ref q6, .ref q7, .null, .int 0, .int 0, .int 0, .int 0, .int 0, .int 0])), (q1, .inl (g.2.1.1, 8, .inl (fun _ => 0))), (q2, .inl (g.2.1.1, 8, .inl (fun _ => 0))), (q3, .inl (g.2.1.1, 8, .inl (fun _ => 0))), (q4, .inl (g.2.1.1, 12, .inl (fun _ => 0))), (q5, .inl (g.2.1.1, 12, .inl (fun _ => 0))), (q6, .inl (g.2.1.1, 12, .inl (fun _ => 0))), (q7, .inl (g.2.1.1, 12, .inl (fun _ => 0)))]) C 0 fuf_0_30 rfl rfl rfl (Nat.le_of_ble_eq_true rfl) rfl dX0_init_57 ?_
  refine ac_aload_n (pc := 60) C 0 dX0_init_60 rfl rfl ?_
  refine ac_new (pc := 61) (cl' := 8) (sl' := 77) C fn_0_33 rfl rfl ⟨Nat.le_of_ble_eq_true rfl, Nat.le_of_ble_eq_true rfl⟩ dX0_init_61 (fun q8 => ?_)
  refine ac_dup (pc := 64) C dX0_init_64 rfl ?_
  refine ac_callI (pc := 65) (q := q8) (wr := [(h0, .inr (0, [.ref q1, .ref q2, .ref q3, .ref q4, .ref q5, .ref q6, .ref q7, .null, .int 0, .int 0, .int 0, .int 0, .int 0, .int 0])), (q1, .inl (g.2.1.1, 8, .inl (fun _ => 0))), (q2, .inl (g.2.1.1, 8, .inl (fun _ => 0))), (q3, .inl (g.2.1.1, 8, .inl (fun _ => 0))), (q4, .inl (g.2.1.1, 12, .inl (fun _ => 0))), (q5, .inl (g.2.1.1, 12, .inl (fun _ => 0))), (q6, .inl (g.2.1.1, 12, .inl (fun _ => 0))), (q7, .inl (g.2.1.1, 12, .inl (fun _ => 0)))]) (cl' := 12) (sl' := 173) C hN nestL_ok (n_X7_init l g) ki_0_35 (host := RX11) (List.mem_of_getElem? (i := 2) rfl) (by first | rfl | simp only [List.append_assoc]) (Nat.le_of_ble_eq_true rfl) ⟨rfl, rfl, Nat.le_of_ble_eq_true rfl, Nat.le_of_ble_eq_true rfl⟩ rfl rfl ⟨Nat.le_of_ble_eq_true rfl, Nat.le_of_ble_eq_true rfl⟩ dX0_init_65 (fun a8 ea8 => ?_)
  subst ea8
  refine ac_putF (pc := 68) (ws' := [(h0, .inr (0, [.ref q1, .ref q2, .ref q3, .ref q4, .ref q5, .ref q6, .ref q7, .ref (a8 0), .int 0, .int 0, .int 0, .int 0, .int 0, .int 0])), (q1, .inl (g.2.1.1, 8, .inl (fun _ => 0))), (q2, .inl (g.2.1.1, 8, .inl (fun _ => 0))), (q3, .inl (g.2.1.1, 8, .inl (fun _ => 0))), (q4, .inl (g.2.1.1, 12, .inl (fun _ => 0))), (q5, .inl (g.2.1.1, 12, .inl (fun _ => 0))), (q6, .inl (g.2.1.1, 12, .inl (fun _ => 0))), (q7, .inl (g.2.1.1, 12, .inl (fun _ => 0)))] ++ wX7 g a8) C 0 fuf_0_36 rfl rfl rfl (Nat.le_of_ble_eq_true rfl) rfl dX0_init_68 ?_
  refine ac_aload_n (pc := 71) C 0 dX0_init_71 rfl rfl ?_
  refine ac_iconst (pc := 72) C dX0_init_72 ?_
  refine ac_put (pc := 73) (ws' := [(h0, .inr (0, [.ref q1, .ref q2, .ref q3, .ref q4, .ref q5, .ref q6, .ref q7, .ref (a8 0), vi 0, .int 0, .int 0, .int 0, .int 0, .int 0])), (q1, .inl (g.2.1.1, 8, .inl (fun _ => 0))), (q2, .inl (g.2.1.1, 8, .inl (fun _ => 0))), (q3, .inl (g.2.1.1, 8, .inl (fun _ => 0))), (q4, .inl (g.2.1.1, 12, .inl (fun _ => 0))), (q5, .inl (g.2.1.1, 12, .inl (fun _ => 0))), (q6, .inl (g.2.1.1, 12, .inl (fun _ => 0))), (q7, .inl (g.2.1.1, 12, .inl (fun _ => 0)))] ++ wX7 g a8) C 0 fu_0_40 rfl rfl rfl (Nat.le_of_ble_eq_true rfl) rfl dX0_init_73 ?_
  refine ac_aload_n (pc := 76) C 0 dX0_init_76 rfl rfl ?_
  refine ac_iconst (pc := 77) C dX0_init_77 ?_
  refine ac_put (pc := 78) (ws' := [(h0, .inr (0, [.ref q1, .ref q2, .ref q3, .ref q4, .ref q5, .ref q6, .ref q7, .ref (a8 0), vi 0, vi 0, .int 0, .int 0, .int 0, .int 0])), (q1, .inl (g.2.1.1, 8, .inl (fun _ => 0))), (q2, .inl (g.2.1.1, 8, .inl (fun _ => 0))), (q3, .inl (g.2.1.1, 8, .inl (fun _ => 0))), (q4, .inl (g.2.1.1, 12, .inl (fun _ => 0))), (q5, .inl (g.2.1.1, 12, .inl (fun _ => 0))), (q6, .inl (g.2.1.1, 12, .inl (fun _ => 0))), (q7, .inl (g.2.1.1, 12, .inl (fun _ => 0)))] ++ wX7 g a8) C 0 fu_0_44 rfl rfl rfl (Nat.le_of_ble_eq_true rfl) rfl dX0_init_78 ?_
  refine ac_aload_n (pc := 81) C 0 dX0_init_81 rfl rfl ?_
  refine ac_bipush (pc := 82) C dX0_init_82 (by decide) ?_
  refine ac_put (pc := 84) (ws' := [(h0, .inr (0, [.ref q1, .ref q2, .ref q3, .ref q4, .ref q5, .ref q6, .ref q7, .ref (a8 0), vi 0, vi 0, vi 75, .int 0, .int 0, .int 0])), (q1, .inl (g.2.1.1, 8, .inl (fun _ => 0))), (q2, .inl (g.2.1.1, 8, .inl (fun _ => 0))), (q3, .inl (g.2.1.1, 8, .inl (fun _ => 0))), (q4, .inl (g.2.1.1, 12, .inl (fun _ => 0))), (q5, .inl (g.2.1.1, 12, .inl (fun _ => 0))), (q6, .inl (g.2.1.1, 12, .inl (fun _ => 0))), (q7, .inl (g.2.1.1, 12, .inl (fun _ => 0)))] ++ wX7 g a8) C 0 fu_0_47 rfl rfl rfl (Nat.le_of_ble_eq_true rfl) rfl dX0_init_84 ?_
  refine ac_aload_n (pc := 87) C 0 dX0_init_87 rfl rfl ?_
  refine ac_iconst (pc := 88) C dX0_init_88 ?_
  refine ac_put (pc := 89) (ws' := [(h0, .inr (0, [.ref q1, .ref q2, .ref q3, .ref q4, .ref q5, .ref q6, .ref q7, .ref (a8 0), vi 0, vi 0, vi 75, vi 0, .int 0, .int 0])), (q1, .inl (g.2.1.1, 8, .inl (fun _ => 0))), (q2, .inl (g.2.1.1, 8, .inl (fun _ => 0))), (q3, .inl (g.2.1.1, 8, .inl (fun _ => 0))), (q4, .inl (g.2.1.1, 12, .inl (fun _ => 0))), (q5, .inl (g.2.1.1, 12, .inl (fun _ => 0))), (q6, .inl (g.2.1.1, 12, .inl (fun _ => 0))), (q7, .inl (g.2.1.1, 12, .inl (fun _ => 0)))] ++ wX7 g a8) C 0 fu_0_50 rfl rfl rfl (Nat.le_of_ble_eq_true rfl) rfl dX0_init_89 ?_
  refine ac_aload_n (pc := 92) C 0 dX0_init_92 rfl rfl ?_
  refine ac_iconst (pc := 93) C dX0_init_93 ?_
  refine ac_put (pc := 94) (ws' := [(h0, .inr (0, [.ref q1, .ref q2, .ref q3, .ref q4, .ref q5, .ref q6, .ref q7, .ref (a8 0), vi 0, vi 0, vi 75, vi 0, vi 0, .int 0])), (q1, .inl (g.2.1.1, 8, .inl (fun _ => 0))), (q2, .inl (g.2.1.1, 8, .inl (fun _ => 0))), (q3, .inl (g.2.1.1, 8, .inl (fun _ => 0))), (q4, .inl (g.2.1.1, 12, .inl (fun _ => 0))), (q5, .inl (g.2.1.1, 12, .inl (fun _ => 0))), (q6, .inl (g.2.1.1, 12, .inl (fun _ => 0))), (q7, .inl (g.2.1.1, 12, .inl (fun _ => 0)))] ++ wX7 g a8) C 0 fu_0_53 rfl rfl rfl (Nat.le_of_ble_eq_true rfl) rfl dX0_init_94 ?_
  refine ac_aload_n (pc := 97) C 0 dX0_init_97 rfl rfl ?_
  refine ac_iconst (pc := 98) C dX0_init_98 ?_
  refine ac_put (pc := 99) (ws' := [(h0, .inr (0, [.ref q1, .ref q2, .ref q3, .ref q4, .ref q5, .ref q6, .ref q7, .ref (a8 0), vi 0, vi 0, vi 75, vi 0, vi 0, vi 0])), (q1, .inl (g.2.1.1, 8, .inl (fun _ => 0))), (q2, .inl (g.2.1.1, 8, .inl (fun _ => 0))), (q3, .inl (g.2.1.1, 8, .inl (fun _ => 0))), (q4, .inl (g.2.1.1, 12, .inl (fun _ => 0))), (q5, .inl (g.2.1.1, 12, .inl (fun _ => 0))), (q6, .inl (g.2.1.1, 12, .inl (fun _ => 0))), (q7, .inl (g.2.1.1, 12, .inl (fun _ => 0)))] ++ wX7 g a8) C 0 fu_0_56 rfl rfl rfl (Nat.le_of_ble_eq_true rfl) rfl dX0_init_99 ?_
  exact ac_ret (pc := 102) C hr hlk (fun i => ([h0, q1, q2, q3, q4, q5, q6, q7, a8 0, a8 1, a8 2, a8 3, a8 4] : List Nat).getD i 0) rfl rfl dX0_init_102
abbrev wX3 (g : Geo) (a : Nat → Nat) : va_W := [(a 0, .inr (3, [.ref (a 1), .ref (a 5), .ref (a 10), vi 0]))] ++ wX5 g (fun i => a (i + 1)) ++ wX7 g (fun i => a (i + 5)) ++ [(a 10, .inl (g.2.1.1, 12, .inl (fun _ => 0)))]
abbrev rn_X3 : Room := { frames := 2, cells := 10, slots := 207, locals := 40 }
set_option maxHeartbeats 4000000 in
set_option maxRecDepth 100000 in
theorem n_X3_init (l : Launch) (g : Geo) : MtN nestL l g yX3_init cX3_init 1 rn_X3 3 [.null, .null, .null, .int 0] (wX3 g) 10 207 := by
  refine MtN.of (own := RX3) (by decide +kernel) rfl rfl (Nat.le_refl 1) ?_
  intro h0 p e s m args below meth c C hr hlk hN
  refine ac_aload_n (pc := 0) C 0 dX3_init_0 rfl rfl ?_
  refine ac_obj (pc := 1) C ob_3_3 oi_i oi_c ⟨Nat.le_of_ble_eq_true rfl, Nat.le_of_ble_eq_true rfl⟩ dX3_init_1 ?_
  refine ac_aload_n (pc := 4) C 0 dX3_init_4 rfl rfl ?_
  refine ac_new (pc := 5) (cl' := 1) (sl' := 4) C fn_3_9 rfl rfl ⟨Nat.le_of_ble_eq_true rfl, Nat.le_of_ble_eq_true rfl⟩ dX3_init_5 (fun q1 => ?_)
  refine ac_dup (pc := 8) C dX3_init_8 rfl ?_
  refine ac_callI (pc := 9) (q := q1) (wr := [(h0, .inr (3, [.null, .null, .null, .int 0]))]) (cl' := 4) (sl' := 94) C hN nestL_ok (n_X5_init l g) ki_3_11 (host := RX11) (List.mem_of_getElem? (i := 6) rfl) (by first | rfl | simp only [List.append_assoc]) (Nat.le_of_ble_eq_true rfl) ⟨rfl, rfl, Nat.le_of_ble_eq_true rfl, Nat.le_of_ble_eq_true rfl⟩ rfl rfl ⟨Nat.le_of_ble_eq_true rfl, Nat.le_of_ble_eq_true rfl⟩ dX3_init_9 (fun a1 ea1 => ?_)
  subst ea1
  refine ac_putF (pc := 12) (ws' := [(h0, .inr (3, [.ref (a1 0), .null, .null, .int 0]))] ++ wX5 g a1) C 0 fuf_3_12 rfl rfl rfl (Nat.le_of_ble_eq_true rfl) rfl dX3_init_12 ?_
  refine ac_aload_n (pc := 15) C 0 dX3_init_15 rfl rfl ?_
  refine ac_new (pc := 16) (cl' := 5) (sl' := 99) C fn_3_18 rfl rfl ⟨Nat.le_of_ble_eq_true rfl, Nat.le_of_ble_eq_true rfl⟩ dX3_init_16 (fun q2 => ?_)
  refine ac_dup (pc := 19) C dX3_init_19 rfl ?_
  refine ac_callI (pc := 20) (q := q2) (wr := [(h0, .inr (3, [.ref (a1 0), .null, .null, .int 0]))] ++ wX5 g a1) (cl' := 9) (sl' := 195) C hN nestL_ok (n_X7_init l g) ki_3_20 (host := RX11) (List.mem_of_getElem? (i := 7) rfl) (by first | rfl | simp only [List.append_assoc]) (Nat.le_of_ble_eq_true rfl) ⟨rfl, rfl, Nat.le_of_ble_eq_true rfl, Nat.le_of_ble_eq_true rfl⟩ rfl rfl ⟨Nat.le_of_ble_eq_true rfl, Nat.le_of_ble_eq_true rfl⟩ dX3_init_20 (fun a2 ea2 => ?_)
  subst ea2
  refine ac_putF (pc := 23) (ws' := [(h0, .inr (3, [.ref (a1 0), .ref (a2 0), .null, .int 0]))] ++ wX5 g a1 ++ wX7 g a2) C 0 fuf_3_21 rfl rfl rfl (Nat.le_of_ble_eq_true rfl) rfl dX3_init_23 ?_
  refine ac_aload_n (pc := 26) C 0 dX3_init_26 rfl rfl ?_
  refine ac_bipush (pc := 27) C dX3_init_27 (by decide) ?_
  refine ac_newa (pc := 29) (atype := .int) (ty := .int) (cA := g.2.1.1) (a0 := (12, .inl (fun _ => 0))) (N' := 12) (cl' := 10) (sl' := 207) C 0 rfl (Or.inl rfl) ar_int rfl (fun _ => rfl) rfl (Nat.le_of_ble_eq_true rfl) rfl rfl ⟨Nat.le_of_ble_eq_true rfl, Nat.le_of_ble_eq_true rfl⟩ dX3_init_29 (fun q3 => ?_)
  show AtC p l e _ s m args below meth c g _ _ _ 10 207 31 _ _ ([(h0, .inr (3, [.ref (a1 0), .ref (a2 0), .null, .int 0]))] ++ wX5 g a1 ++ wX7 g a2 ++ [(q3, .inl (g.2.1.1, 12, .inl (fun _ => 0)))])
  refine ac_putF (pc := 31) (ws' := [(h0, .inr (3, [.ref (a1 0), .ref (a2 0), .ref q3, .int 0]))] ++ wX5 g a1 ++ wX7 g a2 ++ [(q3, .inl (g.2.1.1, 12, .inl (fun _ => 0)))]) C 0 fuf_3_25 rfl rfl rfl (Nat.le_of_ble_eq_true rfl) rfl dX3_init_31 ?_
  refine ac_aload_n (pc := 34) C 0 dX3_init_34 rfl rfl ?_
  refine ac_iconst (pc := 35) C dX3_init_35 ?_
  refine ac_put (pc := 36) (ws' := [(h0, .inr (3, [.ref (a1 0), .ref (a2 0), .ref q3, vi 0]))] ++ wX5 g a1 ++ wX7 g a2 ++ [(q3, .inl (g.2.1.1, 12, .inl (fun _ => 0)))]) C 0 fu_3_29 rfl rfl rfl (Nat.le_of_ble_eq_true rfl) rfl dX3_init_36 ?_
  exact ac_ret (pc := 39) C hr hlk (fun i => ([h0, a1 0, a1 1, a1 2, a1 3, a2 0, a2 1, a2 2, a2 3, a2 4, q3] : List Nat).getD i 0) rfl rfl dX3_init_39
abbrev wX11 (g : Geo) (a : Nat → Nat) : va_W := [(a 0, .inr (11, [.ref (a 1), .ref (a 3), .ref (a 16), .ref (a 29), .ref (a 33), .ref (a 35), .ref (a 46), .ref (a 52), .ref (a 55), .ref (a 58), .ref (a 68), .ref (a 73), .ref (a 77), .ref (a 80), .ref (a 83), .ref (a 93), vi 0, vi 0]))] ++ wX8 g (fun i => a (i + 1)) ++ wX0 g (fun i => a (i + 3)) ++ wX0 g (fun i => a (i + 16)) ++ wX5 g (fun i => a (i + 29)) ++ wX2 g (fun i => a (i + 33)) ++ wX3 g (fun i => a (i + 35)) ++ wX10 g (fun i => a (i + 46)) ++ wX4 g (fun i => a (i + 52)) ++ wX6 g (fun i => a (i + 55)) ++ wX1 g (fun i => a (i + 58)) ++ wX9 g (fun i => a (i + 68)) ++ wX5 g (fun i => a (i + 73)) ++ wX4 g (fun i => a (i + 77)) ++ wX6 g (fun i => a (i + 80)) ++ wX1 g (fun i => a (i + 83)) ++ [(a 93, .inl (g.2.1.1, 12, .inl (fun _ => 0)))]
abbrev rn_X11 : Room := { frames := 3, cells := 93, slots := 3921, locals := 60 }
set_option maxHeartbeats 4000000 in
set_option maxRecDepth 100000 in
theorem n_X11_init (l : Launch) (g : Geo) : MtN nestL l g yX11_init cX11_init 1 rn_X11 11 [.null, .null, .null, .null, .null, .null, .null, .null, .null, .null, .null, .null, .null, .null, .null, .null, .int 0, .int 0] (wX11 g) 93 3921 := by
  refine MtN.of (own := RX11) (by decide +kernel) rfl rfl (Nat.le_refl 1) ?_
  intro h0 p e s m args below meth c C hr hlk hN
  refine ac_aload_n (pc := 0) C 0 dX11_init_0 rfl rfl ?_
  refine ac_obj (pc := 1) C ob_11_1 oi_i oi_c ⟨Nat.le_of_ble_eq_true rfl, Nat.le_of_ble_eq_true rfl⟩ dX11_init_1 ?_
  refine ac_aload_n (pc := 4) C 0 dX11_init_4 rfl rfl ?_
  refine ac_new (pc := 5) (cl' := 1) (sl' := 11) C fn_11_7 rfl rfl ⟨Nat.le_of_ble_eq_true rfl, Nat.le_of_ble_eq_true rfl⟩ dX11_init_5 (fun q1 => ?_)
  refine ac_dup (pc := 8) C dX11_init_8 rfl ?_
  refine ac_callI (pc := 9) (q := q1) (wr := [(h0, .inr (11, [.null, .null, .null, .null, .null, .null, .null, .null, .null, .null, .null, .null, .null, .null, .null, .null, .int 0, .int 0]))]) (cl' := 2) (sl' := 711) C hN nestL_ok (n_X8_init l g) ki_11_9 (host := RX11) (List.mem_of_getElem? (i := 0) rfl) (by first | rfl | simp only [List.append_assoc]) (Nat.le_of_ble_eq_true rfl) ⟨rfl, rfl, Nat.le_of_ble_eq_true rfl, Nat.le_of_ble_eq_true rfl⟩ rfl rfl ⟨Nat.le_of_ble_eq_true rfl, Nat.le_of_ble_eq_true rfl⟩ dX11_init_9 (fun a1 ea1 => ?_)
  subst ea1
  refine ac_putF (pc := 12) (ws' := [(h0, .inr (11, [.ref (a1 0), .null, .null, .null, .null, .null, .null, .null, .null, .null, .null, .null, .null, .null, .null, .null, .int 0, .int 0]))] ++ wX8 g a1) C 0 fuf_11_10 rfl rfl rfl (Nat.le_of_ble_eq_true rfl) rfl dX11_init_12 ?_
  refine ac_aload_n (pc := 15) C 0 dX11_init_15 rfl rfl ?_
  refine ac_new (pc := 16) (cl' := 3) (sl' := 725) C fn_11_16 rfl rfl ⟨Nat.le_of_ble_eq_true rfl, Nat.le_of_ble_eq_true rfl⟩ dX11_init_16 (fun q2 => ?_)
  refine ac_dup (pc := 19) C dX11_init_19 rfl ?_
  refine ac_callI (pc := 20) (q := q2) (wr := [(h0, .inr (11, [.ref (a1 0), .null, .null, .null, .null, .null, .null, .null, .null, .null, .null, .null, .null, .null, .null, .null, .int 0, .int 0]))] ++ wX8 g a1) (cl' := 15) (sl' := 898) C hN nestL_ok (n_X0_init l g) ki_11_18 (host := RX11) (List.mem_of_getElem? (i := 1) rfl) (by first | rfl | simp only [List.append_assoc]) (Nat.le_of_ble_eq_true rfl) ⟨rfl, rfl, Nat.le_of_ble_eq_true rfl, Nat.le_of_ble_eq_true rfl⟩ rfl rfl ⟨Nat.le_of_ble_eq_true rfl, Nat.le_of_ble_eq_true rfl⟩ dX11_init_20 (fun a2 ea2 => ?_)
  subst ea2
  refine ac_put (pc := 23) (ws' := [(h0, .inr (11, [.ref (a1 0), .ref (a2 0), .null, .null, .null, .null, .null, .null, .null, .null, .null, .null, .null, .null, .null, .null, .int 0, .int 0]))] ++ wX8 g a1 ++ wX0 g a2) C 0 fu_11_19 rfl rfl rfl (Nat.le_of_ble_eq_true rfl) rfl dX11_init_23 ?_
  refine ac_aload_n (pc := 26) C 0 dX11_init_26 rfl rfl ?_
  refine ac_new (pc := 27) (cl' := 16) (sl' := 912) C fn_11_16 rfl rfl ⟨Nat.le_of_ble_eq_true rfl, Nat.le_of_ble_eq_true rfl⟩ dX11_init_27 (fun q3 => ?_)
  refine ac_dup (pc := 30) C dX11_init_30 rfl ?_
  refine ac_callI (pc := 31) (q := q3) (wr := [(h0, .inr (11, [.ref (a1 0), .ref (a2 0), .null, .null, .null, .null, .null, .null, .null, .null, .null, .null, .null, .null, .null, .null, .int 0, .int 0]))] ++ wX8 g a1 ++ wX0 g a2) (cl' := 28) (sl' := 1085) C hN nestL_ok (n_X0_init l g) ki_11_18 (host := RX11) (List.mem_of_getElem? (i := 1) rfl) (by first | rfl | simp only [List.append_assoc]) (Nat.le_of_ble_eq_true rfl) ⟨rfl, rfl, Nat.le_of_ble_eq_true rfl, Nat.le_of_ble_eq_true rfl⟩ rfl rfl ⟨Nat.le_of_ble_eq_true rfl, Nat.le_of_ble_eq_true rfl⟩ dX11_init_31 (fun a3 ea3 => ?_)
  subst ea3
  refine ac_put (pc := 34) (ws' := [(h0, .inr (11, [.ref (a1 0), .ref (a2 0), .ref (a3 0), .null, .null, .null, .null, .null, .null, .null, .null, .null, .null, .null, .null, .null, .int 0, .int 0]))] ++ wX8 g a1 ++ wX0 g a2 ++ wX0 g a3) C 0 fu_11_23 rfl rfl rfl (Nat.le_of_ble_eq_true rfl) rfl dX11_init_34 ?_
  refine ac_aload_n (pc := 37) C 0 dX11_init_37 rfl rfl ?_
  refine ac_new (pc := 38) (cl' := 29) (sl' := 1089) C fn_11_26 rfl rfl ⟨Nat.le_of_ble_eq_true rfl, Nat.le_of_ble_eq_true rfl⟩ dX11_init_38 (fun q4 => ?_)
  refine ac_dup (pc := 41) C dX11_init_41 rfl ?_
  refine ac_callI (pc := 42) (q := q4) (wr := [(h0, .inr (11, [.ref (a1 0), .ref (a2 0), .ref (a3 0), .null, .null, .null, .null, .null, .null, .null, .null, .null, .null, .null, .null, .null, .int 0, .int 0]))] ++ wX8 g a1 ++ wX0 g a2 ++ wX0 g a3) (cl' := 32) (sl' := 1179) C hN nestL_ok (n_X5_init l g) ki_11_28 (host := RX11) (List.mem_of_getElem? (i := 3) rfl) (by first | rfl | simp only [List.append_assoc]) (Nat.le_of_ble_eq_true rfl) ⟨rfl, rfl, Nat.le_of_ble_eq_true rfl, Nat.le_of_ble_eq_true rfl⟩ rfl rfl ⟨Nat.le_of_ble_eq_true rfl, Nat.le_of_ble_eq_true rfl⟩ dX11_init_42 (fun a4 ea4 => ?_)
  subst ea4
  refine ac_putF (pc := 45) (ws' := [(h0, .inr (11, [.ref (a1 0), .ref (a2 0), .ref (a3 0), .ref (a4 0), .null, .null, .null, .null, .null, .null, .null, .null, .null, .null, .null, .null, .int 0, .int 0]))] ++ wX8 g a1 ++ wX0 g a2 ++ wX0 g a3 ++ wX5 g a4) C 0 fuf_11_29 rfl rfl rfl (Nat.le_of_ble_eq_true rfl) rfl dX11_init_45 ?_
  refine ac_aload_n (pc := 48) C 0 dX11_init_48 rfl rfl ?_
  refine ac_new (pc := 49) (cl' := 33) (sl' := 1181) C fn_11_33 rfl rfl ⟨Nat.le_of_ble_eq_true rfl, Nat.le_of_ble_eq_true rfl⟩ dX11_init_49 (fun q5 => ?_)
  refine ac_dup (pc := 52) C dX11_init_52 rfl ?_
  refine ac_callI (pc := 53) (q := q5) (wr := [(h0, .inr (11, [.ref (a1 0), .ref (a2 0), .ref (a3 0), .ref (a4 0), .null, .null, .null, .null, .null, .null, .null, .null, .null, .null, .null, .null, .int 0, .int 0]))] ++ wX8 g a1 ++ wX0 g a2 ++ wX0 g a3 ++ wX5 g a4) (cl' := 34) (sl' := 1281) C hN nestL_ok (n_X2_init l g) ki_11_35 (host := RX11) (List.mem_of_getElem? (i := 4) rfl) (by first | rfl | simp only [List.append_assoc]) (Nat.le_of_ble_eq_true rfl) ⟨rfl, rfl, Nat.le_of_ble_eq_true rfl, Nat.le_of_ble_eq_true rfl⟩ rfl rfl ⟨Nat.le_of_ble_eq_true rfl, Nat.le_of_ble_eq_true rfl⟩ dX11_init_53 (fun a5 ea5 => ?_)
  subst ea5
  refine ac_putF (pc := 56) (ws' := [(h0, .inr (11, [.ref (a1 0), .ref (a2 0), .ref (a3 0), .ref (a4 0), .ref (a5 0), .null, .null, .null, .null, .null, .null, .null, .null, .null, .null, .null, .int 0, .int 0]))] ++ wX8 g a1 ++ wX0 g a2 ++ wX0 g a3 ++ wX5 g a4 ++ wX2 g a5) C 0 fuf_11_36 rfl rfl rfl (Nat.le_of_ble_eq_true rfl) rfl dX11_init_56 ?_
  refine ac_aload_n (pc := 59) C 0 dX11_init_59 rfl rfl ?_
  refine ac_new (pc := 60) (cl' := 35) (sl' := 1285) C fn_11_40 rfl rfl ⟨Nat.le_of_ble_eq_true rfl, Nat.le_of_ble_eq_true rfl⟩ dX11_init_60 (fun q6 => ?_)
  refine ac_dup (pc := 63) C dX11_init_63 rfl ?_
  refine ac_callI (pc := 64) (q := q6) (wr := [(h0, .inr (11, [.ref (a1 0), .ref (a2 0), .ref (a3 0), .ref (a4 0), .ref (a5 0), .null, .null, .null, .null, .null, .null, .null, .null, .null, .null, .null, .int 0, .int 0]))] ++ wX8 g a1 ++ wX0 g a2 ++ wX0 g a3 ++ wX5 g a4 ++ wX2 g a5) (cl' := 45) (sl' := 1492) C hN nestL_ok (n_X3_init l g) ki_11_42 (host := RX11) (List.mem_of_getElem? (i := 5) rfl) (by first | rfl | simp only [List.append_assoc]) (Nat.le_of_ble_eq_true rfl) ⟨rfl, rfl, Nat.le_of_ble_eq_true rfl, Nat.le_of_ble_eq_true rfl⟩ rfl rfl ⟨Nat.le_of_ble_eq_true rfl, Nat.le_of_ble_eq_true rfl⟩ dX11_init_64 (fun a6 ea6 => ?_)
  subst ea6
  refine ac_putF (pc := 67) (ws' := [(h0, .inr (11, [.ref (a1 0), .ref (a2 0), .ref (a3 0), .ref (a4 0), .ref (a5 0), .ref (a6 0), .null, .null, .null, .null, .null, .null, .null, .null, .null, .null, .int 0, .int 0]))] ++ wX8 g a1 ++ wX0 g a2 ++ wX0 g a3 ++ wX5 g a4 ++ wX2 g a5 ++ wX3 g a6) C 0 fuf_11_43 rfl rfl rfl (Nat.le_of_ble_eq_true rfl) rfl dX11_init_67 ?_
  refine ac_aload_n (pc := 70) C 0 dX11_init_70 rfl rfl ?_
  refine ac_new (pc := 71) (cl' := 46) (sl' := 1498) C fn_11_47 rfl rfl ⟨Nat.le_of_ble_eq_true rfl, Nat.le_of_ble_eq_true rfl⟩ dX11_init_71 (fun q7 => ?_)
  refine ac_dup (pc := 74) C dX11_init_74 rfl ?_
  refine ac_callI (pc := 75) (q := q7) (wr := [(h0, .inr (11, [.ref (a1 0), .ref (a2 0), .ref (a3 0), .ref (a4 0), .ref (a5 0), .ref (a6 0), .null, .null, .null, .null, .null, .null, .null, .null, .null, .null, .int 0, .int 0]))] ++ wX8 g a1 ++ wX0 g a2 ++ wX0 g a3 ++ wX5 g a4 ++ wX2 g a5 ++ wX3 g a6) (cl' := 51) (sl' := 1706) C hN nestL_ok (n_X10_init l g) ki_11_49 (host := RX11) (List.mem_of_getElem? (i := 8) rfl) (by first | rfl | simp only [List.append_assoc]) (Nat.le_of_ble_eq_true rfl) ⟨rfl, rfl, Nat.le_of_ble_eq_true rfl, Nat.le_of_ble_eq_true rfl⟩ rfl rfl ⟨Nat.le_of_ble_eq_true rfl, Nat.le_of_ble_eq_true rfl⟩ dX11_init_75 (fun a7 ea7 => ?_)
  subst ea7
  refine ac_putF (pc := 78) (ws' := [(h0, .inr (11, [.ref (a1 0), .ref (a2 0), .ref (a3 0), .ref (a4 0), .ref (a5 0), .ref (a6 0), .ref (a7 0), .null, .null, .null, .null, .null, .null, .null, .null, .null, .int 0, .int 0]))] ++ wX8 g a1 ++ wX0 g a2 ++ wX0 g a3 ++ wX5 g a4 ++ wX2 g a5 ++ wX3 g a6 ++ wX10 g a7) C 0 fuf_11_50 rfl rfl rfl (Nat.le_of_ble_eq_true rfl) rfl dX11_init_78 ?_
  refine ac_aload_n (pc := 81) C 0 dX11_init_81 rfl rfl ?_
  refine ac_new (pc := 82) (cl' := 52) (sl' := 1709) C fn_11_54 rfl rfl ⟨Nat.le_of_ble_eq_true rfl, Nat.le_of_ble_eq_true rfl⟩ dX11_init_82 (fun q8 => ?_)
  refine ac_dup (pc := 85) C dX11_init_85 rfl ?_
  refine ac_callI (pc := 86) (q := q8) (wr := [(h0, .inr (11, [.ref (a1 0), .ref (a2 0), .ref (a3 0), .ref (a4 0), .ref (a5 0), .ref (a6 0), .ref (a7 0), .null, .null, .null, .null, .null, .null, .null, .null, .null, .int 0, .int 0]))] ++ wX8 g a1 ++ wX0 g a2 ++ wX0 g a3 ++ wX5 g a4 ++ wX2 g a5 ++ wX3 g a6 ++ wX10 g a7) (cl' := 54) (sl' := 1934) C hN nestL_ok (n_X4_init l g) ki_11_56 (host := RX11) (List.mem_of_getElem? (i := 9) rfl) (by first | rfl | simp only [List.append_assoc]) (Nat.le_of_ble_eq_true rfl) ⟨rfl, rfl, Nat.le_of_ble_eq_true rfl, Nat.le_of_ble_eq_true rfl⟩ rfl rfl ⟨Nat.le_of_ble_eq_true rfl, Nat.le_of_ble_eq_true rfl⟩ dX11_init_86 (fun a8 ea8 => ?_)
  subst ea8
  refine ac_putF (pc := 89) (ws' := [(h0, .inr (11, [.ref (a1 0), .ref (a2 0), .ref (a3 0), .ref (a4 0), .ref (a5 0), .ref (a6 0), .ref (a7 0), .ref (a8 0), .null, .null, .null, .null, .null, .null, .null, .null, .int 0, .int 0]))] ++ wX8 g a1 ++ wX0 g a2 ++ wX0 g a3 ++ wX5 g a4 ++ wX2 g a5 ++ wX3 g a6 ++ wX10 g a7 ++ wX4 g a8) C 0 fuf_11_57 rfl rfl rfl (Nat.le_of_ble_eq_true rfl) rfl dX11_init_89 ?_
  refine ac_aload_n (pc := 92) C 0 dX11_init_92 rfl rfl ?_
  refine ac_new (pc := 93) (cl' := 55) (sl' := 1936) C fn_11_61 rfl rfl ⟨Nat.le_of_ble_eq_true rfl, Nat.le_of_ble_eq_true rfl⟩ dX11_init_93 (fun q9 => ?_)
  refine ac_dup (pc := 96) C dX11_init_96 rfl ?_
  refine ac_callI (pc := 97) (q := q9) (wr := [(h0, .inr (11, [.ref (a1 0), .ref (a2 0), .ref (a3 0), .ref (a4 0), .ref (a5 0), .ref (a6 0), .ref (a7 0), .ref (a8 0), .null, .null, .null, .null, .null, .null, .null, .null, .int 0, .int 0]))] ++ wX8 g a1 ++ wX0 g a2 ++ wX0 g a3 ++ wX5 g a4 ++ wX2 g a5 ++ wX3 g a6 ++ wX10 g a7 ++ wX4 g a8) (cl' := 57) (sl' := 2224) C hN nestL_ok (n_X6_init l g) ki_11_63 (host := RX11) (List.mem_of_getElem? (i := 10) rfl) (by first | rfl | simp only [List.append_assoc]) (Nat.le_of_ble_eq_true rfl) ⟨rfl, rfl, Nat.le_of_ble_eq_true rfl, Nat.le_of_ble_eq_true rfl⟩ rfl rfl ⟨Nat.le_of_ble_eq_true rfl, Nat.le_of_ble_eq_true rfl⟩ dX11_init_97 (fun a9 ea9 => ?_)
  subst ea9
  refine ac_putF (pc := 100) (ws' := [(h0, .inr (11, [.ref (a1 0), .ref (a2 0), .ref (a3 0), .ref (a4 0), .ref (a5 0), .ref (a6 0), .ref (a7 0), .ref (a8 0), .ref (a9 0), .null, .null, .null, .null, .null, .null, .null, .int 0, .int 0]))] ++ wX8 g a1 ++ wX0 g a2 ++ wX0 g a3 ++ wX5 g a4 ++ wX2 g a5 ++ wX3 g a6 ++ wX10 g a7 ++ wX4 g a8 ++ wX6 g a9) C 0 fuf_11_64 rfl rfl rfl (Nat.le_of_ble_eq_true rfl) rfl dX11_init_100 ?_
  refine ac_aload_n (pc := 103) C 0 dX11_init_103 rfl rfl ?_
  refine ac_new (pc := 104) (cl' := 58) (sl' := 2238) C fn_11_68 rfl rfl ⟨Nat.le_of_ble_eq_true rfl, Nat.le_of_ble_eq_true rfl⟩ dX11_init_104 (fun q10 => ?_)
  refine ac_dup (pc := 107) C dX11_init_107 rfl ?_
  refine ac_callI (pc := 108) (q := q10) (wr := [(h0, .inr (11, [.ref (a1 0), .ref (a2 0), .ref (a3 0), .ref (a4 0), .ref (a5 0), .ref (a6 0), .ref (a7 0), .ref (a8 0), .ref (a9 0), .null, .null, .null, .null, .null, .null, .null, .int 0, .int 0]))] ++ wX8 g a1 ++ wX0 g a2 ++ wX0 g a3 ++ wX5 g a4 ++ wX2 g a5 ++ wX3 g a6 ++ wX10 g a7 ++ wX4 g a8 ++ wX6 g a9) (cl' := 67) (sl' := 2742) C hN nestL_ok (n_X1_init l g) ki_11_70 (host := RX11) (List.mem_of_getElem? (i := 11) rfl) (by first | rfl | simp only [List.append_assoc]) (Nat.le_of_ble_eq_true rfl) ⟨rfl, rfl, Nat.le_of_ble_eq_true rfl, Nat.le_of_ble_eq_true rfl⟩ rfl rfl ⟨Nat.le_of_ble_eq_true rfl, Nat.le_of_ble_eq_true rfl⟩ dX11_init_108 (fun a10 ea10 => ?_)
  subst ea10
  refine ac_putF (pc := 111) (ws' := [(h0, .inr (11, [.ref (a1 0), .ref (a2 0), .ref (a3 0), .ref (a4 0), .ref (a5 0), .ref (a6 0), .ref (a7 0), .ref (a8 0), .ref (a9 0), .ref (a10 0), .null, .null, .null, .null, .null, .null, .int 0, .int 0]))] ++ wX8 g a1 ++ wX0 g a2 ++ wX0 g a3 ++ wX5 g a4 ++ wX2 g a5 ++ wX3 g a6 ++ wX10 g a7 ++ wX4 g a8 ++ wX6 g a9 ++ wX1 g a10) C 0 fuf_11_71 rfl rfl rfl (Nat.le_of_ble_eq_true rfl) rfl dX11_init_111 ?_
  refine ac_aload_n (pc := 114) C 0 dX11_init_114 rfl rfl ?_
  refine ac_new (pc := 115) (cl' := 68) (sl' := 2747) C fn_11_75 rfl rfl ⟨Nat.le_of_ble_eq_true rfl, Nat.le_of_ble_eq_true rfl⟩ dX11_init_115 (fun q11 => ?_)
  refine ac_dup (pc := 118) C dX11_init_118 rfl ?_
  refine ac_callI (pc := 119) (q := q11) (wr := [(h0, .inr (11, [.ref (a1 0), .ref (a2 0), .ref (a3 0), .ref (a4 0), .ref (a5 0), .ref (a6 0), .ref (a7 0), .ref (a8 0), .ref (a9 0), .ref (a10 0), .null, .null, .null, .null, .null, .null, .int 0, .int 0]))] ++ wX8 g a1 ++ wX0 g a2 ++ wX0 g a3 ++ wX5 g a4 ++ wX2 g a5 ++ wX3 g a6 ++ wX10 g a7 ++ wX4 g a8 ++ wX6 g a9 ++ wX1 g a10) (cl' := 72) (sl' := 2779) C hN nestL_ok (n_X9_init l g) ki_11_77 (host := RX11) (List.mem_of_getElem? (i := 12) rfl) (by first | rfl | simp only [List.append_assoc]) (Nat.le_of_ble_eq_true rfl) ⟨rfl, rfl, Nat.le_of_ble_eq_true rfl, Nat.le_of_ble_eq_true rfl⟩ rfl rfl ⟨Nat.le_of_ble_eq_true rfl, Nat.le_of_ble_eq_true rfl⟩ dX11_init_119 (fun a11 ea11 => ?_)
  subst ea11
  refine ac_putF (pc := 122) (ws' := [(h0, .inr (11, [.ref (a1 0), .ref (a2 0), .ref (a3 0), .ref (a4 0), .ref (a5 0), .ref (a6 0), .ref (a7 0), .ref (a8 0), .ref (a9 0), .ref (a10 0), .ref (a11 0), .null, .null, .null, .null, .null, .int 0, .int 0]))] ++ wX8 g a1 ++ wX0 g a2 ++ wX0 g a3 ++ wX5 g a4 ++ wX2 g a5 ++ wX3 g a6 ++ wX10 g a7 ++ wX4 g a8 ++ wX6 g a9 ++ wX1 g a10 ++ wX9 g a11) C 0 fuf_11_78 rfl rfl rfl (Nat.le_of_ble_eq_true rfl) rfl dX11_init_122 ?_
  refine ac_aload_n (pc := 125) C 0 dX11_init_125 rfl rfl ?_
  refine ac_new (pc := 126) (cl' := 73) (sl' := 2783) C fn_11_26 rfl rfl ⟨Nat.le_of_ble_eq_true rfl, Nat.le_of_ble_eq_true rfl⟩ dX11_init_126 (fun q12 => ?_)
  refine ac_dup (pc := 129) C dX11_init_129 rfl ?_
  refine ac_callI (pc := 130) (q := q12) (wr := [(h0, .inr (11, [.ref (a1 0), .ref (a2 0), .ref (a3 0), .ref (a4 0), .ref (a5 0), .ref (a6 0), .ref (a7 0), .ref (a8 0), .ref (a9 0), .ref (a10 0), .ref (a11 0), .null, .null, .null, .null, .null, .int 0, .int 0]))] ++ wX8 g a1 ++ wX0 g a2 ++ wX0 g a3 ++ wX5 g a4 ++ wX2 g a5 ++ wX3 g a6 ++ wX10 g a7 ++ wX4 g a8 ++ wX6 g a9 ++ wX1 g a10 ++ wX9 g a11) (cl' := 76) (sl' := 2873) C hN nestL_ok (n_X5_init l g) ki_11_28 (host := RX11) (List.mem_of_getElem? (i := 3) rfl) (by first | rfl | simp only [List.append_assoc]) (Nat.le_of_ble_eq_true rfl) ⟨rfl, rfl, Nat.le_of_ble_eq_true rfl, Nat.le_of_ble_eq_true rfl⟩ rfl rfl ⟨Nat.le_of_ble_eq_true rfl, Nat.le_of_ble_eq_true rfl⟩ dX11_init_130 (fun a12 ea12 => ?_)
  subst ea12
  refine ac_putF (pc := 133) (ws' := [(h0, .inr (11, [.ref (a1 0), .ref (a2 0), .ref (a3 0), .ref (a4 0), .ref (a5 0), .ref (a6 0), .ref (a7 0), .ref (a8 0), .ref (a9 0), .ref (a10 0), .ref (a11 0), .ref (a12 0), .null, .null, .null, .null, .int 0, .int 0]))] ++ wX8 g a1 ++ wX0 g a2 ++ wX0 g a3 ++ wX5 g a4 ++ wX2 g a5 ++ wX3 g a6 ++ wX10 g a7 ++ wX4 g a8 ++ wX6 g a9 ++ wX1 g a10 ++ wX9 g a11 ++ wX5 g a12) C 0 fuf_11_82 rfl rfl rfl (Nat.le_of_ble_eq_true rfl) rfl dX11_init_133 ?_
  refine ac_aload_n (pc := 136) C 0 dX11_init_136 rfl rfl ?_
  refine ac_new (pc := 137) (cl' := 77) (sl' := 2876) C fn_11_54 rfl rfl ⟨Nat.le_of_ble_eq_true rfl, Nat.le_of_ble_eq_true rfl⟩ dX11_init_137 (fun q13 => ?_)
  refine ac_dup (pc := 140) C dX11_init_140 rfl ?_
  refine ac_callI (pc := 141) (q := q13) (wr := [(h0, .inr (11, [.ref (a1 0), .ref (a2 0), .ref (a3 0), .ref (a4 0), .ref (a5 0), .ref (a6 0), .ref (a7 0), .ref (a8 0), .ref (a9 0), .ref (a10 0), .ref (a11 0), .ref (a12 0), .null, .null, .null, .null, .int 0, .int 0]))] ++ wX8 g a1 ++ wX0 g a2 ++ wX0 g a3 ++ wX5 g a4 ++ wX2 g a5 ++ wX3 g a6 ++ wX10 g a7 ++ wX4 g a8 ++ wX6 g a9 ++ wX1 g a10 ++ wX9 g a11 ++ wX5 g a12) (cl' := 79) (sl' := 3101) C hN nestL_ok (n_X4_init l g) ki_11_56 (host := RX11) (List.mem_of_getElem? (i := 9) rfl) (by first | rfl | simp only [List.append_assoc]) (Nat.le_of_ble_eq_true rfl) ⟨rfl, rfl, Nat.le_of_ble_eq_true rfl, Nat.le_of_ble_eq_true rfl⟩ rfl rfl ⟨Nat.le_of_ble_eq_true rfl, Nat.le_of_ble_eq_true rfl⟩ dX11_init_141 (fun a13 ea13 => ?_)
  subst ea13
  refine ac_putF (pc := 144) (ws' := [(h0, .inr (11, [.ref (a1 0), .ref (a2 0), .ref (a3 0), .ref (a4 0), .ref (a5 0), .ref (a6 0), .ref (a7 0), .ref (a8 0), .ref (a9 0), .ref (a10 0), .ref (a11 0), .ref (a12 0), .ref (a13 0), .null, .null, .null, .int 0, .int 0]))] ++ wX8 g a1 ++ wX0 g a2 ++ wX0 g a3 ++ wX5 g a4 ++ wX2 g a5 ++ wX3 g a6 ++ wX10 g a7 ++ wX4 g a8 ++ wX6 g a9 ++ wX1 g a10 ++ wX9 g a11 ++ wX5 g a12 ++ wX4 g a13) C 0 fuf_11_85 rfl rfl rfl (Nat.le_of_ble_eq_true rfl) rfl dX11_init_144 ?_
  refine ac_aload_n (pc := 147) C 0 dX11_init_147 rfl rfl ?_
  refine ac_new (pc := 148) (cl' := 80) (sl' := 3103) C fn_11_61 rfl rfl ⟨Nat.le_of_ble_eq_true rfl, Nat.le_of_ble_eq_true rfl⟩ dX11_init_148 (fun q14 => ?_)
  refine ac_dup (pc := 151) C dX11_init_151 rfl ?_
  refine ac_callI (pc := 152) (q := q14) (wr := [(h0, .inr (11, [.ref (a1 0), .ref (a2 0), .ref (a3 0), .ref (a4 0), .ref (a5 0), .ref (a6 0), .ref (a7 0), .ref (a8 0), .ref (a9 0), .ref (a10 0), .ref (a11 0), .ref (a12 0), .ref (a13 0), .null, .null, .null, .int 0, .int 0]))] ++ wX8 g a1 ++ wX0 g a2 ++ wX0 g a3 ++ wX5 g a4 ++ wX2 g a5 ++ wX3 g a6 ++ wX10 g a7 ++ wX4 g a8 ++ wX6 g a9 ++ wX1 g a10 ++ wX9 g a11 ++ wX5 g a12 ++ wX4 g a13) (cl' := 82) (sl' := 3391) C hN nestL_ok (n_X6_init l g) ki_11_63 (host := RX11) (List.mem_of_getElem? (i := 10) rfl) (by first | rfl | simp only [List.append_assoc]) (Nat.le_of_ble_eq_true rfl) ⟨rfl, rfl, Nat.le_of_ble_eq_true rfl, Nat.le_of_ble_eq_true rfl⟩ rfl rfl ⟨Nat.le_of_ble_eq_true rfl, Nat.le_of_ble_eq_true rfl⟩ dX11_init_152 (fun a14 ea14 => ?_)
  subst ea14
  refine ac_putF (pc := 155) (ws' := [(h0, .inr (11, [.ref (a1 0), .ref (a2 0), .ref (a3 0), .ref (a4 0), .ref (a5 0), .ref (a6 0), .ref (a7 0), .ref (a8 0), .ref (a9 0), .ref (a10 0), .ref (a11 0), .ref (a12 0), .ref (a13 0), .ref (a14 0), .null, .null, .int 0, .int 0]))] ++ wX8 g a1 ++ wX0 g a2 ++ wX0 g a3 ++ wX5 g a4 ++ wX2 g a5 ++ wX3 g a6 ++ wX10 g a7 ++ wX4 g a8 ++ wX6 g a9 ++ wX1 g a10 ++ wX9 g a11 ++ wX5 g a12 ++ wX4 g a13 ++ wX6 g a14) C 0 fuf_11_88 rfl rfl rfl (Nat.le_of_ble_eq_true rfl) rfl dX11_init_155 ?_
  refine ac_aload_n (pc := 158) C 0 dX11_init_158 rfl rfl ?_
  refine ac_new (pc := 159) (cl' := 83) (sl' := 3405) C fn_11_68 rfl rfl ⟨Nat.le_of_ble_eq_true rfl, Nat.le_of_ble_eq_true rfl⟩ dX11_init_159 (fun q15 => ?_)
  refine ac_dup (pc := 162) C dX11_init_162 rfl ?_
  refine ac_callI (pc := 163) (q := q15) (wr := [(h0, .inr (11, [.ref (a1 0), .ref (a2 0), .ref (a3 0), .ref (a4 0), .ref (a5 0), .ref (a6 0), .ref (a7 0), .ref (a8 0), .ref (a9 0), .ref (a10 0), .ref (a11 0), .ref (a12 0), .ref (a13 0), .ref (a14 0), .null, .null, .int 0, .int 0]))] ++ wX8 g a1 ++ wX0 g a2 ++ wX0 g a3 ++ wX5 g a4 ++ wX2 g a5 ++ wX3 g a6 ++ wX10 g a7 ++ wX4 g a8 ++ wX6 g a9 ++ wX1 g a10 ++ wX9 g a11 ++ wX5 g a12 ++ wX4 g a13 ++ wX6 g a14) (cl' := 92) (sl' := 3909) C hN nestL_ok (n_X1_init l g) ki_11_70 (host := RX11) (List.mem_of_getElem? (i := 11) rfl) (by first | rfl | simp only [List.append_assoc]) (Nat.le_of_ble_eq_true rfl) ⟨rfl, rfl, Nat.le_of_ble_eq_true rfl, Nat.le_of_ble_eq_true rfl⟩ rfl rfl ⟨Nat.le_of_ble_eq_true rfl, Nat.le_of_ble_eq_true rfl⟩ dX11_init_163 (fun a15 ea15 => ?_)
  subst ea15
  refine ac_putF (pc := 166) (ws' := [(h0, .inr (11, [.ref (a1 0), .ref (a2 0), .ref (a3 0), .ref (a4 0), .ref (a5 0), .ref (a6 0), .ref (a7 0), .ref (a8 0), .ref (a9 0), .ref (a10 0), .ref (a11 0), .ref (a12 0), .ref (a13 0), .ref (a14 0), .ref (a15 0), .null, .int 0, .int 0]))] ++ wX8 g a1 ++ wX0 g a2 ++ wX0 g a3 ++ wX5 g a4 ++ wX2 g a5 ++ wX3 g a6 ++ wX10 g a7 ++ wX4 g a8 ++ wX6 g a9 ++ wX1 g a10 ++ wX9 g a11 ++ wX5 g a12 ++ wX4 g a13 ++ wX6 g a14 ++ wX1 g a15) C 0 fuf_11_91 rfl rfl rfl (Nat.le_of_ble_eq_true rfl) rfl dX11_init_166 ?_
  refine ac_aload_n (pc := 169) C 0 dX11_init_169 rfl rfl ?_
  refine ac_bipush (pc := 170) C dX11_init_170 (by decide) ?_
  refine ac_newa (pc := 172) (atype := .int) (ty := .int) (cA := g.2.1.1) (a0 := (12, .inl (fun _ => 0))) (N' := 12) (cl' := 93) (sl' := 3921) C 0 rfl (Or.inl rfl) ar_int rfl (fun _ => rfl) rfl (Nat.le_of_ble_eq_true rfl) rfl rfl ⟨Nat.le_of_ble_eq_true rfl, Nat.le_of_ble_eq_true rfl⟩ dX11_init_172 (fun q16 => ?_)
  show AtC p l e _ s m args below meth c g _ _ _ 93 3921 174 _ _ ([(h0, .inr (11, [.ref (a1 0), .ref (a2 0), .ref (a3 0), .ref (a4 0), .ref (a5 0), .ref (a6 0), .ref (a7 0), .ref (a8 0), .ref (a9 0), .ref (a10 0), .ref (a11 0), .ref (a12 0), .ref (a13 0), .ref (a14 0), .ref (a15 0), .null, .int 0, .int 0]))] ++ wX8 g a1 ++ wX0 g a2 ++ wX0 g a3 ++ wX5 g a4 ++ wX2 g a5 ++ wX3 g a6 ++ wX10 g a7 ++ wX4 g a8 ++ wX6 g a9 ++ wX1 g a10 ++ wX9 g a11 ++ wX5 g a12 ++ wX4 g a13 ++ wX6 g a14 ++ wX1 g a15 ++ [(q16, .inl (g.2.1.1, 12, .inl (fun _ => 0)))])
  refine ac_putF (pc := 174) (ws' := [(h0, .inr (11, [.ref (a1 0), .ref (a2 0), .ref (a3 0), .ref (a4 0), .ref (a5 0), .ref (a6 0), .ref (a7 0), .ref (a8 0), .ref (a9 0), .ref (a10 0), .ref (a11 0), .ref (a12 0), .ref (a13 0), .ref (a14 0), .ref (a15 0), .ref q16, .int 0, .int 0]))] ++ wX8 g a1 ++ wX0 g a2 ++ wX0 g a3 ++ wX5 g a4 ++ wX2 g a5 ++ wX3 g a6 ++ wX10 g a7 ++ wX4 g a8 ++ wX6 g a9 ++ wX1 g a10 ++ wX9 g a11 ++ wX5 g a12 ++ wX4 g a13 ++ wX6 g a14 ++ wX1 g a15 ++ [(q16, .inl (g.2.1.1, 12, .inl (fun _ => 0)))]) C 0 fuf_11_94 rfl rfl rfl (Nat.le_of_ble_eq_true rfl) rfl dX11_init_174 ?_
  refine ac_aload_n (pc := 177) C 0 dX11_init_177 rfl rfl ?_
  refine ac_iconst (pc := 178) C dX11_init_178 ?_
  refine ac_put (pc := 179) (ws' := [(h0, .inr (11, [.ref (a1 0), .ref (a2 0), .ref (a3 0), .ref (a4 0), .ref (a5 0), .ref (a6 0), .ref (a7 0), .ref (a8 0), .ref (a9 0), .ref (a10 0), .ref (a11 0), .ref (a12 0), .ref (a13 0), .ref (a14 0), .ref (a15 0), .ref q16, vi 0, .int 0]))] ++ wX8 g a1 ++ wX0 g a2 ++ wX0 g a3 ++ wX5 g a4 ++ wX2 g a5 ++ wX3 g a6 ++ wX10 g a7 ++ wX4 g a8 ++ wX6 g a9 ++ wX1 g a10 ++ wX9 g a11 ++ wX5 g a12 ++ wX4 g a13 ++ wX6 g a14 ++ wX1 g a15 ++ [(q16, .inl (g.2.1.1, 12, .inl (fun _ => 0)))]) C 0 fu_11_98 rfl rfl rfl (Nat.le_of_ble_eq_true rfl) rfl dX11_init_179 ?_
  refine ac_aload_n (pc := 182) C 0 dX11_init_182 rfl rfl ?_
  refine ac_iconst (pc := 183) C dX11_init_183 ?_
  refine ac_put (pc := 184) (ws' := [(h0, .inr (11, [.ref (a1 0), .ref (a2 0), .ref (a3 0), .ref (a4 0), .ref (a5 0), .ref (a6 0), .ref (a7 0), .ref (a8 0), .ref (a9 0), .ref (a10 0), .ref (a11 0), .ref (a12 0), .ref (a13 0), .ref (a14 0), .ref (a15 0), .ref q16, vi 0, vi 0]))] ++ wX8 g a1 ++ wX0 g a2 ++ wX0 g a3 ++ wX5 g a4 ++ wX2 g a5 ++ wX3 g a6 ++ wX10 g a7 ++ wX4 g a8 ++ wX6 g a9 ++ wX1 g a10 ++ wX9 g a11 ++ wX5 g a12 ++ wX4 g a13 ++ wX6 g a14 ++ wX1 g a15 ++ [(q16, .inl (g.2.1.1, 12, .inl (fun _ => 0)))]) C 0 fu_11_102 rfl rfl rfl (Nat.le_of_ble_eq_true rfl) rfl dX11_init_184 ?_
  exact ac_ret (pc := 187) C hr hlk (fun i => ([h0, a1 0, a1 1, a2 0, a2 1, a2 2, a2 3, a2 4, a2 5, a2 6, a2 7, a2 8, a2 9, a2 10, a2 11, a2 12, a3 0, a3 1, a3 2, a3 3, a3 4, a3 5, a3 6, a3 7, a3 8, a3 9, a3 10, a3 11, a3 12, a4 0, a4 1, a4 2, a4 3, a5 0, a5 1, a6 0, a6 1, a6 2, a6 3, a6 4, a6 5, a6 6, a6 7, a6 8, a6 9, a6 10, a7 0, a7 1, a7 2, a7 3, a7 4, a7 5, a8 0, a8 1, a8 2, a9 0, a9 1, a9 2, a10 0, a10 1, a10 2, a10 3, a10 4, a10 5, a10 6, a10 7, a10 8, a10 9, a11 0, a11 1, a11 2, a11 3, a11 4, a12 0, a12 1, a12 2, a12 3, a13 0, a13 1, a13 2, a14 0, a14 1, a14 2, a15 0, a15 1, a15 2, a15 3, a15 4, a15 5, a15 6, a15 7, a15 8, a15 9, q16] : List Nat).getD i 0) rfl rfl dX11_init_187
