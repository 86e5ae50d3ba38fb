theorem vpi {i : Int32} {n : Nat} (h : ¬ (i < 0 ∨ n ≤ i.toNatClampNeg)) : vp_in i n := h
theorem ob_X11_3 : Cond.methodLink RX11 3 objectInit ∈ BIG ∧ Cond.instanceMethod objectInit ∈ BIG ∧ Cond.code objectInit ⟨#[0xb1]⟩ 1 none ∈ BIG := ⟨bg 75 (by decide +kernel) rfl, bg 76 (by decide +kernel) rfl, bg 77 (by decide +kernel) rfl⟩
theorem nw_X11_9 : NWF RX11 9 10 11 [.null, .null, .null, .null, .null, .null, .null, .null, .null, .int 0, .int 0] := ⟨RX10, TX10, tyX10, rfl, bgc_10, tyX10_ok, bg 78 (by decide +kernel) rfl, bg 79 (by decide +kernel) rfl, bg 50 (by decide +kernel) rfl, fun j hj => by rcases (show j = 0 ∨ j = 1 ∨ j = 2 ∨ j = 3 ∨ j = 4 ∨ j = 5 ∨ j = 6 ∨ j = 7 ∨ j = 8 ∨ j = 9 ∨ j = 10 by omega) with rfl | rfl | rfl | rfl | rfl | rfl | rfl | rfl | rfl | rfl | rfl <;> rfl, rfl⟩
theorem ob_X10_3 : Cond.methodLink RX10 3 objectInit ∈ BIG ∧ Cond.instanceMethod objectInit ∈ BIG ∧ Cond.code objectInit ⟨#[0xb1]⟩ 1 none ∈ BIG := ⟨bg 83 (by decide +kernel) rfl, bg 76 (by decide +kernel) rfl, bg 77 (by decide +kernel) rfl⟩
theorem nw_X10_9 : NWF RX10 9 9 11 [.null, .null, .null, .null, .null, .null, .null, .int 0, .int 0, .int 0, .int 0] := ⟨RX9, TX9, tyX9, rfl, bgc_9, tyX9_ok, bg 84 (by decide +kernel) rfl, bg 85 (by decide +kernel) rfl, bg 51 (by decide +kernel) rfl, fun j hj => by rcases (show j = 0 ∨ j = 1 ∨ j = 2 ∨ j = 3 ∨ j = 4 ∨ j = 5 ∨ j = 6 ∨ j = 7 ∨ j = 8 ∨ j = 9 ∨ j = 10 by omega) with rfl | rfl | rfl | rfl | rfl | rfl | rfl | rfl | rfl | rfl | rfl <;> rfl, rfl⟩
theorem ob_X9_3 : Cond.methodLink RX9 3 objectInit ∈ BIG ∧ Cond.instanceMethod objectInit ∈ BIG ∧ Cond.code objectInit ⟨#[0xb1]⟩ 1 none ∈ BIG := ⟨bg 89 (by decide +kernel) rfl, bg 76 (by decide +kernel) rfl, bg 77 (by decide +kernel) rfl⟩
theorem nw_X9_9 : NWF RX9 9 7 1 [.null] := ⟨RX7, TX7, tyX7, rfl, bgc_7, tyX7_ok, bg 90 (by decide +kernel) rfl, bg 91 (by decide +kernel) rfl, bg 52 (by decide +kernel) rfl, fun j hj => by rcases (show j = 0 by omega) with rfl <;> rfl, rfl⟩
theorem fg_X9_14 : FPG RX9 14 9 0 (.object "Resolverium$Row") := ⟨RX9, TX9, 11, tyX9, rfl, by decide, bgc_9, bg 104 (by decide +kernel) rfl, tyX9_ok, nmX9, Or.inr ⟨rfl, rfl⟩, by decide +kernel⟩
theorem fg_X9_20 : FPG RX9 20 9 1 (.object "Resolverium$Row") := ⟨RX9, TX9, 11, tyX9, rfl, by decide, bgc_9, bg 108 (by decide +kernel) rfl, tyX9_ok, nmX9, Or.inr ⟨rfl, rfl⟩, by decide +kernel⟩
theorem fg_X9_23 : FPG RX9 23 9 2 (.object "Resolverium$Row") := ⟨RX9, TX9, 11, tyX9, rfl, by decide, bgc_9, bg 113 (by decide +kernel) rfl, tyX9_ok, nmX9, Or.inr ⟨rfl, rfl⟩, by decide +kernel⟩
theorem fg_X9_26 : FPG RX9 26 9 3 (.object "Resolverium$Row") := ⟨RX9, TX9, 11, tyX9, rfl, by decide, bgc_9, bg 115 (by decide +kernel) rfl, tyX9_ok, nmX9, Or.inr ⟨rfl, rfl⟩, by decide +kernel⟩
theorem fg_X9_29 : FPG RX9 29 9 4 (.object "Resolverium$Row") := ⟨RX9, TX9, 11, tyX9, rfl, by decide, bgc_9, bg 118 (by decide +kernel) rfl, tyX9_ok, nmX9, Or.inr ⟨rfl, rfl⟩, by decide +kernel⟩
theorem fg_X9_32 : FPG RX9 32 9 5 (.object "Resolverium$Row") := ⟨RX9, TX9, 11, tyX9, rfl, by decide, bgc_9, bg 120 (by decide +kernel) rfl, tyX9_ok, nmX9, Or.inr ⟨rfl, rfl⟩, by decide +kernel⟩
theorem fg_X9_35 : FPG RX9 35 9 6 (.object "Resolverium$Row") := ⟨RX9, TX9, 11, tyX9, rfl, by decide, bgc_9, bg 121 (by decide +kernel) rfl, tyX9_ok, nmX9, Or.inr ⟨rfl, rfl⟩, by decide +kernel⟩
theorem fg_X10_12 : FPG RX10 12 10 0 (.object "Resolverium$Versions") := ⟨RX10, TX10, 11, tyX10, rfl, by decide, bgc_10, bg 261 (by decide +kernel) rfl, tyX10_ok, nmX10, Or.inr ⟨rfl, rfl⟩, by decide +kernel⟩
theorem nw_X10_18 : NWF RX10 18 6 8 [.null, .null, .null, .null, .null, .null, .null, .int 0] := ⟨RX6, TX6, tyX6, rfl, bgc_6, tyX6_ok, bg 153 (by decide +kernel) rfl, bg 154 (by decide +kernel) rfl, bg 54 (by decide +kernel) rfl, fun j hj => by rcases (show j = 0 ∨ j = 1 ∨ j = 2 ∨ j = 3 ∨ j = 4 ∨ j = 5 ∨ j = 6 ∨ j = 7 by omega) with rfl | rfl | rfl | rfl | rfl | rfl | rfl | rfl <;> rfl, rfl⟩
theorem ob_X6_3 : Cond.methodLink RX6 3 objectInit ∈ BIG ∧ Cond.instanceMethod objectInit ∈ BIG ∧ Cond.code objectInit ⟨#[0xb1]⟩ 1 none ∈ BIG := ⟨bg 158 (by decide +kernel) rfl, bg 76 (by decide +kernel) rfl, bg 77 (by decide +kernel) rfl⟩
theorem nw_X6_9 : NWF RX6 9 7 1 [.null] := ⟨RX7, TX7, tyX7, rfl, bgc_7, tyX7_ok, bg 159 (by decide +kernel) rfl, bg 91 (by decide +kernel) rfl, bg 52 (by decide +kernel) rfl, fun j hj => by rcases (show j = 0 by omega) with rfl <;> rfl, rfl⟩
theorem fg_X6_14 : FPG RX6 14 6 0 (.object "Resolverium$Row") := ⟨RX6, TX6, 8, tyX6, rfl, by decide, bgc_6, bg 161 (by decide +kernel) rfl, tyX6_ok, nmX6, Or.inr ⟨rfl, rfl⟩, by decide +kernel⟩
theorem fg_X6_20 : FPG RX6 20 6 1 (.object "Resolverium$Row") := ⟨RX6, TX6, 8, tyX6, rfl, by decide, bgc_6, bg 162 (by decide +kernel) rfl, tyX6_ok, nmX6, Or.inr ⟨rfl, rfl⟩, by decide +kernel⟩
theorem fg_X6_23 : FPG RX6 23 6 2 (.object "Resolverium$Row") := ⟨RX6, TX6, 8, tyX6, rfl, by decide, bgc_6, bg 163 (by decide +kernel) rfl, tyX6_ok, nmX6, Or.inr ⟨rfl, rfl⟩, by decide +kernel⟩
theorem fg_X6_26 : FPG RX6 26 6 3 (.object "Resolverium$Row") := ⟨RX6, TX6, 8, tyX6, rfl, by decide, bgc_6, bg 164 (by decide +kernel) rfl, tyX6_ok, nmX6, Or.inr ⟨rfl, rfl⟩, by decide +kernel⟩
theorem fg_X6_29 : FPG RX6 29 6 4 (.object "Resolverium$Row") := ⟨RX6, TX6, 8, tyX6, rfl, by decide, bgc_6, bg 165 (by decide +kernel) rfl, tyX6_ok, nmX6, Or.inr ⟨rfl, rfl⟩, by decide +kernel⟩
theorem fg_X6_32 : FPG RX6 32 6 5 (.object "Resolverium$Row") := ⟨RX6, TX6, 8, tyX6, rfl, by decide, bgc_6, bg 166 (by decide +kernel) rfl, tyX6_ok, nmX6, Or.inr ⟨rfl, rfl⟩, by decide +kernel⟩
theorem fg_X6_35 : FPG RX6 35 6 6 (.object "Resolverium$Row") := ⟨RX6, TX6, 8, tyX6, rfl, by decide, bgc_6, bg 167 (by decide +kernel) rfl, tyX6_ok, nmX6, Or.inr ⟨rfl, rfl⟩, by decide +kernel⟩
theorem fg_X10_21 : FPG RX10 21 10 1 (.object "Resolverium$Ranges") := ⟨RX10, TX10, 11, tyX10, rfl, by decide, bgc_10, bg 267 (by decide +kernel) rfl, tyX10_ok, nmX10, Or.inr ⟨rfl, rfl⟩, by decide +kernel⟩
theorem nw_X10_25 : NWF RX10 25 4 7 [.null, .null, .null, .null, .null, .null, .null] := ⟨RX4, TX4, tyX4, rfl, bgc_4, tyX4_ok, bg 188 (by decide +kernel) rfl, bg 189 (by decide +kernel) rfl, bg 55 (by decide +kernel) rfl, fun j hj => by rcases (show j = 0 ∨ j = 1 ∨ j = 2 ∨ j = 3 ∨ j = 4 ∨ j = 5 ∨ j = 6 by omega) with rfl | rfl | rfl | rfl | rfl | rfl | rfl <;> rfl, rfl⟩
theorem ob_X4_3 : Cond.methodLink RX4 3 objectInit ∈ BIG ∧ Cond.instanceMethod objectInit ∈ BIG ∧ Cond.code objectInit ⟨#[0xb1]⟩ 1 none ∈ BIG := ⟨bg 193 (by decide +kernel) rfl, bg 76 (by decide +kernel) rfl, bg 77 (by decide +kernel) rfl⟩
theorem nw_X4_9 : NWF RX4 9 7 1 [.null] := ⟨RX7, TX7, tyX7, rfl, bgc_7, tyX7_ok, bg 194 (by decide +kernel) rfl, bg 91 (by decide +kernel) rfl, bg 52 (by decide +kernel) rfl, fun j hj => by rcases (show j = 0 by omega) with rfl <;> rfl, rfl⟩
theorem fg_X4_14 : FPG RX4 14 4 0 (.object "Resolverium$Row") := ⟨RX4, TX4, 7, tyX4, rfl, by decide, bgc_4, bg 196 (by decide +kernel) rfl, tyX4_ok, nmX4, Or.inr ⟨rfl, rfl⟩, by decide +kernel⟩
theorem fg_X4_20 : FPG RX4 20 4 1 (.object "Resolverium$Row") := ⟨RX4, TX4, 7, tyX4, rfl, by decide, bgc_4, bg 198 (by decide +kernel) rfl, tyX4_ok, nmX4, Or.inr ⟨rfl, rfl⟩, by decide +kernel⟩
theorem fg_X4_23 : FPG RX4 23 4 2 (.object "Resolverium$Row") := ⟨RX4, TX4, 7, tyX4, rfl, by decide, bgc_4, bg 200 (by decide +kernel) rfl, tyX4_ok, nmX4, Or.inr ⟨rfl, rfl⟩, by decide +kernel⟩
theorem fg_X4_26 : FPG RX4 26 4 3 (.object "Resolverium$Row") := ⟨RX4, TX4, 7, tyX4, rfl, by decide, bgc_4, bg 203 (by decide +kernel) rfl, tyX4_ok, nmX4, Or.inr ⟨rfl, rfl⟩, by decide +kernel⟩
theorem fg_X4_29 : FPG RX4 29 4 4 (.object "Resolverium$Row") := ⟨RX4, TX4, 7, tyX4, rfl, by decide, bgc_4, bg 205 (by decide +kernel) rfl, tyX4_ok, nmX4, Or.inr ⟨rfl, rfl⟩, by decide +kernel⟩
theorem fg_X4_32 : FPG RX4 32 4 5 (.object "Resolverium$Row") := ⟨RX4, TX4, 7, tyX4, rfl, by decide, bgc_4, bg 207 (by decide +kernel) rfl, tyX4_ok, nmX4, Or.inr ⟨rfl, rfl⟩, by decide +kernel⟩
theorem fg_X4_35 : FPG RX4 35 4 6 (.object "Resolverium$Row") := ⟨RX4, TX4, 7, tyX4, rfl, by decide, bgc_4, bg 209 (by decide +kernel) rfl, tyX4_ok, nmX4, Or.inr ⟨rfl, rfl⟩, by decide +kernel⟩
theorem fg_X10_28 : FPG RX10 28 10 2 (.object "Resolverium$Needs") := ⟨RX10, TX10, 11, tyX10, rfl, by decide, bgc_10, bg 270 (by decide +kernel) rfl, tyX10_ok, nmX10, Or.inr ⟨rfl, rfl⟩, by decide +kernel⟩
theorem nw_X10_32 : NWF RX10 32 2 5 [.null, .null, .null, .null, .int 0] := ⟨RX2, TX2, tyX2, rfl, bgc_2, tyX2_ok, bg 225 (by decide +kernel) rfl, bg 226 (by decide +kernel) rfl, bg 56 (by decide +kernel) rfl, fun j hj => by rcases (show j = 0 ∨ j = 1 ∨ j = 2 ∨ j = 3 ∨ j = 4 by omega) with rfl | rfl | rfl | rfl | rfl <;> rfl, rfl⟩
theorem ob_X2_3 : Cond.methodLink RX2 3 objectInit ∈ BIG ∧ Cond.instanceMethod objectInit ∈ BIG ∧ Cond.code objectInit ⟨#[0xb1]⟩ 1 none ∈ BIG := ⟨bg 230 (by decide +kernel) rfl, bg 76 (by decide +kernel) rfl, bg 77 (by decide +kernel) rfl⟩
theorem nw_X2_9 : NWF RX2 9 7 1 [.null] := ⟨RX7, TX7, tyX7, rfl, bgc_7, tyX7_ok, bg 231 (by decide +kernel) rfl, bg 91 (by decide +kernel) rfl, bg 52 (by decide +kernel) rfl, fun j hj => by rcases (show j = 0 by omega) with rfl <;> rfl, rfl⟩
theorem fg_X2_14 : FPG RX2 14 2 0 (.object "Resolverium$Row") := ⟨RX2, TX2, 5, tyX2, rfl, by decide, bgc_2, bg 233 (by decide +kernel) rfl, tyX2_ok, nmX2, Or.inr ⟨rfl, rfl⟩, by decide +kernel⟩
theorem fg_X2_20 : FPG RX2 20 2 1 (.object "Resolverium$Row") := ⟨RX2, TX2, 5, tyX2, rfl, by decide, bgc_2, bg 234 (by decide +kernel) rfl, tyX2_ok, nmX2, Or.inr ⟨rfl, rfl⟩, by decide +kernel⟩
theorem fg_X2_23 : FPG RX2 23 2 2 (.object "Resolverium$Row") := ⟨RX2, TX2, 5, tyX2, rfl, by decide, bgc_2, bg 236 (by decide +kernel) rfl, tyX2_ok, nmX2, Or.inr ⟨rfl, rfl⟩, by decide +kernel⟩
theorem fg_X2_26 : FPG RX2 26 2 3 (.object "Resolverium$Row") := ⟨RX2, TX2, 5, tyX2, rfl, by decide, bgc_2, bg 239 (by decide +kernel) rfl, tyX2_ok, nmX2, Or.inr ⟨rfl, rfl⟩, by decide +kernel⟩
theorem fg_X10_35 : FPG RX10 35 10 3 (.object "Resolverium$Demands") := ⟨RX10, TX10, 11, tyX10, rfl, by decide, bgc_10, bg 273 (by decide +kernel) rfl, tyX10_ok, nmX10, Or.inr ⟨rfl, rfl⟩, by decide +kernel⟩
theorem nw_X10_39 : NWF RX10 39 7 1 [.null] := ⟨RX7, TX7, tyX7, rfl, bgc_7, tyX7_ok, bg 255 (by decide +kernel) rfl, bg 91 (by decide +kernel) rfl, bg 52 (by decide +kernel) rfl, fun j hj => by rcases (show j = 0 by omega) with rfl <;> rfl, rfl⟩
theorem fg_X10_44 : FPG RX10 44 10 4 (.object "Resolverium$Row") := ⟨RX10, TX10, 11, tyX10, rfl, by decide, bgc_10, bg 277 (by decide +kernel) rfl, tyX10_ok, nmX10, Or.inr ⟨rfl, rfl⟩, by decide +kernel⟩
theorem fg_X10_48 : FPG RX10 48 10 5 (.object "Resolverium$Row") := ⟨RX10, TX10, 11, tyX10, rfl, by decide, bgc_10, bg 280 (by decide +kernel) rfl, tyX10_ok, nmX10, Or.inr ⟨rfl, rfl⟩, by decide +kernel⟩
theorem fg_X10_51 : FPG RX10 51 10 6 (.object "Resolverium$Row") := ⟨RX10, TX10, 11, tyX10, rfl, by decide, bgc_10, bg 281 (by decide +kernel) rfl, tyX10_ok, nmX10, Or.inr ⟨rfl, rfl⟩, by decide +kernel⟩
theorem fg_X10_54 : FPG RX10 54 10 7 (.object "Resolverium$Row") := ⟨RX10, TX10, 11, tyX10, rfl, by decide, bgc_10, bg 282 (by decide +kernel) rfl, tyX10_ok, nmX10, Or.inr ⟨rfl, rfl⟩, by decide +kernel⟩
theorem fg_X10_57 : FPG RX10 57 10 8 (.object "Resolverium$Row") := ⟨RX10, TX10, 11, tyX10, rfl, by decide, bgc_10, bg 283 (by decide +kernel) rfl, tyX10_ok, nmX10, Or.inr ⟨rfl, rfl⟩, by decide +kernel⟩
theorem nw_X11_12 : NWF RX11 12 5 3 [.null, .int 0, .int 0] := ⟨RX5, TX5, tyX5, rfl, bgc_5, tyX5_ok, bg 311 (by decide +kernel) rfl, bg 312 (by decide +kernel) rfl, bg 57 (by decide +kernel) rfl, fun j hj => by rcases (show j = 0 ∨ j = 1 ∨ j = 2 by omega) with rfl | rfl | rfl <;> rfl, rfl⟩
theorem ob_X5_3 : Cond.methodLink RX5 3 objectInit ∈ BIG ∧ Cond.instanceMethod objectInit ∈ BIG ∧ Cond.code objectInit ⟨#[0xb1]⟩ 1 none ∈ BIG := ⟨bg 316 (by decide +kernel) rfl, bg 76 (by decide +kernel) rfl, bg 77 (by decide +kernel) rfl⟩
theorem fg_X5_9 : FPG RX5 9 5 0 (.object "Resolverium$World") := ⟨RX5, TX5, 3, tyX5, rfl, by decide, bgc_5, bg 317 (by decide +kernel) rfl, tyX5_ok, nmX5, Or.inr ⟨rfl, rfl⟩, by decide +kernel⟩
theorem fg_X11_17 : FPG RX11 17 11 0 (.object "Resolverium$World") := ⟨RX11, TX11, 5, tyX11, rfl, by decide, bgc_11, bg 431 (by decide +kernel) rfl, tyX11_ok, nmX11, Or.inr ⟨rfl, rfl⟩, by decide +kernel⟩
theorem fg_X11_21 : FPG RX11 21 11 1 (.object "Resolverium$Question") := ⟨RX11, TX11, 5, tyX11, rfl, by decide, bgc_11, bg 432 (by decide +kernel) rfl, tyX11_ok, nmX11, Or.inr ⟨rfl, rfl⟩, by decide +kernel⟩
theorem nw_X11_25 : NWF RX11 25 8 10 [.null, .null, .null, .null, .null, .null, .null, .int 0, .int 0, .int 0] := ⟨RX8, TX8, tyX8, rfl, bgc_8, tyX8_ok, bg 329 (by decide +kernel) rfl, bg 330 (by decide +kernel) rfl, bg 58 (by decide +kernel) rfl, fun j hj => by rcases (show j = 0 ∨ j = 1 ∨ j = 2 ∨ j = 3 ∨ j = 4 ∨ j = 5 ∨ j = 6 ∨ j = 7 ∨ j = 8 ∨ j = 9 by omega) with rfl | rfl | rfl | rfl | rfl | rfl | rfl | rfl | rfl | rfl <;> rfl, rfl⟩
theorem ob_X8_3 : Cond.methodLink RX8 3 objectInit ∈ BIG ∧ Cond.instanceMethod objectInit ∈ BIG ∧ Cond.code objectInit ⟨#[0xb1]⟩ 1 none ∈ BIG := ⟨bg 334 (by decide +kernel) rfl, bg 76 (by decide +kernel) rfl, bg 77 (by decide +kernel) rfl⟩
theorem nw_X8_9 : NWF RX8 9 7 1 [.null] := ⟨RX7, TX7, tyX7, rfl, bgc_7, tyX7_ok, bg 335 (by decide +kernel) rfl, bg 91 (by decide +kernel) rfl, bg 52 (by decide +kernel) rfl, fun j hj => by rcases (show j = 0 by omega) with rfl <;> rfl, rfl⟩
theorem fg_X8_14 : FPG RX8 14 8 3 (.object "Resolverium$Row") := ⟨RX8, TX8, 10, tyX8, rfl, by decide, bgc_8, bg 361 (by decide +kernel) rfl, tyX8_ok, nmX8, Or.inr ⟨rfl, rfl⟩, by decide +kernel⟩
theorem fg_X8_20 : FPG RX8 20 8 4 (.object "Resolverium$Row") := ⟨RX8, TX8, 10, tyX8, rfl, by decide, bgc_8, bg 363 (by decide +kernel) rfl, tyX8_ok, nmX8, Or.inr ⟨rfl, rfl⟩, by decide +kernel⟩
theorem fg_X8_23 : FPG RX8 23 8 5 (.object "Resolverium$Row") := ⟨RX8, TX8, 10, tyX8, rfl, by decide, bgc_8, bg 364 (by decide +kernel) rfl, tyX8_ok, nmX8, Or.inr ⟨rfl, rfl⟩, by decide +kernel⟩
theorem fg_X8_26 : FPG RX8 26 8 6 (.object "Resolverium$Row") := ⟨RX8, TX8, 10, tyX8, rfl, by decide, bgc_8, bg 365 (by decide +kernel) rfl, tyX8_ok, nmX8, Or.inr ⟨rfl, rfl⟩, by decide +kernel⟩
theorem fg_X8_29 : FPG RX8 29 8 0 (.object "Resolverium$World") := ⟨RX8, TX8, 10, tyX8, rfl, by decide, bgc_8, bg 358 (by decide +kernel) rfl, tyX8_ok, nmX8, Or.inr ⟨rfl, rfl⟩, by decide +kernel⟩
theorem fg_X8_33 : FPG RX8 33 8 1 (.object "Resolverium$Question") := ⟨RX8, TX8, 10, tyX8, rfl, by decide, bgc_8, bg 359 (by decide +kernel) rfl, tyX8_ok, nmX8, Or.inr ⟨rfl, rfl⟩, by decide +kernel⟩
theorem nw_X8_37 : NWF RX8 37 1 3 [.null, .null, .null] := ⟨RX1, TX1, tyX1, rfl, bgc_1, tyX1_ok, bg 337 (by decide +kernel) rfl, bg 338 (by decide +kernel) rfl, bg 59 (by decide +kernel) rfl, fun j hj => by rcases (show j = 0 ∨ j = 1 ∨ j = 2 by omega) with rfl | rfl | rfl <;> rfl, rfl⟩
theorem ob_X1_3 : Cond.methodLink RX1 3 objectInit ∈ BIG ∧ Cond.instanceMethod objectInit ∈ BIG ∧ Cond.code objectInit ⟨#[0xb1]⟩ 1 none ∈ BIG := ⟨bg 342 (by decide +kernel) rfl, bg 76 (by decide +kernel) rfl, bg 77 (by decide +kernel) rfl⟩
theorem nw_X1_9 : NWF RX1 9 7 1 [.null] := ⟨RX7, TX7, tyX7, rfl, bgc_7, tyX7_ok, bg 343 (by decide +kernel) rfl, bg 91 (by decide +kernel) rfl, bg 52 (by decide +kernel) rfl, fun j hj => by rcases (show j = 0 by omega) with rfl <;> rfl, rfl⟩
theorem fg_X1_14 : FPG RX1 14 1 1 (.object "Resolverium$Row") := ⟨RX1, TX1, 3, tyX1, rfl, by decide, bgc_1, bg 346 (by decide +kernel) rfl, tyX1_ok, nmX1, Or.inr ⟨rfl, rfl⟩, by decide +kernel⟩
theorem fg_X1_20 : FPG RX1 20 1 2 (.object "Resolverium$Row") := ⟨RX1, TX1, 3, tyX1, rfl, by decide, bgc_1, bg 349 (by decide +kernel) rfl, tyX1_ok, nmX1, Or.inr ⟨rfl, rfl⟩, by decide +kernel⟩
theorem fg_X1_23 : FPG RX1 23 1 0 (.object "Resolverium$World") := ⟨RX1, TX1, 3, tyX1, rfl, by decide, bgc_1, bg 345 (by decide +kernel) rfl, tyX1_ok, nmX1, Or.inr ⟨rfl, rfl⟩, by decide +kernel⟩
theorem fg_X8_42 : FPG RX8 42 8 2 (.object "Resolverium$Choice") := ⟨RX8, TX8, 10, tyX8, rfl, by decide, bgc_8, bg 360 (by decide +kernel) rfl, tyX8_ok, nmX8, Or.inr ⟨rfl, rfl⟩, by decide +kernel⟩
theorem fg_X11_30 : FPG RX11 30 11 2 (.object "Resolverium$Search") := ⟨RX11, TX11, 5, tyX11, rfl, by decide, bgc_11, bg 433 (by decide +kernel) rfl, tyX11_ok, nmX11, Or.inr ⟨rfl, rfl⟩, by decide +kernel⟩
theorem nw_X11_34 : NWF RX11 34 0 4 [.null, .null, .null, .null] := ⟨RX0, TX0, tyX0, rfl, bgc_0, tyX0_ok, bg 390 (by decide +kernel) rfl, bg 391 (by decide +kernel) rfl, bg 60 (by decide +kernel) rfl, fun j hj => by rcases (show j = 0 ∨ j = 1 ∨ j = 2 ∨ j = 3 by omega) with rfl | rfl | rfl | rfl <;> rfl, rfl⟩
theorem ob_X0_3 : Cond.methodLink RX0 3 objectInit ∈ BIG ∧ Cond.instanceMethod objectInit ∈ BIG ∧ Cond.code objectInit ⟨#[0xb1]⟩ 1 none ∈ BIG := ⟨bg 395 (by decide +kernel) rfl, bg 76 (by decide +kernel) rfl, bg 77 (by decide +kernel) rfl⟩
theorem nw_X0_9 : NWF RX0 9 7 1 [.null] := ⟨RX7, TX7, tyX7, rfl, bgc_7, tyX7_ok, bg 396 (by decide +kernel) rfl, bg 91 (by decide +kernel) rfl, bg 52 (by decide +kernel) rfl, fun j hj => by rcases (show j = 0 by omega) with rfl <;> rfl, rfl⟩
theorem fg_X0_14 : FPG RX0 14 0 3 (.object "Resolverium$Row") := ⟨RX0, TX0, 4, tyX0, rfl, by decide, bgc_0, bg 403 (by decide +kernel) rfl, tyX0_ok, nmX0, Or.inr ⟨rfl, rfl⟩, by decide +kernel⟩
theorem fg_X0_20 : FPG RX0 20 0 0 (.object "Resolverium$World") := ⟨RX0, TX0, 4, tyX0, rfl, by decide, bgc_0, bg 400 (by decide +kernel) rfl, tyX0_ok, nmX0, Or.inr ⟨rfl, rfl⟩, by decide +kernel⟩
theorem fg_X0_24 : FPG RX0 24 0 1 (.object "Resolverium$Question") := ⟨RX0, TX0, 4, tyX0, rfl, by decide, bgc_0, bg 401 (by decide +kernel) rfl, tyX0_ok, nmX0, Or.inr ⟨rfl, rfl⟩, by decide +kernel⟩
theorem nw_X0_28 : NWF RX0 28 1 3 [.null, .null, .null] := ⟨RX1, TX1, tyX1, rfl, bgc_1, tyX1_ok, bg 398 (by decide +kernel) rfl, bg 338 (by decide +kernel) rfl, bg 59 (by decide +kernel) rfl, fun j hj => by rcases (show j = 0 ∨ j = 1 ∨ j = 2 by omega) with rfl | rfl | rfl <;> rfl, rfl⟩
theorem fg_X0_33 : FPG RX0 33 0 2 (.object "Resolverium$Choice") := ⟨RX0, TX0, 4, tyX0, rfl, by decide, bgc_0, bg 402 (by decide +kernel) rfl, tyX0_ok, nmX0, Or.inr ⟨rfl, rfl⟩, by decide +kernel⟩
theorem fg_X11_37 : FPG RX11 37 11 3 (.object "Resolverium$Census") := ⟨RX11, TX11, 5, tyX11, rfl, by decide, bgc_11, bg 434 (by decide +kernel) rfl, tyX11_ok, nmX11, Or.inr ⟨rfl, rfl⟩, by decide +kernel⟩
theorem nw_X11_41 : NWF RX11 41 3 2 [.null, .null] := ⟨RX3, TX3, tyX3, rfl, bgc_3, tyX3_ok, bg 414 (by decide +kernel) rfl, bg 415 (by decide +kernel) rfl, bg 61 (by decide +kernel) rfl, fun j hj => by rcases (show j = 0 ∨ j = 1 by omega) with rfl | rfl <;> rfl, rfl⟩
theorem ob_X3_3 : Cond.methodLink RX3 3 objectInit ∈ BIG ∧ Cond.instanceMethod objectInit ∈ BIG ∧ Cond.code objectInit ⟨#[0xb1]⟩ 1 none ∈ BIG := ⟨bg 419 (by decide +kernel) rfl, bg 76 (by decide +kernel) rfl, bg 77 (by decide +kernel) rfl⟩
theorem nw_X3_9 : NWF RX3 9 7 1 [.null] := ⟨RX7, TX7, tyX7, rfl, bgc_7, tyX7_ok, bg 420 (by decide +kernel) rfl, bg 91 (by decide +kernel) rfl, bg 52 (by decide +kernel) rfl, fun j hj => by rcases (show j = 0 by omega) with rfl <;> rfl, rfl⟩
theorem fg_X3_14 : FPG RX3 14 3 0 (.object "Resolverium$Row") := ⟨RX3, TX3, 2, tyX3, rfl, by decide, bgc_3, bg 422 (by decide +kernel) rfl, tyX3_ok, nmX3, Or.inr ⟨rfl, rfl⟩, by decide +kernel⟩
theorem fg_X3_20 : FPG RX3 20 3 1 (.object "Resolverium$Row") := ⟨RX3, TX3, 2, tyX3, rfl, by decide, bgc_3, bg 424 (by decide +kernel) rfl, tyX3_ok, nmX3, Or.inr ⟨rfl, rfl⟩, by decide +kernel⟩
theorem fg_X11_44 : FPG RX11 44 11 4 (.object "Resolverium$Disk") := ⟨RX11, TX11, 5, tyX11, rfl, by decide, bgc_11, bg 435 (by decide +kernel) rfl, tyX11_ok, nmX11, Or.inr ⟨rfl, rfl⟩, by decide +kernel⟩
theorem ob_X12_1 : Cond.methodLink RX12 1 objectInit ∈ BIG ∧ Cond.instanceMethod objectInit ∈ BIG ∧ Cond.code objectInit ⟨#[0xb1]⟩ 1 none ∈ BIG := ⟨bg 1132 (by decide +kernel) rfl, bg 76 (by decide +kernel) rfl, bg 77 (by decide +kernel) rfl⟩
theorem fg_X12_7 : FPG RX12 7 12 8 (.array .int) := ⟨RX12, TX12, 32, tyX12, rfl, by decide, bgc_12, bg 1141 (by decide +kernel) rfl, tyX12_ok, nmX12, Or.inr ⟨rfl, rfl⟩, by decide +kernel⟩
theorem fg_X12_13 : FPG RX12 13 12 9 (.array .int) := ⟨RX12, TX12, 32, tyX12, rfl, by decide, bgc_12, bg 1142 (by decide +kernel) rfl, tyX12_ok, nmX12, Or.inr ⟨rfl, rfl⟩, by decide +kernel⟩
theorem fg_X12_16 : FPG RX12 16 12 10 (.array .int) := ⟨RX12, TX12, 32, tyX12, rfl, by decide, bgc_12, bg 1143 (by decide +kernel) rfl, tyX12_ok, nmX12, Or.inr ⟨rfl, rfl⟩, by decide +kernel⟩
theorem fg_X12_19 : FPG RX12 19 12 11 (.array .int) := ⟨RX12, TX12, 32, tyX12, rfl, by decide, bgc_12, bg 1144 (by decide +kernel) rfl, tyX12_ok, nmX12, Or.inr ⟨rfl, rfl⟩, by decide +kernel⟩
theorem fg_X12_22 : FPG RX12 22 12 12 (.array .boolean) := ⟨RX12, TX12, 32, tyX12, rfl, by decide, bgc_12, bg 1145 (by decide +kernel) rfl, tyX12_ok, nmX12, Or.inr ⟨rfl, rfl⟩, by decide +kernel⟩
theorem fg_X12_26 : FPG RX12 26 12 13 (.array .int) := ⟨RX12, TX12, 32, tyX12, rfl, by decide, bgc_12, bg 1146 (by decide +kernel) rfl, tyX12_ok, nmX12, Or.inr ⟨rfl, rfl⟩, by decide +kernel⟩
theorem fg_X12_29 : FPG RX12 29 12 14 (.array .int) := ⟨RX12, TX12, 32, tyX12, rfl, by decide, bgc_12, bg 1147 (by decide +kernel) rfl, tyX12_ok, nmX12, Or.inr ⟨rfl, rfl⟩, by decide +kernel⟩
theorem fg_X12_32 : FPG RX12 32 12 15 (.array .int) := ⟨RX12, TX12, 32, tyX12, rfl, by decide, bgc_12, bg 1148 (by decide +kernel) rfl, tyX12_ok, nmX12, Or.inr ⟨rfl, rfl⟩, by decide +kernel⟩
theorem fg_X12_35 : FPG RX12 35 12 16 (.array .int) := ⟨RX12, TX12, 32, tyX12, rfl, by decide, bgc_12, bg 1149 (by decide +kernel) rfl, tyX12_ok, nmX12, Or.inr ⟨rfl, rfl⟩, by decide +kernel⟩
theorem fg_X12_38 : FPG RX12 38 12 17 (.array .int) := ⟨RX12, TX12, 32, tyX12, rfl, by decide, bgc_12, bg 1150 (by decide +kernel) rfl, tyX12_ok, nmX12, Or.inr ⟨rfl, rfl⟩, by decide +kernel⟩
theorem fg_X12_41 : FPG RX12 41 12 18 (.array .int) := ⟨RX12, TX12, 32, tyX12, rfl, by decide, bgc_12, bg 1151 (by decide +kernel) rfl, tyX12_ok, nmX12, Or.inr ⟨rfl, rfl⟩, by decide +kernel⟩
theorem fg_X12_44 : FPG RX12 44 12 19 (.array .int) := ⟨RX12, TX12, 32, tyX12, rfl, by decide, bgc_12, bg 1152 (by decide +kernel) rfl, tyX12_ok, nmX12, Or.inr ⟨rfl, rfl⟩, by decide +kernel⟩
theorem fg_X12_47 : FPG RX12 47 12 20 (.array .int) := ⟨RX12, TX12, 32, tyX12, rfl, by decide, bgc_12, bg 1153 (by decide +kernel) rfl, tyX12_ok, nmX12, Or.inr ⟨rfl, rfl⟩, by decide +kernel⟩
theorem fg_X12_50 : FPG RX12 50 12 21 (.array .boolean) := ⟨RX12, TX12, 32, tyX12, rfl, by decide, bgc_12, bg 1154 (by decide +kernel) rfl, tyX12_ok, nmX12, Or.inr ⟨rfl, rfl⟩, by decide +kernel⟩
theorem fg_X12_53 : FPG RX12 53 12 22 (.array .int) := ⟨RX12, TX12, 32, tyX12, rfl, by decide, bgc_12, bg 1155 (by decide +kernel) rfl, tyX12_ok, nmX12, Or.inr ⟨rfl, rfl⟩, by decide +kernel⟩
theorem fg_X12_56 : FPG RX12 56 12 23 (.array .int) := ⟨RX12, TX12, 32, tyX12, rfl, by decide, bgc_12, bg 1156 (by decide +kernel) rfl, tyX12_ok, nmX12, Or.inr ⟨rfl, rfl⟩, by decide +kernel⟩
theorem fg_X12_59 : FPG RX12 59 12 24 (.array .int) := ⟨RX12, TX12, 32, tyX12, rfl, by decide, bgc_12, bg 1157 (by decide +kernel) rfl, tyX12_ok, nmX12, Or.inr ⟨rfl, rfl⟩, by decide +kernel⟩
theorem fg_X12_62 : FPG RX12 62 12 26 .int := ⟨RX12, TX12, 32, tyX12, rfl, by decide, bgc_12, bg 1159 (by decide +kernel) rfl, tyX12_ok, nmX12, Or.inl rfl, by decide +kernel⟩
theorem fg_X12_66 : FPG RX12 66 12 27 (.array .int) := ⟨RX12, TX12, 32, tyX12, rfl, by decide, bgc_12, bg 1160 (by decide +kernel) rfl, tyX12_ok, nmX12, Or.inr ⟨rfl, rfl⟩, by decide +kernel⟩
theorem fg_X12_69 : FPG RX12 69 12 28 (.array .int) := ⟨RX12, TX12, 32, tyX12, rfl, by decide, bgc_12, bg 1161 (by decide +kernel) rfl, tyX12_ok, nmX12, Or.inr ⟨rfl, rfl⟩, by decide +kernel⟩
set_option maxRecDepth 100000 in
set_option maxHeartbeats 4000000 in
theorem cg_X9_init_0 (l : Launch) : CG l yX9_init cX9_init 1 2 45 14 205 [.ref 2]
  [.inl (11, [.null, .null, .null, .null, .null]), .inl (10, [.null, .null, .null, .null, .null, .null, .null, .null, .null, .int 0, .int 0]), .inl (9, [.null, .null, .null, .null, .null, .null, .null, .int 0, .int 0, .int 0, .int 0])]
  [.inl (11, [.null, .null, .null, .null, .null]), .inl (10, [.null, .null, .null, .null, .null, .null, .null, .null, .null, .int 0, .int 0]), .inl (9, [.ref 3, .ref 5, .ref 7, .ref 9, .ref 11, .ref 13, .ref 15, .int 0, .int 0, .int 0, .int 0]), .inl (7, [.ref 4]), .inr (0, 24, fillF (fun _ => 0) (-1) 24), .inl (7, [.ref 6]), .inr (0, 24, fillF (fun _ => 0) (-1) 24), .inl (7, [.ref 8]), .inr (0, 24, fillF (fun _ => 0) (-1) 24), .inl (7, [.ref 10]), .inr (0, 24, fillF (fun _ => 0) 7 24), .inl (7, [.ref 12]), .inr (0, 72, fillF (fun _ => 0) 0 72), .inl (7, [.ref 14]), .inr (0, 24, fillF (fun _ => 0) (-1) 24), .inl (7, [.ref 16]), .inr (0, 6, fillF (fun _ => 0) 0 6)] := by
  refine cg_of (by decide) (by simp [Value.category]) (by simp) (fun X ρ0 hl hX0 hG hnm hR hQ hr => ?_)
  have hX : CGX X cX9_init 1 RX9 := ⟨hX0, hG⟩
  have hi := hnm rfl
  refine g_al hX dX9_init_0 rfl rfl rfl ?_
  refine g_obj hX ob_X9_3 rfl (by rw [hR]; exact Nat.le_of_ble_eq_true rfl) (by rw [hR]; exact Nat.le_of_ble_eq_true rfl) dX9_init_1 rfl ?_
  refine g_al hX dX9_init_4 rfl rfl rfl ?_
  refine g_new (q9 := 3) rfl hX nw_X9_9 rfl rfl rfl (Nat.le_of_ble_eq_true rfl) ⟨by rw [hR]; exact Nat.le_of_ble_eq_true rfl, by rw [hR]; exact Nat.le_of_ble_eq_true rfl⟩ dX9_init_5 rfl ?_
  refine g_dup hX dX9_init_8 rfl rfl ?_
  refine g_bi 24 hX dX9_init_9 (by decide) rfl ?_
  refine g_ic (-1) hX dX9_init_11 (by decide) rfl ?_
  refine g_callI hX (bg 92 (by decide +kernel) rfl) (bg 93 (by decide +kernel) rfl) (bg 52 (by decide +kernel) rfl) (bg 94 (by decide +kernel) rfl) rfl ⟨by decide +kernel, by decide +kernel, by decide +kernel⟩ (cg_row _ 3 24 24 (-1) _ _ (by decide) (by decide) (by decide) rfl rfl rfl) rfl rfl ⟨by rw [hR]; exact Nat.le_of_ble_eq_true rfl, by rw [hR]; exact Nat.le_of_ble_eq_true rfl, by rw [hR]; exact Nat.le_of_ble_eq_true rfl, by rw [hR]; exact Nat.le_of_ble_eq_true rfl⟩ (Nat.le_of_ble_eq_true rfl) rfl rfl rfl (Nat.le_of_ble_eq_true rfl) dX9_init_12 rfl ?_
  refine g_put hX hi fg_X9_14 (fun _ => ⟨rfl, rfl⟩) (p := 2) rfl (Nat.le_of_ble_eq_true rfl) dX9_init_15 rfl ?_
  refine g_al hX dX9_init_18 rfl rfl rfl ?_
  refine g_new (q9 := 5) rfl hX nw_X9_9 rfl rfl rfl (Nat.le_of_ble_eq_true rfl) ⟨by rw [hR]; exact Nat.le_of_ble_eq_true rfl, by rw [hR]; exact Nat.le_of_ble_eq_true rfl⟩ dX9_init_19 rfl ?_
  refine g_dup hX dX9_init_22 rfl rfl ?_
  refine g_bi 24 hX dX9_init_23 (by decide) rfl ?_
  refine g_ic (-1) hX dX9_init_25 (by decide) rfl ?_
  refine g_callI hX (bg 92 (by decide +kernel) rfl) (bg 93 (by decide +kernel) rfl) (bg 52 (by decide +kernel) rfl) (bg 94 (by decide +kernel) rfl) rfl ⟨by decide +kernel, by decide +kernel, by decide +kernel⟩ (cg_row _ 5 24 24 (-1) _ _ (by decide) (by decide) (by decide) rfl rfl rfl) rfl rfl ⟨by rw [hR]; exact Nat.le_of_ble_eq_true rfl, by rw [hR]; exact Nat.le_of_ble_eq_true rfl, by rw [hR]; exact Nat.le_of_ble_eq_true rfl, by rw [hR]; exact Nat.le_of_ble_eq_true rfl⟩ (Nat.le_of_ble_eq_true rfl) rfl rfl rfl (Nat.le_of_ble_eq_true rfl) dX9_init_26 rfl ?_
  refine g_put hX hi fg_X9_20 (fun _ => ⟨rfl, rfl⟩) (p := 2) rfl (Nat.le_of_ble_eq_true rfl) dX9_init_29 rfl ?_
  refine g_al hX dX9_init_32 rfl rfl rfl ?_
  refine g_new (q9 := 7) rfl hX nw_X9_9 rfl rfl rfl (Nat.le_of_ble_eq_true rfl) ⟨by rw [hR]; exact Nat.le_of_ble_eq_true rfl, by rw [hR]; exact Nat.le_of_ble_eq_true rfl⟩ dX9_init_33 rfl ?_
  refine g_dup hX dX9_init_36 rfl rfl ?_
  refine g_bi 24 hX dX9_init_37 (by decide) rfl ?_
  refine g_ic (-1) hX dX9_init_39 (by decide) rfl ?_
  refine g_callI hX (bg 92 (by decide +kernel) rfl) (bg 93 (by decide +kernel) rfl) (bg 52 (by decide +kernel) rfl) (bg 94 (by decide +kernel) rfl) rfl ⟨by decide +kernel, by decide +kernel, by decide +kernel⟩ (cg_row _ 7 24 24 (-1) _ _ (by decide) (by decide) (by decide) rfl rfl rfl) rfl rfl ⟨by rw [hR]; exact Nat.le_of_ble_eq_true rfl, by rw [hR]; exact Nat.le_of_ble_eq_true rfl, by rw [hR]; exact Nat.le_of_ble_eq_true rfl, by rw [hR]; exact Nat.le_of_ble_eq_true rfl⟩ (Nat.le_of_ble_eq_true rfl) rfl rfl rfl (Nat.le_of_ble_eq_true rfl) dX9_init_40 rfl ?_
  refine g_put hX hi fg_X9_23 (fun _ => ⟨rfl, rfl⟩) (p := 2) rfl (Nat.le_of_ble_eq_true rfl) dX9_init_43 rfl ?_
  refine g_al hX dX9_init_46 rfl rfl rfl ?_
  refine g_new (q9 := 9) rfl hX nw_X9_9 rfl rfl rfl (Nat.le_of_ble_eq_true rfl) ⟨by rw [hR]; exact Nat.le_of_ble_eq_true rfl, by rw [hR]; exact Nat.le_of_ble_eq_true rfl⟩ dX9_init_47 rfl ?_
  refine g_dup hX dX9_init_50 rfl rfl ?_
  refine g_bi 24 hX dX9_init_51 (by decide) rfl ?_
  refine g_bi 7 hX dX9_init_53 (by decide) rfl ?_
  refine g_callI hX (bg 92 (by decide +kernel) rfl) (bg 93 (by decide +kernel) rfl) (bg 52 (by decide +kernel) rfl) (bg 94 (by decide +kernel) rfl) rfl ⟨by decide +kernel, by decide +kernel, by decide +kernel⟩ (cg_row _ 9 24 24 7 _ _ (by decide) (by decide) (by decide) rfl rfl rfl) rfl rfl ⟨by rw [hR]; exact Nat.le_of_ble_eq_true rfl, by rw [hR]; exact Nat.le_of_ble_eq_true rfl, by rw [hR]; exact Nat.le_of_ble_eq_true rfl, by rw [hR]; exact Nat.le_of_ble_eq_true rfl⟩ (Nat.le_of_ble_eq_true rfl) rfl rfl rfl (Nat.le_of_ble_eq_true rfl) dX9_init_55 rfl ?_
  refine g_put hX hi fg_X9_26 (fun _ => ⟨rfl, rfl⟩) (p := 2) rfl (Nat.le_of_ble_eq_true rfl) dX9_init_58 rfl ?_
  refine g_al hX dX9_init_61 rfl rfl rfl ?_
  refine g_new (q9 := 11) rfl hX nw_X9_9 rfl rfl rfl (Nat.le_of_ble_eq_true rfl) ⟨by rw [hR]; exact Nat.le_of_ble_eq_true rfl, by rw [hR]; exact Nat.le_of_ble_eq_true rfl⟩ dX9_init_62 rfl ?_
  refine g_dup hX dX9_init_65 rfl rfl ?_
  refine g_bi 72 hX dX9_init_66 (by decide) rfl ?_
  refine g_ic 0 hX dX9_init_68 (by decide) rfl ?_
  refine g_callI hX (bg 92 (by decide +kernel) rfl) (bg 93 (by decide +kernel) rfl) (bg 52 (by decide +kernel) rfl) (bg 94 (by decide +kernel) rfl) rfl ⟨by decide +kernel, by decide +kernel, by decide +kernel⟩ (cg_row _ 11 72 72 0 _ _ (by decide) (by decide) (by decide) rfl rfl rfl) rfl rfl ⟨by rw [hR]; exact Nat.le_of_ble_eq_true rfl, by rw [hR]; exact Nat.le_of_ble_eq_true rfl, by rw [hR]; exact Nat.le_of_ble_eq_true rfl, by rw [hR]; exact Nat.le_of_ble_eq_true rfl⟩ (Nat.le_of_ble_eq_true rfl) rfl rfl rfl (Nat.le_of_ble_eq_true rfl) dX9_init_69 rfl ?_
  refine g_put hX hi fg_X9_29 (fun _ => ⟨rfl, rfl⟩) (p := 2) rfl (Nat.le_of_ble_eq_true rfl) dX9_init_72 rfl ?_
  refine g_al hX dX9_init_75 rfl rfl rfl ?_
  refine g_new (q9 := 13) rfl hX nw_X9_9 rfl rfl rfl (Nat.le_of_ble_eq_true rfl) ⟨by rw [hR]; exact Nat.le_of_ble_eq_true rfl, by rw [hR]; exact Nat.le_of_ble_eq_true rfl⟩ dX9_init_76 rfl ?_
  refine g_dup hX dX9_init_79 rfl rfl ?_
  refine g_bi 24 hX dX9_init_80 (by decide) rfl ?_
  refine g_ic (-1) hX dX9_init_82 (by decide) rfl ?_
  refine g_callI hX (bg 92 (by decide +kernel) rfl) (bg 93 (by decide +kernel) rfl) (bg 52 (by decide +kernel) rfl) (bg 94 (by decide +kernel) rfl) rfl ⟨by decide +kernel, by decide +kernel, by decide +kernel⟩ (cg_row _ 13 24 24 (-1) _ _ (by decide) (by decide) (by decide) rfl rfl rfl) rfl rfl ⟨by rw [hR]; exact Nat.le_of_ble_eq_true rfl, by rw [hR]; exact Nat.le_of_ble_eq_true rfl, by rw [hR]; exact Nat.le_of_ble_eq_true rfl, by rw [hR]; exact Nat.le_of_ble_eq_true rfl⟩ (Nat.le_of_ble_eq_true rfl) rfl rfl rfl (Nat.le_of_ble_eq_true rfl) dX9_init_83 rfl ?_
  refine g_put hX hi fg_X9_32 (fun _ => ⟨rfl, rfl⟩) (p := 2) rfl (Nat.le_of_ble_eq_true rfl) dX9_init_86 rfl ?_
  refine g_al hX dX9_init_89 rfl rfl rfl ?_
  refine g_new (q9 := 15) rfl hX nw_X9_9 rfl rfl rfl (Nat.le_of_ble_eq_true rfl) ⟨by rw [hR]; exact Nat.le_of_ble_eq_true rfl, by rw [hR]; exact Nat.le_of_ble_eq_true rfl⟩ dX9_init_90 rfl ?_
  refine g_dup hX dX9_init_93 rfl rfl ?_
  refine g_bi 6 hX dX9_init_94 (by decide) rfl ?_
  refine g_ic 0 hX dX9_init_96 (by decide) rfl ?_
  refine g_callI hX (bg 92 (by decide +kernel) rfl) (bg 93 (by decide +kernel) rfl) (bg 52 (by decide +kernel) rfl) (bg 94 (by decide +kernel) rfl) rfl ⟨by decide +kernel, by decide +kernel, by decide +kernel⟩ (cg_row _ 15 6 6 0 _ _ (by decide) (by decide) (by decide) rfl rfl rfl) rfl rfl ⟨by rw [hR]; exact Nat.le_of_ble_eq_true rfl, by rw [hR]; exact Nat.le_of_ble_eq_true rfl, by rw [hR]; exact Nat.le_of_ble_eq_true rfl, by rw [hR]; exact Nat.le_of_ble_eq_true rfl⟩ (Nat.le_of_ble_eq_true rfl) rfl rfl rfl (Nat.le_of_ble_eq_true rfl) dX9_init_97 rfl ?_
  refine g_put hX hi fg_X9_35 (fun _ => ⟨rfl, rfl⟩) (p := 2) rfl (Nat.le_of_ble_eq_true rfl) dX9_init_100 rfl ?_
  exact g_ret hX hQ hr rfl dX9_init_103

set_option maxRecDepth 100000 in
set_option maxHeartbeats 4000000 in
theorem cg_X6_init_0 (l : Launch) : CG l yX6_init cX6_init 1 2 45 14 217 [.ref 17]
  [.inl (11, [.null, .null, .null, .null, .null]), .inl (10, [.ref 2, .null, .null, .null, .null, .null, .null, .null, .null, .int 0, .int 0]), .inl (9, [.ref 3, .ref 5, .ref 7, .ref 9, .ref 11, .ref 13, .ref 15, .int 0, .int 0, .int 0, .int 0]), .inl (7, [.ref 4]), .inr (0, 24, fillF (fun _ => 0) (-1) 24), .inl (7, [.ref 6]), .inr (0, 24, fillF (fun _ => 0) (-1) 24), .inl (7, [.ref 8]), .inr (0, 24, fillF (fun _ => 0) (-1) 24), .inl (7, [.ref 10]), .inr (0, 24, fillF (fun _ => 0) 7 24), .inl (7, [.ref 12]), .inr (0, 72, fillF (fun _ => 0) 0 72), .inl (7, [.ref 14]), .inr (0, 24, fillF (fun _ => 0) (-1) 24), .inl (7, [.ref 16]), .inr (0, 6, fillF (fun _ => 0) 0 6), .inl (6, [.null, .null, .null, .null, .null, .null, .null, .int 0])]
  [.inl (11, [.null, .null, .null, .null, .null]), .inl (10, [.ref 2, .null, .null, .null, .null, .null, .null, .null, .null, .int 0, .int 0]), .inl (9, [.ref 3, .ref 5, .ref 7, .ref 9, .ref 11, .ref 13, .ref 15, .int 0, .int 0, .int 0, .int 0]), .inl (7, [.ref 4]), .inr (0, 24, fillF (fun _ => 0) (-1) 24), .inl (7, [.ref 6]), .inr (0, 24, fillF (fun _ => 0) (-1) 24), .inl (7, [.ref 8]), .inr (0, 24, fillF (fun _ => 0) (-1) 24), .inl (7, [.ref 10]), .inr (0, 24, fillF (fun _ => 0) 7 24), .inl (7, [.ref 12]), .inr (0, 72, fillF (fun _ => 0) 0 72), .inl (7, [.ref 14]), .inr (0, 24, fillF (fun _ => 0) (-1) 24), .inl (7, [.ref 16]), .inr (0, 6, fillF (fun _ => 0) 0 6), .inl (6, [.ref 18, .ref 20, .ref 22, .ref 24, .ref 26, .ref 28, .ref 30, .int 0]), .inl (7, [.ref 19]), .inr (0, 30, fillF (fun _ => 0) 3 30), .inl (7, [.ref 21]), .inr (0, 30, fillF (fun _ => 0) 0 30), .inl (7, [.ref 23]), .inr (0, 30, fillF (fun _ => 0) 0 30), .inl (7, [.ref 25]), .inr (0, 30, fillF (fun _ => 0) (-1) 30), .inl (7, [.ref 27]), .inr (0, 30, fillF (fun _ => 0) (-1) 30), .inl (7, [.ref 29]), .inr (0, 30, fillF (fun _ => 0) (-1) 30), .inl (7, [.ref 31]), .inr (0, 30, fillF (fun _ => 0) 0 30)] := by
  refine cg_of (by decide) (by simp [Value.category]) (by simp) (fun X ρ0 hl hX0 hG hnm hR hQ hr => ?_)
  have hX : CGX X cX6_init 1 RX6 := ⟨hX0, hG⟩
  have hi := hnm rfl
  refine g_al hX dX6_init_0 rfl rfl rfl ?_
  refine g_obj hX ob_X6_3 rfl (by rw [hR]; exact Nat.le_of_ble_eq_true rfl) (by rw [hR]; exact Nat.le_of_ble_eq_true rfl) dX6_init_1 rfl ?_
  refine g_al hX dX6_init_4 rfl rfl rfl ?_
  refine g_new (q9 := 18) rfl hX nw_X6_9 rfl rfl rfl (Nat.le_of_ble_eq_true rfl) ⟨by rw [hR]; exact Nat.le_of_ble_eq_true rfl, by rw [hR]; exact Nat.le_of_ble_eq_true rfl⟩ dX6_init_5 rfl ?_
  refine g_dup hX dX6_init_8 rfl rfl ?_
  refine g_bi 30 hX dX6_init_9 (by decide) rfl ?_
  refine g_ic 3 hX dX6_init_11 (by decide) rfl ?_
  refine g_callI hX (bg 160 (by decide +kernel) rfl) (bg 93 (by decide +kernel) rfl) (bg 52 (by decide +kernel) rfl) (bg 94 (by decide +kernel) rfl) rfl ⟨by decide +kernel, by decide +kernel, by decide +kernel⟩ (cg_row _ 18 30 30 3 _ _ (by decide) (by decide) (by decide) rfl rfl rfl) rfl rfl ⟨by rw [hR]; exact Nat.le_of_ble_eq_true rfl, by rw [hR]; exact Nat.le_of_ble_eq_true rfl, by rw [hR]; exact Nat.le_of_ble_eq_true rfl, by rw [hR]; exact Nat.le_of_ble_eq_true rfl⟩ (Nat.le_of_ble_eq_true rfl) rfl rfl rfl (Nat.le_of_ble_eq_true rfl) dX6_init_12 rfl ?_
  refine g_put hX hi fg_X6_14 (fun _ => ⟨rfl, rfl⟩) (p := 17) rfl (Nat.le_of_ble_eq_true rfl) dX6_init_15 rfl ?_
  refine g_al hX dX6_init_18 rfl rfl rfl ?_
  refine g_new (q9 := 20) rfl hX nw_X6_9 rfl rfl rfl (Nat.le_of_ble_eq_true rfl) ⟨by rw [hR]; exact Nat.le_of_ble_eq_true rfl, by rw [hR]; exact Nat.le_of_ble_eq_true rfl⟩ dX6_init_19 rfl ?_
  refine g_dup hX dX6_init_22 rfl rfl ?_
  refine g_bi 30 hX dX6_init_23 (by decide) rfl ?_
  refine g_ic 0 hX dX6_init_25 (by decide) rfl ?_
  refine g_callI hX (bg 160 (by decide +kernel) rfl) (bg 93 (by decide +kernel) rfl) (bg 52 (by decide +kernel) rfl) (bg 94 (by decide +kernel) rfl) rfl ⟨by decide +kernel, by decide +kernel, by decide +kernel⟩ (cg_row _ 20 30 30 0 _ _ (by decide) (by decide) (by decide) rfl rfl rfl) rfl rfl ⟨by rw [hR]; exact Nat.le_of_ble_eq_true rfl, by rw [hR]; exact Nat.le_of_ble_eq_true rfl, by rw [hR]; exact Nat.le_of_ble_eq_true rfl, by rw [hR]; exact Nat.le_of_ble_eq_true rfl⟩ (Nat.le_of_ble_eq_true rfl) rfl rfl rfl (Nat.le_of_ble_eq_true rfl) dX6_init_26 rfl ?_
  refine g_put hX hi fg_X6_20 (fun _ => ⟨rfl, rfl⟩) (p := 17) rfl (Nat.le_of_ble_eq_true rfl) dX6_init_29 rfl ?_
  refine g_al hX dX6_init_32 rfl rfl rfl ?_
  refine g_new (q9 := 22) rfl hX nw_X6_9 rfl rfl rfl (Nat.le_of_ble_eq_true rfl) ⟨by rw [hR]; exact Nat.le_of_ble_eq_true rfl, by rw [hR]; exact Nat.le_of_ble_eq_true rfl⟩ dX6_init_33 rfl ?_
  refine g_dup hX dX6_init_36 rfl rfl ?_
  refine g_bi 30 hX dX6_init_37 (by decide) rfl ?_
  refine g_ic 0 hX dX6_init_39 (by decide) rfl ?_
  refine g_callI hX (bg 160 (by decide +kernel) rfl) (bg 93 (by decide +kernel) rfl) (bg 52 (by decide +kernel) rfl) (bg 94 (by decide +kernel) rfl) rfl ⟨by decide +kernel, by decide +kernel, by decide +kernel⟩ (cg_row _ 22 30 30 0 _ _ (by decide) (by decide) (by decide) rfl rfl rfl) rfl rfl ⟨by rw [hR]; exact Nat.le_of_ble_eq_true rfl, by rw [hR]; exact Nat.le_of_ble_eq_true rfl, by rw [hR]; exact Nat.le_of_ble_eq_true rfl, by rw [hR]; exact Nat.le_of_ble_eq_true rfl⟩ (Nat.le_of_ble_eq_true rfl) rfl rfl rfl (Nat.le_of_ble_eq_true rfl) dX6_init_40 rfl ?_
  refine g_put hX hi fg_X6_23 (fun _ => ⟨rfl, rfl⟩) (p := 17) rfl (Nat.le_of_ble_eq_true rfl) dX6_init_43 rfl ?_
  refine g_al hX dX6_init_46 rfl rfl rfl ?_
  refine g_new (q9 := 24) rfl hX nw_X6_9 rfl rfl rfl (Nat.le_of_ble_eq_true rfl) ⟨by rw [hR]; exact Nat.le_of_ble_eq_true rfl, by rw [hR]; exact Nat.le_of_ble_eq_true rfl⟩ dX6_init_47 rfl ?_
  refine g_dup hX dX6_init_50 rfl rfl ?_
  refine g_bi 30 hX dX6_init_51 (by decide) rfl ?_
  refine g_ic (-1) hX dX6_init_53 (by decide) rfl ?_
  refine g_callI hX (bg 160 (by decide +kernel) rfl) (bg 93 (by decide +kernel) rfl) (bg 52 (by decide +kernel) rfl) (bg 94 (by decide +kernel) rfl) rfl ⟨by decide +kernel, by decide +kernel, by decide +kernel⟩ (cg_row _ 24 30 30 (-1) _ _ (by decide) (by decide) (by decide) rfl rfl rfl) rfl rfl ⟨by rw [hR]; exact Nat.le_of_ble_eq_true rfl, by rw [hR]; exact Nat.le_of_ble_eq_true rfl, by rw [hR]; exact Nat.le_of_ble_eq_true rfl, by rw [hR]; exact Nat.le_of_ble_eq_true rfl⟩ (Nat.le_of_ble_eq_true rfl) rfl rfl rfl (Nat.le_of_ble_eq_true rfl) dX6_init_54 rfl ?_
  refine g_put hX hi fg_X6_26 (fun _ => ⟨rfl, rfl⟩) (p := 17) rfl (Nat.le_of_ble_eq_true rfl) dX6_init_57 rfl ?_
  refine g_al hX dX6_init_60 rfl rfl rfl ?_
  refine g_new (q9 := 26) rfl hX nw_X6_9 rfl rfl rfl (Nat.le_of_ble_eq_true rfl) ⟨by rw [hR]; exact Nat.le_of_ble_eq_true rfl, by rw [hR]; exact Nat.le_of_ble_eq_true rfl⟩ dX6_init_61 rfl ?_
  refine g_dup hX dX6_init_64 rfl rfl ?_
  refine g_bi 30 hX dX6_init_65 (by decide) rfl ?_
  refine g_ic (-1) hX dX6_init_67 (by decide) rfl ?_
  refine g_callI hX (bg 160 (by decide +kernel) rfl) (bg 93 (by decide +kernel) rfl) (bg 52 (by decide +kernel) rfl) (bg 94 (by decide +kernel) rfl) rfl ⟨by decide +kernel, by decide +kernel, by decide +kernel⟩ (cg_row _ 26 30 30 (-1) _ _ (by decide) (by decide) (by decide) rfl rfl rfl) rfl rfl ⟨by rw [hR]; exact Nat.le_of_ble_eq_true rfl, by rw [hR]; exact Nat.le_of_ble_eq_true rfl, by rw [hR]; exact Nat.le_of_ble_eq_true rfl, by rw [hR]; exact Nat.le_of_ble_eq_true rfl⟩ (Nat.le_of_ble_eq_true rfl) rfl rfl rfl (Nat.le_of_ble_eq_true rfl) dX6_init_68 rfl ?_
  refine g_put hX hi fg_X6_29 (fun _ => ⟨rfl, rfl⟩) (p := 17) rfl (Nat.le_of_ble_eq_true rfl) dX6_init_71 rfl ?_
  refine g_al hX dX6_init_74 rfl rfl rfl ?_
  refine g_new (q9 := 28) rfl hX nw_X6_9 rfl rfl rfl (Nat.le_of_ble_eq_true rfl) ⟨by rw [hR]; exact Nat.le_of_ble_eq_true rfl, by rw [hR]; exact Nat.le_of_ble_eq_true rfl⟩ dX6_init_75 rfl ?_
  refine g_dup hX dX6_init_78 rfl rfl ?_
  refine g_bi 30 hX dX6_init_79 (by decide) rfl ?_
  refine g_ic (-1) hX dX6_init_81 (by decide) rfl ?_
  refine g_callI hX (bg 160 (by decide +kernel) rfl) (bg 93 (by decide +kernel) rfl) (bg 52 (by decide +kernel) rfl) (bg 94 (by decide +kernel) rfl) rfl ⟨by decide +kernel, by decide +kernel, by decide +kernel⟩ (cg_row _ 28 30 30 (-1) _ _ (by decide) (by decide) (by decide) rfl rfl rfl) rfl rfl ⟨by rw [hR]; exact Nat.le_of_ble_eq_true rfl, by rw [hR]; exact Nat.le_of_ble_eq_true rfl, by rw [hR]; exact Nat.le_of_ble_eq_true rfl, by rw [hR]; exact Nat.le_of_ble_eq_true rfl⟩ (Nat.le_of_ble_eq_true rfl) rfl rfl rfl (Nat.le_of_ble_eq_true rfl) dX6_init_82 rfl ?_
  refine g_put hX hi fg_X6_32 (fun _ => ⟨rfl, rfl⟩) (p := 17) rfl (Nat.le_of_ble_eq_true rfl) dX6_init_85 rfl ?_
  refine g_al hX dX6_init_88 rfl rfl rfl ?_
  refine g_new (q9 := 30) rfl hX nw_X6_9 rfl rfl rfl (Nat.le_of_ble_eq_true rfl) ⟨by rw [hR]; exact Nat.le_of_ble_eq_true rfl, by rw [hR]; exact Nat.le_of_ble_eq_true rfl⟩ dX6_init_89 rfl ?_
  refine g_dup hX dX6_init_92 rfl rfl ?_
  refine g_bi 30 hX dX6_init_93 (by decide) rfl ?_
  refine g_ic 0 hX dX6_init_95 (by decide) rfl ?_
  refine g_callI hX (bg 160 (by decide +kernel) rfl) (bg 93 (by decide +kernel) rfl) (bg 52 (by decide +kernel) rfl) (bg 94 (by decide +kernel) rfl) rfl ⟨by decide +kernel, by decide +kernel, by decide +kernel⟩ (cg_row _ 30 30 30 0 _ _ (by decide) (by decide) (by decide) rfl rfl rfl) rfl rfl ⟨by rw [hR]; exact Nat.le_of_ble_eq_true rfl, by rw [hR]; exact Nat.le_of_ble_eq_true rfl, by rw [hR]; exact Nat.le_of_ble_eq_true rfl, by rw [hR]; exact Nat.le_of_ble_eq_true rfl⟩ (Nat.le_of_ble_eq_true rfl) rfl rfl rfl (Nat.le_of_ble_eq_true rfl) dX6_init_96 rfl ?_
  refine g_put hX hi fg_X6_35 (fun _ => ⟨rfl, rfl⟩) (p := 17) rfl (Nat.le_of_ble_eq_true rfl) dX6_init_99 rfl ?_
  exact g_ret hX hQ hr rfl dX6_init_102

set_option maxRecDepth 100000 in
set_option maxHeartbeats 4000000 in
theorem cg_X4_init_0 (l : Launch) : CG l yX4_init cX4_init 1 2 45 14 751 [.ref 32]
  [.inl (11, [.null, .null, .null, .null, .null]), .inl (10, [.ref 2, .ref 17, .null, .null, .null, .null, .null, .null, .null, .int 0, .int 0]), .inl (9, [.ref 3, .ref 5, .ref 7, .ref 9, .ref 11, .ref 13, .ref 15, .int 0, .int 0, .int 0, .int 0]), .inl (7, [.ref 4]), .inr (0, 24, fillF (fun _ => 0) (-1) 24), .inl (7, [.ref 6]), .inr (0, 24, fillF (fun _ => 0) (-1) 24), .inl (7, [.ref 8]), .inr (0, 24, fillF (fun _ => 0) (-1) 24), .inl (7, [.ref 10]), .inr (0, 24, fillF (fun _ => 0) 7 24), .inl (7, [.ref 12]), .inr (0, 72, fillF (fun _ => 0) 0 72), .inl (7, [.ref 14]), .inr (0, 24, fillF (fun _ => 0) (-1) 24), .inl (7, [.ref 16]), .inr (0, 6, fillF (fun _ => 0) 0 6), .inl (6, [.ref 18, .ref 20, .ref 22, .ref 24, .ref 26, .ref 28, .ref 30, .int 0]), .inl (7, [.ref 19]), .inr (0, 30, fillF (fun _ => 0) 3 30), .inl (7, [.ref 21]), .inr (0, 30, fillF (fun _ => 0) 0 30), .inl (7, [.ref 23]), .inr (0, 30, fillF (fun _ => 0) 0 30), .inl (7, [.ref 25]), .inr (0, 30, fillF (fun _ => 0) (-1) 30), .inl (7, [.ref 27]), .inr (0, 30, fillF (fun _ => 0) (-1) 30), .inl (7, [.ref 29]), .inr (0, 30, fillF (fun _ => 0) (-1) 30), .inl (7, [.ref 31]), .inr (0, 30, fillF (fun _ => 0) 0 30), .inl (4, [.null, .null, .null, .null, .null, .null, .null])]
  [.inl (11, [.null, .null, .null, .null, .null]), .inl (10, [.ref 2, .ref 17, .null, .null, .null, .null, .null, .null, .null, .int 0, .int 0]), .inl (9, [.ref 3, .ref 5, .ref 7, .ref 9, .ref 11, .ref 13, .ref 15, .int 0, .int 0, .int 0, .int 0]), .inl (7, [.ref 4]), .inr (0, 24, fillF (fun _ => 0) (-1) 24), .inl (7, [.ref 6]), .inr (0, 24, fillF (fun _ => 0) (-1) 24), .inl (7, [.ref 8]), .inr (0, 24, fillF (fun _ => 0) (-1) 24), .inl (7, [.ref 10]), .inr (0, 24, fillF (fun _ => 0) 7 24), .inl (7, [.ref 12]), .inr (0, 72, fillF (fun _ => 0) 0 72), .inl (7, [.ref 14]), .inr (0, 24, fillF (fun _ => 0) (-1) 24), .inl (7, [.ref 16]), .inr (0, 6, fillF (fun _ => 0) 0 6), .inl (6, [.ref 18, .ref 20, .ref 22, .ref 24, .ref 26, .ref 28, .ref 30, .int 0]), .inl (7, [.ref 19]), .inr (0, 30, fillF (fun _ => 0) 3 30), .inl (7, [.ref 21]), .inr (0, 30, fillF (fun _ => 0) 0 30), .inl (7, [.ref 23]), .inr (0, 30, fillF (fun _ => 0) 0 30), .inl (7, [.ref 25]), .inr (0, 30, fillF (fun _ => 0) (-1) 30), .inl (7, [.ref 27]), .inr (0, 30, fillF (fun _ => 0) (-1) 30), .inl (7, [.ref 29]), .inr (0, 30, fillF (fun _ => 0) (-1) 30), .inl (7, [.ref 31]), .inr (0, 30, fillF (fun _ => 0) 0 30), .inl (4, [.ref 33, .ref 35, .ref 37, .ref 39, .ref 41, .ref 43, .ref 45]), .inl (7, [.ref 34]), .inr (0, 120, fillF (fun _ => 0) (-1) 120), .inl (7, [.ref 36]), .inr (0, 120, fillF (fun _ => 0) (-1) 120), .inl (7, [.ref 38]), .inr (0, 120, fillF (fun _ => 0) 0 120), .inl (7, [.ref 40]), .inr (0, 120, fillF (fun _ => 0) (-1) 120), .inl (7, [.ref 42]), .inr (0, 120, fillF (fun _ => 0) 0 120), .inl (7, [.ref 44]), .inr (0, 120, fillF (fun _ => 0) 0 120), .inl (7, [.ref 46]), .inr (0, 24, fillF (fun _ => 0) 0 24)] := by
  refine cg_of (by decide) (by simp [Value.category]) (by simp) (fun X ρ0 hl hX0 hG hnm hR hQ hr => ?_)
  have hX : CGX X cX4_init 1 RX4 := ⟨hX0, hG⟩
  have hi := hnm rfl
  refine g_al hX dX4_init_0 rfl rfl rfl ?_
  refine g_obj hX ob_X4_3 rfl (by rw [hR]; exact Nat.le_of_ble_eq_true rfl) (by rw [hR]; exact Nat.le_of_ble_eq_true rfl) dX4_init_1 rfl ?_
  refine g_al hX dX4_init_4 rfl rfl rfl ?_
  refine g_new (q9 := 33) rfl hX nw_X4_9 rfl rfl rfl (Nat.le_of_ble_eq_true rfl) ⟨by rw [hR]; exact Nat.le_of_ble_eq_true rfl, by rw [hR]; exact Nat.le_of_ble_eq_true rfl⟩ dX4_init_5 rfl ?_
  refine g_dup hX dX4_init_8 rfl rfl ?_
  refine g_bi 120 hX dX4_init_9 (by decide) rfl ?_
  refine g_ic (-1) hX dX4_init_11 (by decide) rfl ?_
  refine g_callI hX (bg 195 (by decide +kernel) rfl) (bg 93 (by decide +kernel) rfl) (bg 52 (by decide +kernel) rfl) (bg 94 (by decide +kernel) rfl) rfl ⟨by decide +kernel, by decide +kernel, by decide +kernel⟩ (cg_row _ 33 120 120 (-1) _ _ (by decide) (by decide) (by decide) rfl rfl rfl) rfl rfl ⟨by rw [hR]; exact Nat.le_of_ble_eq_true rfl, by rw [hR]; exact Nat.le_of_ble_eq_true rfl, by rw [hR]; exact Nat.le_of_ble_eq_true rfl, by rw [hR]; exact Nat.le_of_ble_eq_true rfl⟩ (Nat.le_of_ble_eq_true rfl) rfl rfl rfl (Nat.le_of_ble_eq_true rfl) dX4_init_12 rfl ?_
  refine g_put hX hi fg_X4_14 (fun _ => ⟨rfl, rfl⟩) (p := 32) rfl (Nat.le_of_ble_eq_true rfl) dX4_init_15 rfl ?_
  refine g_al hX dX4_init_18 rfl rfl rfl ?_
  refine g_new (q9 := 35) rfl hX nw_X4_9 rfl rfl rfl (Nat.le_of_ble_eq_true rfl) ⟨by rw [hR]; exact Nat.le_of_ble_eq_true rfl, by rw [hR]; exact Nat.le_of_ble_eq_true rfl⟩ dX4_init_19 rfl ?_
  refine g_dup hX dX4_init_22 rfl rfl ?_
  refine g_bi 120 hX dX4_init_23 (by decide) rfl ?_
  refine g_ic (-1) hX dX4_init_25 (by decide) rfl ?_
  refine g_callI hX (bg 195 (by decide +kernel) rfl) (bg 93 (by decide +kernel) rfl) (bg 52 (by decide +kernel) rfl) (bg 94 (by decide +kernel) rfl) rfl ⟨by decide +kernel, by decide +kernel, by decide +kernel⟩ (cg_row _ 35 120 120 (-1) _ _ (by decide) (by decide) (by decide) rfl rfl rfl) rfl rfl ⟨by rw [hR]; exact Nat.le_of_ble_eq_true rfl, by rw [hR]; exact Nat.le_of_ble_eq_true rfl, by rw [hR]; exact Nat.le_of_ble_eq_true rfl, by rw [hR]; exact Nat.le_of_ble_eq_true rfl⟩ (Nat.le_of_ble_eq_true rfl) rfl rfl rfl (Nat.le_of_ble_eq_true rfl) dX4_init_26 rfl ?_
  refine g_put hX hi fg_X4_20 (fun _ => ⟨rfl, rfl⟩) (p := 32) rfl (Nat.le_of_ble_eq_true rfl) dX4_init_29 rfl ?_
  refine g_al hX dX4_init_32 rfl rfl rfl ?_
  refine g_new (q9 := 37) rfl hX nw_X4_9 rfl rfl rfl (Nat.le_of_ble_eq_true rfl) ⟨by rw [hR]; exact Nat.le_of_ble_eq_true rfl, by rw [hR]; exact Nat.le_of_ble_eq_true rfl⟩ dX4_init_33 rfl ?_
  refine g_dup hX dX4_init_36 rfl rfl ?_
  refine g_bi 120 hX dX4_init_37 (by decide) rfl ?_
  refine g_ic 0 hX dX4_init_39 (by decide) rfl ?_
  refine g_callI hX (bg 195 (by decide +kernel) rfl) (bg 93 (by decide +kernel) rfl) (bg 52 (by decide +kernel) rfl) (bg 94 (by decide +kernel) rfl) rfl ⟨by decide +kernel, by decide +kernel, by decide +kernel⟩ (cg_row _ 37 120 120 0 _ _ (by decide) (by decide) (by decide) rfl rfl rfl) rfl rfl ⟨by rw [hR]; exact Nat.le_of_ble_eq_true rfl, by rw [hR]; exact Nat.le_of_ble_eq_true rfl, by rw [hR]; exact Nat.le_of_ble_eq_true rfl, by rw [hR]; exact Nat.le_of_ble_eq_true rfl⟩ (Nat.le_of_ble_eq_true rfl) rfl rfl rfl (Nat.le_of_ble_eq_true rfl) dX4_init_40 rfl ?_
  refine g_put hX hi fg_X4_23 (fun _ => ⟨rfl, rfl⟩) (p := 32) rfl (Nat.le_of_ble_eq_true rfl) dX4_init_43 rfl ?_
  refine g_al hX dX4_init_46 rfl rfl rfl ?_
  refine g_new (q9 := 39) rfl hX nw_X4_9 rfl rfl rfl (Nat.le_of_ble_eq_true rfl) ⟨by rw [hR]; exact Nat.le_of_ble_eq_true rfl, by rw [hR]; exact Nat.le_of_ble_eq_true rfl⟩ dX4_init_47 rfl ?_
  refine g_dup hX dX4_init_50 rfl rfl ?_
  refine g_bi 120 hX dX4_init_51 (by decide) rfl ?_
  refine g_ic (-1) hX dX4_init_53 (by decide) rfl ?_
  refine g_callI hX (bg 195 (by decide +kernel) rfl) (bg 93 (by decide +kernel) rfl) (bg 52 (by decide +kernel) rfl) (bg 94 (by decide +kernel) rfl) rfl ⟨by decide +kernel, by decide +kernel, by decide +kernel⟩ (cg_row _ 39 120 120 (-1) _ _ (by decide) (by decide) (by decide) rfl rfl rfl) rfl rfl ⟨by rw [hR]; exact Nat.le_of_ble_eq_true rfl, by rw [hR]; exact Nat.le_of_ble_eq_true rfl, by rw [hR]; exact Nat.le_of_ble_eq_true rfl, by rw [hR]; exact Nat.le_of_ble_eq_true rfl⟩ (Nat.le_of_ble_eq_true rfl) rfl rfl rfl (Nat.le_of_ble_eq_true rfl) dX4_init_54 rfl ?_
  refine g_put hX hi fg_X4_26 (fun _ => ⟨rfl, rfl⟩) (p := 32) rfl (Nat.le_of_ble_eq_true rfl) dX4_init_57 rfl ?_
  refine g_al hX dX4_init_60 rfl rfl rfl ?_
  refine g_new (q9 := 41) rfl hX nw_X4_9 rfl rfl rfl (Nat.le_of_ble_eq_true rfl) ⟨by rw [hR]; exact Nat.le_of_ble_eq_true rfl, by rw [hR]; exact Nat.le_of_ble_eq_true rfl⟩ dX4_init_61 rfl ?_
  refine g_dup hX dX4_init_64 rfl rfl ?_
  refine g_bi 120 hX dX4_init_65 (by decide) rfl ?_
  refine g_ic 0 hX dX4_init_67 (by decide) rfl ?_
  refine g_callI hX (bg 195 (by decide +kernel) rfl) (bg 93 (by decide +kernel) rfl) (bg 52 (by decide +kernel) rfl) (bg 94 (by decide +kernel) rfl) rfl ⟨by decide +kernel, by decide +kernel, by decide +kernel⟩ (cg_row _ 41 120 120 0 _ _ (by decide) (by decide) (by decide) rfl rfl rfl) rfl rfl ⟨by rw [hR]; exact Nat.le_of_ble_eq_true rfl, by rw [hR]; exact Nat.le_of_ble_eq_true rfl, by rw [hR]; exact Nat.le_of_ble_eq_true rfl, by rw [hR]; exact Nat.le_of_ble_eq_true rfl⟩ (Nat.le_of_ble_eq_true rfl) rfl rfl rfl (Nat.le_of_ble_eq_true rfl) dX4_init_68 rfl ?_
  refine g_put hX hi fg_X4_29 (fun _ => ⟨rfl, rfl⟩) (p := 32) rfl (Nat.le_of_ble_eq_true rfl) dX4_init_71 rfl ?_
  refine g_al hX dX4_init_74 rfl rfl rfl ?_
  refine g_new (q9 := 43) rfl hX nw_X4_9 rfl rfl rfl (Nat.le_of_ble_eq_true rfl) ⟨by rw [hR]; exact Nat.le_of_ble_eq_true rfl, by rw [hR]; exact Nat.le_of_ble_eq_true rfl⟩ dX4_init_75 rfl ?_
  refine g_dup hX dX4_init_78 rfl rfl ?_
  refine g_bi 120 hX dX4_init_79 (by decide) rfl ?_
  refine g_ic 0 hX dX4_init_81 (by decide) rfl ?_
  refine g_callI hX (bg 195 (by decide +kernel) rfl) (bg 93 (by decide +kernel) rfl) (bg 52 (by decide +kernel) rfl) (bg 94 (by decide +kernel) rfl) rfl ⟨by decide +kernel, by decide +kernel, by decide +kernel⟩ (cg_row _ 43 120 120 0 _ _ (by decide) (by decide) (by decide) rfl rfl rfl) rfl rfl ⟨by rw [hR]; exact Nat.le_of_ble_eq_true rfl, by rw [hR]; exact Nat.le_of_ble_eq_true rfl, by rw [hR]; exact Nat.le_of_ble_eq_true rfl, by rw [hR]; exact Nat.le_of_ble_eq_true rfl⟩ (Nat.le_of_ble_eq_true rfl) rfl rfl rfl (Nat.le_of_ble_eq_true rfl) dX4_init_82 rfl ?_
  refine g_put hX hi fg_X4_32 (fun _ => ⟨rfl, rfl⟩) (p := 32) rfl (Nat.le_of_ble_eq_true rfl) dX4_init_85 rfl ?_
  refine g_al hX dX4_init_88 rfl rfl rfl ?_
  refine g_new (q9 := 45) rfl hX nw_X4_9 rfl rfl rfl (Nat.le_of_ble_eq_true rfl) ⟨by rw [hR]; exact Nat.le_of_ble_eq_true rfl, by rw [hR]; exact Nat.le_of_ble_eq_true rfl⟩ dX4_init_89 rfl ?_
  refine g_dup hX dX4_init_92 rfl rfl ?_
  refine g_bi 24 hX dX4_init_93 (by decide) rfl ?_
  refine g_ic 0 hX dX4_init_95 (by decide) rfl ?_
  refine g_callI hX (bg 195 (by decide +kernel) rfl) (bg 93 (by decide +kernel) rfl) (bg 52 (by decide +kernel) rfl) (bg 94 (by decide +kernel) rfl) rfl ⟨by decide +kernel, by decide +kernel, by decide +kernel⟩ (cg_row _ 45 24 24 0 _ _ (by decide) (by decide) (by decide) rfl rfl rfl) rfl rfl ⟨by rw [hR]; exact Nat.le_of_ble_eq_true rfl, by rw [hR]; exact Nat.le_of_ble_eq_true rfl, by rw [hR]; exact Nat.le_of_ble_eq_true rfl, by rw [hR]; exact Nat.le_of_ble_eq_true rfl⟩ (Nat.le_of_ble_eq_true rfl) rfl rfl rfl (Nat.le_of_ble_eq_true rfl) dX4_init_96 rfl ?_
  refine g_put hX hi fg_X4_35 (fun _ => ⟨rfl, rfl⟩) (p := 32) rfl (Nat.le_of_ble_eq_true rfl) dX4_init_99 rfl ?_
  exact g_ret hX hQ hr rfl dX4_init_102

set_option maxRecDepth 100000 in
set_option maxHeartbeats 4000000 in
theorem cg_X2_init_0 (l : Launch) : CG l yX2_init cX2_init 1 2 45 8 28 [.ref 47]
  [.inl (11, [.null, .null, .null, .null, .null]), .inl (10, [.ref 2, .ref 17, .ref 32, .null, .null, .null, .null, .null, .null, .int 0, .int 0]), .inl (9, [.ref 3, .ref 5, .ref 7, .ref 9, .ref 11, .ref 13, .ref 15, .int 0, .int 0, .int 0, .int 0]), .inl (7, [.ref 4]), .inr (0, 24, fillF (fun _ => 0) (-1) 24), .inl (7, [.ref 6]), .inr (0, 24, fillF (fun _ => 0) (-1) 24), .inl (7, [.ref 8]), .inr (0, 24, fillF (fun _ => 0) (-1) 24), .inl (7, [.ref 10]), .inr (0, 24, fillF (fun _ => 0) 7 24), .inl (7, [.ref 12]), .inr (0, 72, fillF (fun _ => 0) 0 72), .inl (7, [.ref 14]), .inr (0, 24, fillF (fun _ => 0) (-1) 24), .inl (7, [.ref 16]), .inr (0, 6, fillF (fun _ => 0) 0 6), .inl (6, [.ref 18, .ref 20, .ref 22, .ref 24, .ref 26, .ref 28, .ref 30, .int 0]), .inl (7, [.ref 19]), .inr (0, 30, fillF (fun _ => 0) 3 30), .inl (7, [.ref 21]), .inr (0, 30, fillF (fun _ => 0) 0 30), .inl (7, [.ref 23]), .inr (0, 30, fillF (fun _ => 0) 0 30), .inl (7, [.ref 25]), .inr (0, 30, fillF (fun _ => 0) (-1) 30), .inl (7, [.ref 27]), .inr (0, 30, fillF (fun _ => 0) (-1) 30), .inl (7, [.ref 29]), .inr (0, 30, fillF (fun _ => 0) (-1) 30), .inl (7, [.ref 31]), .inr (0, 30, fillF (fun _ => 0) 0 30), .inl (4, [.ref 33, .ref 35, .ref 37, .ref 39, .ref 41, .ref 43, .ref 45]), .inl (7, [.ref 34]), .inr (0, 120, fillF (fun _ => 0) (-1) 120), .inl (7, [.ref 36]), .inr (0, 120, fillF (fun _ => 0) (-1) 120), .inl (7, [.ref 38]), .inr (0, 120, fillF (fun _ => 0) 0 120), .inl (7, [.ref 40]), .inr (0, 120, fillF (fun _ => 0) (-1) 120), .inl (7, [.ref 42]), .inr (0, 120, fillF (fun _ => 0) 0 120), .inl (7, [.ref 44]), .inr (0, 120, fillF (fun _ => 0) 0 120), .inl (7, [.ref 46]), .inr (0, 24, fillF (fun _ => 0) 0 24), .inl (2, [.null, .null, .null, .null, .int 0])]
  [.inl (11, [.null, .null, .null, .null, .null]), .inl (10, [.ref 2, .ref 17, .ref 32, .null, .null, .null, .null, .null, .null, .int 0, .int 0]), .inl (9, [.ref 3, .ref 5, .ref 7, .ref 9, .ref 11, .ref 13, .ref 15, .int 0, .int 0, .int 0, .int 0]), .inl (7, [.ref 4]), .inr (0, 24, fillF (fun _ => 0) (-1) 24), .inl (7, [.ref 6]), .inr (0, 24, fillF (fun _ => 0) (-1) 24), .inl (7, [.ref 8]), .inr (0, 24, fillF (fun _ => 0) (-1) 24), .inl (7, [.ref 10]), .inr (0, 24, fillF (fun _ => 0) 7 24), .inl (7, [.ref 12]), .inr (0, 72, fillF (fun _ => 0) 0 72), .inl (7, [.ref 14]), .inr (0, 24, fillF (fun _ => 0) (-1) 24), .inl (7, [.ref 16]), .inr (0, 6, fillF (fun _ => 0) 0 6), .inl (6, [.ref 18, .ref 20, .ref 22, .ref 24, .ref 26, .ref 28, .ref 30, .int 0]), .inl (7, [.ref 19]), .inr (0, 30, fillF (fun _ => 0) 3 30), .inl (7, [.ref 21]), .inr (0, 30, fillF (fun _ => 0) 0 30), .inl (7, [.ref 23]), .inr (0, 30, fillF (fun _ => 0) 0 30), .inl (7, [.ref 25]), .inr (0, 30, fillF (fun _ => 0) (-1) 30), .inl (7, [.ref 27]), .inr (0, 30, fillF (fun _ => 0) (-1) 30), .inl (7, [.ref 29]), .inr (0, 30, fillF (fun _ => 0) (-1) 30), .inl (7, [.ref 31]), .inr (0, 30, fillF (fun _ => 0) 0 30), .inl (4, [.ref 33, .ref 35, .ref 37, .ref 39, .ref 41, .ref 43, .ref 45]), .inl (7, [.ref 34]), .inr (0, 120, fillF (fun _ => 0) (-1) 120), .inl (7, [.ref 36]), .inr (0, 120, fillF (fun _ => 0) (-1) 120), .inl (7, [.ref 38]), .inr (0, 120, fillF (fun _ => 0) 0 120), .inl (7, [.ref 40]), .inr (0, 120, fillF (fun _ => 0) (-1) 120), .inl (7, [.ref 42]), .inr (0, 120, fillF (fun _ => 0) 0 120), .inl (7, [.ref 44]), .inr (0, 120, fillF (fun _ => 0) 0 120), .inl (7, [.ref 46]), .inr (0, 24, fillF (fun _ => 0) 0 24), .inl (2, [.ref 48, .ref 50, .ref 52, .ref 54, .int 0]), .inl (7, [.ref 49]), .inr (0, 6, fillF (fun _ => 0) (-1) 6), .inl (7, [.ref 51]), .inr (0, 6, fillF (fun _ => 0) (-1) 6), .inl (7, [.ref 53]), .inr (0, 6, fillF (fun _ => 0) (-1) 6), .inl (7, [.ref 55]), .inr (0, 6, fillF (fun _ => 0) 0 6)] := by
  refine cg_of (by decide) (by simp [Value.category]) (by simp) (fun X ρ0 hl hX0 hG hnm hR hQ hr => ?_)
  have hX : CGX X cX2_init 1 RX2 := ⟨hX0, hG⟩
  have hi := hnm rfl
  refine g_al hX dX2_init_0 rfl rfl rfl ?_
  refine g_obj hX ob_X2_3 rfl (by rw [hR]; exact Nat.le_of_ble_eq_true rfl) (by rw [hR]; exact Nat.le_of_ble_eq_true rfl) dX2_init_1 rfl ?_
  refine g_al hX dX2_init_4 rfl rfl rfl ?_
  refine g_new (q9 := 48) rfl hX nw_X2_9 rfl rfl rfl (Nat.le_of_ble_eq_true rfl) ⟨by rw [hR]; exact Nat.le_of_ble_eq_true rfl, by rw [hR]; exact Nat.le_of_ble_eq_true rfl⟩ dX2_init_5 rfl ?_
  refine g_dup hX dX2_init_8 rfl rfl ?_
  refine g_bi 6 hX dX2_init_9 (by decide) rfl ?_
  refine g_ic (-1) hX dX2_init_11 (by decide) rfl ?_
  refine g_callI hX (bg 232 (by decide +kernel) rfl) (bg 93 (by decide +kernel) rfl) (bg 52 (by decide +kernel) rfl) (bg 94 (by decide +kernel) rfl) rfl ⟨by decide +kernel, by decide +kernel, by decide +kernel⟩ (cg_row _ 48 6 6 (-1) _ _ (by decide) (by decide) (by decide) rfl rfl rfl) rfl rfl ⟨by rw [hR]; exact Nat.le_of_ble_eq_true rfl, by rw [hR]; exact Nat.le_of_ble_eq_true rfl, by rw [hR]; exact Nat.le_of_ble_eq_true rfl, by rw [hR]; exact Nat.le_of_ble_eq_true rfl⟩ (Nat.le_of_ble_eq_true rfl) rfl rfl rfl (Nat.le_of_ble_eq_true rfl) dX2_init_12 rfl ?_
  refine g_put hX hi fg_X2_14 (fun _ => ⟨rfl, rfl⟩) (p := 47) rfl (Nat.le_of_ble_eq_true rfl) dX2_init_15 rfl ?_
  refine g_al hX dX2_init_18 rfl rfl rfl ?_
  refine g_new (q9 := 50) rfl hX nw_X2_9 rfl rfl rfl (Nat.le_of_ble_eq_true rfl) ⟨by rw [hR]; exact Nat.le_of_ble_eq_true rfl, by rw [hR]; exact Nat.le_of_ble_eq_true rfl⟩ dX2_init_19 rfl ?_
  refine g_dup hX dX2_init_22 rfl rfl ?_
  refine g_bi 6 hX dX2_init_23 (by decide) rfl ?_
  refine g_ic (-1) hX dX2_init_25 (by decide) rfl ?_
  refine g_callI hX (bg 232 (by decide +kernel) rfl) (bg 93 (by decide +kernel) rfl) (bg 52 (by decide +kernel) rfl) (bg 94 (by decide +kernel) rfl) rfl ⟨by decide +kernel, by decide +kernel, by decide +kernel⟩ (cg_row _ 50 6 6 (-1) _ _ (by decide) (by decide) (by decide) rfl rfl rfl) rfl rfl ⟨by rw [hR]; exact Nat.le_of_ble_eq_true rfl, by rw [hR]; exact Nat.le_of_ble_eq_true rfl, by rw [hR]; exact Nat.le_of_ble_eq_true rfl, by rw [hR]; exact Nat.le_of_ble_eq_true rfl⟩ (Nat.le_of_ble_eq_true rfl) rfl rfl rfl (Nat.le_of_ble_eq_true rfl) dX2_init_26 rfl ?_
  refine g_put hX hi fg_X2_20 (fun _ => ⟨rfl, rfl⟩) (p := 47) rfl (Nat.le_of_ble_eq_true rfl) dX2_init_29 rfl ?_
  refine g_al hX dX2_init_32 rfl rfl rfl ?_
  refine g_new (q9 := 52) rfl hX nw_X2_9 rfl rfl rfl (Nat.le_of_ble_eq_true rfl) ⟨by rw [hR]; exact Nat.le_of_ble_eq_true rfl, by rw [hR]; exact Nat.le_of_ble_eq_true rfl⟩ dX2_init_33 rfl ?_
  refine g_dup hX dX2_init_36 rfl rfl ?_
  refine g_bi 6 hX dX2_init_37 (by decide) rfl ?_
  refine g_ic (-1) hX dX2_init_39 (by decide) rfl ?_
  refine g_callI hX (bg 232 (by decide +kernel) rfl) (bg 93 (by decide +kernel) rfl) (bg 52 (by decide +kernel) rfl) (bg 94 (by decide +kernel) rfl) rfl ⟨by decide +kernel, by decide +kernel, by decide +kernel⟩ (cg_row _ 52 6 6 (-1) _ _ (by decide) (by decide) (by decide) rfl rfl rfl) rfl rfl ⟨by rw [hR]; exact Nat.le_of_ble_eq_true rfl, by rw [hR]; exact Nat.le_of_ble_eq_true rfl, by rw [hR]; exact Nat.le_of_ble_eq_true rfl, by rw [hR]; exact Nat.le_of_ble_eq_true rfl⟩ (Nat.le_of_ble_eq_true rfl) rfl rfl rfl (Nat.le_of_ble_eq_true rfl) dX2_init_40 rfl ?_
  refine g_put hX hi fg_X2_23 (fun _ => ⟨rfl, rfl⟩) (p := 47) rfl (Nat.le_of_ble_eq_true rfl) dX2_init_43 rfl ?_
  refine g_al hX dX2_init_46 rfl rfl rfl ?_
  refine g_new (q9 := 54) rfl hX nw_X2_9 rfl rfl rfl (Nat.le_of_ble_eq_true rfl) ⟨by rw [hR]; exact Nat.le_of_ble_eq_true rfl, by rw [hR]; exact Nat.le_of_ble_eq_true rfl⟩ dX2_init_47 rfl ?_
  refine g_dup hX dX2_init_50 rfl rfl ?_
  refine g_bi 6 hX dX2_init_51 (by decide) rfl ?_
  refine g_ic 0 hX dX2_init_53 (by decide) rfl ?_
  refine g_callI hX (bg 232 (by decide +kernel) rfl) (bg 93 (by decide +kernel) rfl) (bg 52 (by decide +kernel) rfl) (bg 94 (by decide +kernel) rfl) rfl ⟨by decide +kernel, by decide +kernel, by decide +kernel⟩ (cg_row _ 54 6 6 0 _ _ (by decide) (by decide) (by decide) rfl rfl rfl) rfl rfl ⟨by rw [hR]; exact Nat.le_of_ble_eq_true rfl, by rw [hR]; exact Nat.le_of_ble_eq_true rfl, by rw [hR]; exact Nat.le_of_ble_eq_true rfl, by rw [hR]; exact Nat.le_of_ble_eq_true rfl⟩ (Nat.le_of_ble_eq_true rfl) rfl rfl rfl (Nat.le_of_ble_eq_true rfl) dX2_init_54 rfl ?_
  refine g_put hX hi fg_X2_26 (fun _ => ⟨rfl, rfl⟩) (p := 47) rfl (Nat.le_of_ble_eq_true rfl) dX2_init_57 rfl ?_
  exact g_ret hX hQ hr rfl dX2_init_60

set_option maxRecDepth 100000 in
set_option maxHeartbeats 4000000 in
theorem cg_X10_init_0 (l : Launch) : CG l yX10_init cX10_init 2 3 65 64 1271 [.ref 1]
  [.inl (11, [.null, .null, .null, .null, .null]), .inl (10, [.null, .null, .null, .null, .null, .null, .null, .null, .null, .int 0, .int 0])]
  [.inl (11, [.null, .null, .null, .null, .null]), .inl (10, [.ref 2, .ref 17, .ref 32, .ref 47, .ref 56, .ref 58, .ref 60, .ref 62, .ref 64, .int 0, .int 0]), .inl (9, [.ref 3, .ref 5, .ref 7, .ref 9, .ref 11, .ref 13, .ref 15, .int 0, .int 0, .int 0, .int 0]), .inl (7, [.ref 4]), .inr (0, 24, fillF (fun _ => 0) (-1) 24), .inl (7, [.ref 6]), .inr (0, 24, fillF (fun _ => 0) (-1) 24), .inl (7, [.ref 8]), .inr (0, 24, fillF (fun _ => 0) (-1) 24), .inl (7, [.ref 10]), .inr (0, 24, fillF (fun _ => 0) 7 24), .inl (7, [.ref 12]), .inr (0, 72, fillF (fun _ => 0) 0 72), .inl (7, [.ref 14]), .inr (0, 24, fillF (fun _ => 0) (-1) 24), .inl (7, [.ref 16]), .inr (0, 6, fillF (fun _ => 0) 0 6), .inl (6, [.ref 18, .ref 20, .ref 22, .ref 24, .ref 26, .ref 28, .ref 30, .int 0]), .inl (7, [.ref 19]), .inr (0, 30, fillF (fun _ => 0) 3 30), .inl (7, [.ref 21]), .inr (0, 30, fillF (fun _ => 0) 0 30), .inl (7, [.ref 23]), .inr (0, 30, fillF (fun _ => 0) 0 30), .inl (7, [.ref 25]), .inr (0, 30, fillF (fun _ => 0) (-1) 30), .inl (7, [.ref 27]), .inr (0, 30, fillF (fun _ => 0) (-1) 30), .inl (7, [.ref 29]), .inr (0, 30, fillF (fun _ => 0) (-1) 30), .inl (7, [.ref 31]), .inr (0, 30, fillF (fun _ => 0) 0 30), .inl (4, [.ref 33, .ref 35, .ref 37, .ref 39, .ref 41, .ref 43, .ref 45]), .inl (7, [.ref 34]), .inr (0, 120, fillF (fun _ => 0) (-1) 120), .inl (7, [.ref 36]), .inr (0, 120, fillF (fun _ => 0) (-1) 120), .inl (7, [.ref 38]), .inr (0, 120, fillF (fun _ => 0) 0 120), .inl (7, [.ref 40]), .inr (0, 120, fillF (fun _ => 0) (-1) 120), .inl (7, [.ref 42]), .inr (0, 120, fillF (fun _ => 0) 0 120), .inl (7, [.ref 44]), .inr (0, 120, fillF (fun _ => 0) 0 120), .inl (7, [.ref 46]), .inr (0, 24, fillF (fun _ => 0) 0 24), .inl (2, [.ref 48, .ref 50, .ref 52, .ref 54, .int 0]), .inl (7, [.ref 49]), .inr (0, 6, fillF (fun _ => 0) (-1) 6), .inl (7, [.ref 51]), .inr (0, 6, fillF (fun _ => 0) (-1) 6), .inl (7, [.ref 53]), .inr (0, 6, fillF (fun _ => 0) (-1) 6), .inl (7, [.ref 55]), .inr (0, 6, fillF (fun _ => 0) 0 6), .inl (7, [.ref 57]), .inr (0, 6, fillF (fun _ => 0) (-1) 6), .inl (7, [.ref 59]), .inr (0, 8, fillF (fun _ => 0) (-1) 8), .inl (7, [.ref 61]), .inr (0, 8, fillF (fun _ => 0) (-1) 8), .inl (7, [.ref 63]), .inr (0, 6, fillF (fun _ => 0) (-1) 6), .inl (7, [.ref 65]), .inr (0, 6, upd (upd (upd (upd (upd (upd (fillF (fun _ => 0) (-1) 6) 0 0) 1 1) 2 2) 3 3) 4 4) 5 5)] := by
  refine cg_of (by decide) (by simp [Value.category]) (by simp) (fun X ρ0 hl hX0 hG hnm hR hQ hr => ?_)
  have hX : CGX X cX10_init 2 RX10 := ⟨hX0, hG⟩
  have hi := hnm rfl
  refine g_al hX dX10_init_0 rfl rfl rfl ?_
  refine g_obj hX ob_X10_3 rfl (by rw [hR]; exact Nat.le_of_ble_eq_true rfl) (by rw [hR]; exact Nat.le_of_ble_eq_true rfl) dX10_init_1 rfl ?_
  refine g_al hX dX10_init_4 rfl rfl rfl ?_
  refine g_new (q9 := 2) rfl hX nw_X10_9 rfl rfl rfl (Nat.le_of_ble_eq_true rfl) ⟨by rw [hR]; exact Nat.le_of_ble_eq_true rfl, by rw [hR]; exact Nat.le_of_ble_eq_true rfl⟩ dX10_init_5 rfl ?_
  refine g_dup hX dX10_init_8 rfl rfl ?_
  refine g_callN hX (by decide +kernel) (bg 87 (by decide +kernel) rfl) (bg 51 (by decide +kernel) rfl) (bg 88 (by decide +kernel) rfl) rfl ⟨by decide +kernel, by decide +kernel, by decide +kernel⟩ (cg_X9_init_0 _) rfl rfl ⟨by rw [hR]; exact Nat.le_of_ble_eq_true rfl, by rw [hR]; exact Nat.le_of_ble_eq_true rfl, by rw [hR]; exact Nat.le_of_ble_eq_true rfl, by rw [hR]; exact Nat.le_of_ble_eq_true rfl⟩ (Nat.le_of_ble_eq_true rfl) rfl rfl rfl (Nat.le_of_ble_eq_true rfl) dX10_init_9 rfl ?_
  refine g_put hX hi fg_X10_12 (fun _ => ⟨rfl, rfl⟩) (p := 1) rfl (Nat.le_of_ble_eq_true rfl) dX10_init_12 rfl ?_
  refine g_al hX dX10_init_15 rfl rfl rfl ?_
  refine g_new (q9 := 17) rfl hX nw_X10_18 rfl rfl rfl (Nat.le_of_ble_eq_true rfl) ⟨by rw [hR]; exact Nat.le_of_ble_eq_true rfl, by rw [hR]; exact Nat.le_of_ble_eq_true rfl⟩ dX10_init_16 rfl ?_
  refine g_dup hX dX10_init_19 rfl rfl ?_
  refine g_callN hX (by decide +kernel) (bg 156 (by decide +kernel) rfl) (bg 54 (by decide +kernel) rfl) (bg 157 (by decide +kernel) rfl) rfl ⟨by decide +kernel, by decide +kernel, by decide +kernel⟩ (cg_X6_init_0 _) rfl rfl ⟨by rw [hR]; exact Nat.le_of_ble_eq_true rfl, by rw [hR]; exact Nat.le_of_ble_eq_true rfl, by rw [hR]; exact Nat.le_of_ble_eq_true rfl, by rw [hR]; exact Nat.le_of_ble_eq_true rfl⟩ (Nat.le_of_ble_eq_true rfl) rfl rfl rfl (Nat.le_of_ble_eq_true rfl) dX10_init_20 rfl ?_
  refine g_put hX hi fg_X10_21 (fun _ => ⟨rfl, rfl⟩) (p := 1) rfl (Nat.le_of_ble_eq_true rfl) dX10_init_23 rfl ?_
  refine g_al hX dX10_init_26 rfl rfl rfl ?_
  refine g_new (q9 := 32) rfl hX nw_X10_25 rfl rfl rfl (Nat.le_of_ble_eq_true rfl) ⟨by rw [hR]; exact Nat.le_of_ble_eq_true rfl, by rw [hR]; exact Nat.le_of_ble_eq_true rfl⟩ dX10_init_27 rfl ?_
  refine g_dup hX dX10_init_30 rfl rfl ?_
  refine g_callN hX (by decide +kernel) (bg 191 (by decide +kernel) rfl) (bg 55 (by decide +kernel) rfl) (bg 192 (by decide +kernel) rfl) rfl ⟨by decide +kernel, by decide +kernel, by decide +kernel⟩ (cg_X4_init_0 _) rfl rfl ⟨by rw [hR]; exact Nat.le_of_ble_eq_true rfl, by rw [hR]; exact Nat.le_of_ble_eq_true rfl, by rw [hR]; exact Nat.le_of_ble_eq_true rfl, by rw [hR]; exact Nat.le_of_ble_eq_true rfl⟩ (Nat.le_of_ble_eq_true rfl) rfl rfl rfl (Nat.le_of_ble_eq_true rfl) dX10_init_31 rfl ?_
  refine g_put hX hi fg_X10_28 (fun _ => ⟨rfl, rfl⟩) (p := 1) rfl (Nat.le_of_ble_eq_true rfl) dX10_init_34 rfl ?_
  refine g_al hX dX10_init_37 rfl rfl rfl ?_
  refine g_new (q9 := 47) rfl hX nw_X10_32 rfl rfl rfl (Nat.le_of_ble_eq_true rfl) ⟨by rw [hR]; exact Nat.le_of_ble_eq_true rfl, by rw [hR]; exact Nat.le_of_ble_eq_true rfl⟩ dX10_init_38 rfl ?_
  refine g_dup hX dX10_init_41 rfl rfl ?_
  refine g_callN hX (by decide +kernel) (bg 228 (by decide +kernel) rfl) (bg 56 (by decide +kernel) rfl) (bg 229 (by decide +kernel) rfl) rfl ⟨by decide +kernel, by decide +kernel, by decide +kernel⟩ (cg_X2_init_0 _) rfl rfl ⟨by rw [hR]; exact Nat.le_of_ble_eq_true rfl, by rw [hR]; exact Nat.le_of_ble_eq_true rfl, by rw [hR]; exact Nat.le_of_ble_eq_true rfl, by rw [hR]; exact Nat.le_of_ble_eq_true rfl⟩ (Nat.le_of_ble_eq_true rfl) rfl rfl rfl (Nat.le_of_ble_eq_true rfl) dX10_init_42 rfl ?_
  refine g_put hX hi fg_X10_35 (fun _ => ⟨rfl, rfl⟩) (p := 1) rfl (Nat.le_of_ble_eq_true rfl) dX10_init_45 rfl ?_
  refine g_al hX dX10_init_48 rfl rfl rfl ?_
  refine g_new (q9 := 56) rfl hX nw_X10_39 rfl rfl rfl (Nat.le_of_ble_eq_true rfl) ⟨by rw [hR]; exact Nat.le_of_ble_eq_true rfl, by rw [hR]; exact Nat.le_of_ble_eq_true rfl⟩ dX10_init_49 rfl ?_
  refine g_dup hX dX10_init_52 rfl rfl ?_
  refine g_bi 6 hX dX10_init_53 (by decide) rfl ?_
  refine g_ic (-1) hX dX10_init_55 (by decide) rfl ?_
  refine g_callI hX (bg 256 (by decide +kernel) rfl) (bg 93 (by decide +kernel) rfl) (bg 52 (by decide +kernel) rfl) (bg 94 (by decide +kernel) rfl) rfl ⟨by decide +kernel, by decide +kernel, by decide +kernel⟩ (cg_row _ 56 6 6 (-1) _ _ (by decide) (by decide) (by decide) rfl rfl rfl) rfl rfl ⟨by rw [hR]; exact Nat.le_of_ble_eq_true rfl, by rw [hR]; exact Nat.le_of_ble_eq_true rfl, by rw [hR]; exact Nat.le_of_ble_eq_true rfl, by rw [hR]; exact Nat.le_of_ble_eq_true rfl⟩ (Nat.le_of_ble_eq_true rfl) rfl rfl rfl (Nat.le_of_ble_eq_true rfl) dX10_init_56 rfl ?_
  refine g_put hX hi fg_X10_44 (fun _ => ⟨rfl, rfl⟩) (p := 1) rfl (Nat.le_of_ble_eq_true rfl) dX10_init_59 rfl ?_
  refine g_al hX dX10_init_62 rfl rfl rfl ?_
  refine g_new (q9 := 58) rfl hX nw_X10_39 rfl rfl rfl (Nat.le_of_ble_eq_true rfl) ⟨by rw [hR]; exact Nat.le_of_ble_eq_true rfl, by rw [hR]; exact Nat.le_of_ble_eq_true rfl⟩ dX10_init_63 rfl ?_
  refine g_dup hX dX10_init_66 rfl rfl ?_
  refine g_bi 8 hX dX10_init_67 (by decide) rfl ?_
  refine g_ic (-1) hX dX10_init_69 (by decide) rfl ?_
  refine g_callI hX (bg 256 (by decide +kernel) rfl) (bg 93 (by decide +kernel) rfl) (bg 52 (by decide +kernel) rfl) (bg 94 (by decide +kernel) rfl) rfl ⟨by decide +kernel, by decide +kernel, by decide +kernel⟩ (cg_row _ 58 8 8 (-1) _ _ (by decide) (by decide) (by decide) rfl rfl rfl) rfl rfl ⟨by rw [hR]; exact Nat.le_of_ble_eq_true rfl, by rw [hR]; exact Nat.le_of_ble_eq_true rfl, by rw [hR]; exact Nat.le_of_ble_eq_true rfl, by rw [hR]; exact Nat.le_of_ble_eq_true rfl⟩ (Nat.le_of_ble_eq_true rfl) rfl rfl rfl (Nat.le_of_ble_eq_true rfl) dX10_init_70 rfl ?_
  refine g_put hX hi fg_X10_48 (fun _ => ⟨rfl, rfl⟩) (p := 1) rfl (Nat.le_of_ble_eq_true rfl) dX10_init_73 rfl ?_
  refine g_al hX dX10_init_76 rfl rfl rfl ?_
  refine g_new (q9 := 60) rfl hX nw_X10_39 rfl rfl rfl (Nat.le_of_ble_eq_true rfl) ⟨by rw [hR]; exact Nat.le_of_ble_eq_true rfl, by rw [hR]; exact Nat.le_of_ble_eq_true rfl⟩ dX10_init_77 rfl ?_
  refine g_dup hX dX10_init_80 rfl rfl ?_
  refine g_bi 8 hX dX10_init_81 (by decide) rfl ?_
  refine g_ic (-1) hX dX10_init_83 (by decide) rfl ?_
  refine g_callI hX (bg 256 (by decide +kernel) rfl) (bg 93 (by decide +kernel) rfl) (bg 52 (by decide +kernel) rfl) (bg 94 (by decide +kernel) rfl) rfl ⟨by decide +kernel, by decide +kernel, by decide +kernel⟩ (cg_row _ 60 8 8 (-1) _ _ (by decide) (by decide) (by decide) rfl rfl rfl) rfl rfl ⟨by rw [hR]; exact Nat.le_of_ble_eq_true rfl, by rw [hR]; exact Nat.le_of_ble_eq_true rfl, by rw [hR]; exact Nat.le_of_ble_eq_true rfl, by rw [hR]; exact Nat.le_of_ble_eq_true rfl⟩ (Nat.le_of_ble_eq_true rfl) rfl rfl rfl (Nat.le_of_ble_eq_true rfl) dX10_init_84 rfl ?_
  refine g_put hX hi fg_X10_51 (fun _ => ⟨rfl, rfl⟩) (p := 1) rfl (Nat.le_of_ble_eq_true rfl) dX10_init_87 rfl ?_
  refine g_al hX dX10_init_90 rfl rfl rfl ?_
  refine g_new (q9 := 62) rfl hX nw_X10_39 rfl rfl rfl (Nat.le_of_ble_eq_true rfl) ⟨by rw [hR]; exact Nat.le_of_ble_eq_true rfl, by rw [hR]; exact Nat.le_of_ble_eq_true rfl⟩ dX10_init_91 rfl ?_
  refine g_dup hX dX10_init_94 rfl rfl ?_
  refine g_bi 6 hX dX10_init_95 (by decide) rfl ?_
  refine g_ic (-1) hX dX10_init_97 (by decide) rfl ?_
  refine g_callI hX (bg 256 (by decide +kernel) rfl) (bg 93 (by decide +kernel) rfl) (bg 52 (by decide +kernel) rfl) (bg 94 (by decide +kernel) rfl) rfl ⟨by decide +kernel, by decide +kernel, by decide +kernel⟩ (cg_row _ 62 6 6 (-1) _ _ (by decide) (by decide) (by decide) rfl rfl rfl) rfl rfl ⟨by rw [hR]; exact Nat.le_of_ble_eq_true rfl, by rw [hR]; exact Nat.le_of_ble_eq_true rfl, by rw [hR]; exact Nat.le_of_ble_eq_true rfl, by rw [hR]; exact Nat.le_of_ble_eq_true rfl⟩ (Nat.le_of_ble_eq_true rfl) rfl rfl rfl (Nat.le_of_ble_eq_true rfl) dX10_init_98 rfl ?_
  refine g_put hX hi fg_X10_54 (fun _ => ⟨rfl, rfl⟩) (p := 1) rfl (Nat.le_of_ble_eq_true rfl) dX10_init_101 rfl ?_
  refine g_al hX dX10_init_104 rfl rfl rfl ?_
  refine g_new (q9 := 64) rfl hX nw_X10_39 rfl rfl rfl (Nat.le_of_ble_eq_true rfl) ⟨by rw [hR]; exact Nat.le_of_ble_eq_true rfl, by rw [hR]; exact Nat.le_of_ble_eq_true rfl⟩ dX10_init_105 rfl ?_
  refine g_dup hX dX10_init_108 rfl rfl ?_
  refine g_bi 6 hX dX10_init_109 (by decide) rfl ?_
  refine g_ic (-1) hX dX10_init_111 (by decide) rfl ?_
  refine g_callI hX (bg 256 (by decide +kernel) rfl) (bg 93 (by decide +kernel) rfl) (bg 52 (by decide +kernel) rfl) (bg 94 (by decide +kernel) rfl) rfl ⟨by decide +kernel, by decide +kernel, by decide +kernel⟩ (cg_row _ 64 6 6 (-1) _ _ (by decide) (by decide) (by decide) rfl rfl rfl) rfl rfl ⟨by rw [hR]; exact Nat.le_of_ble_eq_true rfl, by rw [hR]; exact Nat.le_of_ble_eq_true rfl, by rw [hR]; exact Nat.le_of_ble_eq_true rfl, by rw [hR]; exact Nat.le_of_ble_eq_true rfl⟩ (Nat.le_of_ble_eq_true rfl) rfl rfl rfl (Nat.le_of_ble_eq_true rfl) dX10_init_112 rfl ?_
  refine g_put hX hi fg_X10_57 (fun _ => ⟨rfl, rfl⟩) (p := 1) rfl (Nat.le_of_ble_eq_true rfl) dX10_init_115 rfl ?_
  refine g_ic 0 hX dX10_init_118 (by decide) rfl ?_
  refine g_is hX dX10_init_119 rfl (by simp) rfl ?_
  refine g_il hX dX10_init_120 rfl rfl rfl ?_
  refine g_bi 6 hX dX10_init_121 (by decide) rfl ?_
  refine g_gef hX dX10_init_123 (tgt := 141) rfl (by decide) rfl ?_
  refine g_al hX dX10_init_126 rfl rfl rfl ?_
  refine g_getR hX fl_X10_57 rfl rfl dX10_init_127 rfl ?_
  refine g_il hX dX10_init_130 rfl rfl rfl ?_
  refine g_il hX dX10_init_131 rfl rfl rfl ?_
  refine g_callV hX ml_X10_60 (cg_set _ 64 65 6 0 0 _ _ rfl rfl (by decide) (by decide) (vpi (by decide))) rfl rfl rfl rfl ⟨by rw [hR]; exact Nat.le_of_ble_eq_true rfl, by rw [hR]; exact Nat.le_of_ble_eq_true rfl, by rw [hR]; exact Nat.le_of_ble_eq_true rfl, by rw [hR]; exact Nat.le_of_ble_eq_true rfl⟩ (Nat.le_of_ble_eq_true rfl) rfl rfl rfl (Nat.le_of_ble_eq_true rfl) dX10_init_132 rfl ?_
  refine g_inc (v := 1) hX dX10_init_135 rfl (by simp) (by decide) rfl ?_
  refine g_goto hX dX10_init_138 (pc1 := 120) rfl ?_
  refine g_il hX dX10_init_120 rfl rfl rfl ?_
  refine g_bi 6 hX dX10_init_121 (by decide) rfl ?_
  refine g_gef hX dX10_init_123 (tgt := 141) rfl (by decide) rfl ?_
  refine g_al hX dX10_init_126 rfl rfl rfl ?_
  refine g_getR hX fl_X10_57 rfl rfl dX10_init_127 rfl ?_
  refine g_il hX dX10_init_130 rfl rfl rfl ?_
  refine g_il hX dX10_init_131 rfl rfl rfl ?_
  refine g_callV hX ml_X10_60 (cg_set _ 64 65 6 1 1 _ _ rfl rfl (by decide) (by decide) (vpi (by decide))) rfl rfl rfl rfl ⟨by rw [hR]; exact Nat.le_of_ble_eq_true rfl, by rw [hR]; exact Nat.le_of_ble_eq_true rfl, by rw [hR]; exact Nat.le_of_ble_eq_true rfl, by rw [hR]; exact Nat.le_of_ble_eq_true rfl⟩ (Nat.le_of_ble_eq_true rfl) rfl rfl rfl (Nat.le_of_ble_eq_true rfl) dX10_init_132 rfl ?_
  refine g_inc (v := 2) hX dX10_init_135 rfl (by simp) (by decide) rfl ?_
  refine g_goto hX dX10_init_138 (pc1 := 120) rfl ?_
  refine g_il hX dX10_init_120 rfl rfl rfl ?_
  refine g_bi 6 hX dX10_init_121 (by decide) rfl ?_
  refine g_gef hX dX10_init_123 (tgt := 141) rfl (by decide) rfl ?_
  refine g_al hX dX10_init_126 rfl rfl rfl ?_
  refine g_getR hX fl_X10_57 rfl rfl dX10_init_127 rfl ?_
  refine g_il hX dX10_init_130 rfl rfl rfl ?_
  refine g_il hX dX10_init_131 rfl rfl rfl ?_
  refine g_callV hX ml_X10_60 (cg_set _ 64 65 6 2 2 _ _ rfl rfl (by decide) (by decide) (vpi (by decide))) rfl rfl rfl rfl ⟨by rw [hR]; exact Nat.le_of_ble_eq_true rfl, by rw [hR]; exact Nat.le_of_ble_eq_true rfl, by rw [hR]; exact Nat.le_of_ble_eq_true rfl, by rw [hR]; exact Nat.le_of_ble_eq_true rfl⟩ (Nat.le_of_ble_eq_true rfl) rfl rfl rfl (Nat.le_of_ble_eq_true rfl) dX10_init_132 rfl ?_
  refine g_inc (v := 3) hX dX10_init_135 rfl (by simp) (by decide) rfl ?_
  refine g_goto hX dX10_init_138 (pc1 := 120) rfl ?_
  refine g_il hX dX10_init_120 rfl rfl rfl ?_
  refine g_bi 6 hX dX10_init_121 (by decide) rfl ?_
  refine g_gef hX dX10_init_123 (tgt := 141) rfl (by decide) rfl ?_
  refine g_al hX dX10_init_126 rfl rfl rfl ?_
  refine g_getR hX fl_X10_57 rfl rfl dX10_init_127 rfl ?_
  refine g_il hX dX10_init_130 rfl rfl rfl ?_
  refine g_il hX dX10_init_131 rfl rfl rfl ?_
  refine g_callV hX ml_X10_60 (cg_set _ 64 65 6 3 3 _ _ rfl rfl (by decide) (by decide) (vpi (by decide))) rfl rfl rfl rfl ⟨by rw [hR]; exact Nat.le_of_ble_eq_true rfl, by rw [hR]; exact Nat.le_of_ble_eq_true rfl, by rw [hR]; exact Nat.le_of_ble_eq_true rfl, by rw [hR]; exact Nat.le_of_ble_eq_true rfl⟩ (Nat.le_of_ble_eq_true rfl) rfl rfl rfl (Nat.le_of_ble_eq_true rfl) dX10_init_132 rfl ?_
  refine g_inc (v := 4) hX dX10_init_135 rfl (by simp) (by decide) rfl ?_
  refine g_goto hX dX10_init_138 (pc1 := 120) rfl ?_
  refine g_il hX dX10_init_120 rfl rfl rfl ?_
  refine g_bi 6 hX dX10_init_121 (by decide) rfl ?_
  refine g_gef hX dX10_init_123 (tgt := 141) rfl (by decide) rfl ?_
  refine g_al hX dX10_init_126 rfl rfl rfl ?_
  refine g_getR hX fl_X10_57 rfl rfl dX10_init_127 rfl ?_
  refine g_il hX dX10_init_130 rfl rfl rfl ?_
  refine g_il hX dX10_init_131 rfl rfl rfl ?_
  refine g_callV hX ml_X10_60 (cg_set _ 64 65 6 4 4 _ _ rfl rfl (by decide) (by decide) (vpi (by decide))) rfl rfl rfl rfl ⟨by rw [hR]; exact Nat.le_of_ble_eq_true rfl, by rw [hR]; exact Nat.le_of_ble_eq_true rfl, by rw [hR]; exact Nat.le_of_ble_eq_true rfl, by rw [hR]; exact Nat.le_of_ble_eq_true rfl⟩ (Nat.le_of_ble_eq_true rfl) rfl rfl rfl (Nat.le_of_ble_eq_true rfl) dX10_init_132 rfl ?_
  refine g_inc (v := 5) hX dX10_init_135 rfl (by simp) (by decide) rfl ?_
  refine g_goto hX dX10_init_138 (pc1 := 120) rfl ?_
  refine g_il hX dX10_init_120 rfl rfl rfl ?_
  refine g_bi 6 hX dX10_init_121 (by decide) rfl ?_
  refine g_gef hX dX10_init_123 (tgt := 141) rfl (by decide) rfl ?_
  refine g_al hX dX10_init_126 rfl rfl rfl ?_
  refine g_getR hX fl_X10_57 rfl rfl dX10_init_127 rfl ?_
  refine g_il hX dX10_init_130 rfl rfl rfl ?_
  refine g_il hX dX10_init_131 rfl rfl rfl ?_
  refine g_callV hX ml_X10_60 (cg_set _ 64 65 6 5 5 _ _ rfl rfl (by decide) (by decide) (vpi (by decide))) rfl rfl rfl rfl ⟨by rw [hR]; exact Nat.le_of_ble_eq_true rfl, by rw [hR]; exact Nat.le_of_ble_eq_true rfl, by rw [hR]; exact Nat.le_of_ble_eq_true rfl, by rw [hR]; exact Nat.le_of_ble_eq_true rfl⟩ (Nat.le_of_ble_eq_true rfl) rfl rfl rfl (Nat.le_of_ble_eq_true rfl) dX10_init_132 rfl ?_
  refine g_inc (v := 6) hX dX10_init_135 rfl (by simp) (by decide) rfl ?_
  refine g_goto hX dX10_init_138 (pc1 := 120) rfl ?_
  refine g_il hX dX10_init_120 rfl rfl rfl ?_
  refine g_bi 6 hX dX10_init_121 (by decide) rfl ?_
  refine g_get hX dX10_init_123 (pc1 := 141) rfl (by decide) ?_
  exact g_ret hX hQ hr rfl dX10_init_141

set_option maxRecDepth 100000 in
set_option maxHeartbeats 4000000 in
theorem cg_X5_init_0 (l : Launch) : CG l yX5_init cX5_init 2 1 12 0 0 [.ref 66, .ref 1]
  [.inl (11, [.null, .null, .null, .null, .null]), .inl (10, [.ref 2, .ref 17, .ref 32, .ref 47, .ref 56, .ref 58, .ref 60, .ref 62, .ref 64, .int 0, .int 0]), .inl (9, [.ref 3, .ref 5, .ref 7, .ref 9, .ref 11, .ref 13, .ref 15, .int 0, .int 0, .int 0, .int 0]), .inl (7, [.ref 4]), .inr (0, 24, fillF (fun _ => 0) (-1) 24), .inl (7, [.ref 6]), .inr (0, 24, fillF (fun _ => 0) (-1) 24), .inl (7, [.ref 8]), .inr (0, 24, fillF (fun _ => 0) (-1) 24), .inl (7, [.ref 10]), .inr (0, 24, fillF (fun _ => 0) 7 24), .inl (7, [.ref 12]), .inr (0, 72, fillF (fun _ => 0) 0 72), .inl (7, [.ref 14]), .inr (0, 24, fillF (fun _ => 0) (-1) 24), .inl (7, [.ref 16]), .inr (0, 6, fillF (fun _ => 0) 0 6), .inl (6, [.ref 18, .ref 20, .ref 22, .ref 24, .ref 26, .ref 28, .ref 30, .int 0]), .inl (7, [.ref 19]), .inr (0, 30, fillF (fun _ => 0) 3 30), .inl (7, [.ref 21]), .inr (0, 30, fillF (fun _ => 0) 0 30), .inl (7, [.ref 23]), .inr (0, 30, fillF (fun _ => 0) 0 30), .inl (7, [.ref 25]), .inr (0, 30, fillF (fun _ => 0) (-1) 30), .inl (7, [.ref 27]), .inr (0, 30, fillF (fun _ => 0) (-1) 30), .inl (7, [.ref 29]), .inr (0, 30, fillF (fun _ => 0) (-1) 30), .inl (7, [.ref 31]), .inr (0, 30, fillF (fun _ => 0) 0 30), .inl (4, [.ref 33, .ref 35, .ref 37, .ref 39, .ref 41, .ref 43, .ref 45]), .inl (7, [.ref 34]), .inr (0, 120, fillF (fun _ => 0) (-1) 120), .inl (7, [.ref 36]), .inr (0, 120, fillF (fun _ => 0) (-1) 120), .inl (7, [.ref 38]), .inr (0, 120, fillF (fun _ => 0) 0 120), .inl (7, [.ref 40]), .inr (0, 120, fillF (fun _ => 0) (-1) 120), .inl (7, [.ref 42]), .inr (0, 120, fillF (fun _ => 0) 0 120), .inl (7, [.ref 44]), .inr (0, 120, fillF (fun _ => 0) 0 120), .inl (7, [.ref 46]), .inr (0, 24, fillF (fun _ => 0) 0 24), .inl (2, [.ref 48, .ref 50, .ref 52, .ref 54, .int 0]), .inl (7, [.ref 49]), .inr (0, 6, fillF (fun _ => 0) (-1) 6), .inl (7, [.ref 51]), .inr (0, 6, fillF (fun _ => 0) (-1) 6), .inl (7, [.ref 53]), .inr (0, 6, fillF (fun _ => 0) (-1) 6), .inl (7, [.ref 55]), .inr (0, 6, fillF (fun _ => 0) 0 6), .inl (7, [.ref 57]), .inr (0, 6, fillF (fun _ => 0) (-1) 6), .inl (7, [.ref 59]), .inr (0, 8, fillF (fun _ => 0) (-1) 8), .inl (7, [.ref 61]), .inr (0, 8, fillF (fun _ => 0) (-1) 8), .inl (7, [.ref 63]), .inr (0, 6, fillF (fun _ => 0) (-1) 6), .inl (7, [.ref 65]), .inr (0, 6, upd (upd (upd (upd (upd (upd (fillF (fun _ => 0) (-1) 6) 0 0) 1 1) 2 2) 3 3) 4 4) 5 5), .inl (5, [.null, .int 0, .int 0])]
  [.inl (11, [.null, .null, .null, .null, .null]), .inl (10, [.ref 2, .ref 17, .ref 32, .ref 47, .ref 56, .ref 58, .ref 60, .ref 62, .ref 64, .int 0, .int 0]), .inl (9, [.ref 3, .ref 5, .ref 7, .ref 9, .ref 11, .ref 13, .ref 15, .int 0, .int 0, .int 0, .int 0]), .inl (7, [.ref 4]), .inr (0, 24, fillF (fun _ => 0) (-1) 24), .inl (7, [.ref 6]), .inr (0, 24, fillF (fun _ => 0) (-1) 24), .inl (7, [.ref 8]), .inr (0, 24, fillF (fun _ => 0) (-1) 24), .inl (7, [.ref 10]), .inr (0, 24, fillF (fun _ => 0) 7 24), .inl (7, [.ref 12]), .inr (0, 72, fillF (fun _ => 0) 0 72), .inl (7, [.ref 14]), .inr (0, 24, fillF (fun _ => 0) (-1) 24), .inl (7, [.ref 16]), .inr (0, 6, fillF (fun _ => 0) 0 6), .inl (6, [.ref 18, .ref 20, .ref 22, .ref 24, .ref 26, .ref 28, .ref 30, .int 0]), .inl (7, [.ref 19]), .inr (0, 30, fillF (fun _ => 0) 3 30), .inl (7, [.ref 21]), .inr (0, 30, fillF (fun _ => 0) 0 30), .inl (7, [.ref 23]), .inr (0, 30, fillF (fun _ => 0) 0 30), .inl (7, [.ref 25]), .inr (0, 30, fillF (fun _ => 0) (-1) 30), .inl (7, [.ref 27]), .inr (0, 30, fillF (fun _ => 0) (-1) 30), .inl (7, [.ref 29]), .inr (0, 30, fillF (fun _ => 0) (-1) 30), .inl (7, [.ref 31]), .inr (0, 30, fillF (fun _ => 0) 0 30), .inl (4, [.ref 33, .ref 35, .ref 37, .ref 39, .ref 41, .ref 43, .ref 45]), .inl (7, [.ref 34]), .inr (0, 120, fillF (fun _ => 0) (-1) 120), .inl (7, [.ref 36]), .inr (0, 120, fillF (fun _ => 0) (-1) 120), .inl (7, [.ref 38]), .inr (0, 120, fillF (fun _ => 0) 0 120), .inl (7, [.ref 40]), .inr (0, 120, fillF (fun _ => 0) (-1) 120), .inl (7, [.ref 42]), .inr (0, 120, fillF (fun _ => 0) 0 120), .inl (7, [.ref 44]), .inr (0, 120, fillF (fun _ => 0) 0 120), .inl (7, [.ref 46]), .inr (0, 24, fillF (fun _ => 0) 0 24), .inl (2, [.ref 48, .ref 50, .ref 52, .ref 54, .int 0]), .inl (7, [.ref 49]), .inr (0, 6, fillF (fun _ => 0) (-1) 6), .inl (7, [.ref 51]), .inr (0, 6, fillF (fun _ => 0) (-1) 6), .inl (7, [.ref 53]), .inr (0, 6, fillF (fun _ => 0) (-1) 6), .inl (7, [.ref 55]), .inr (0, 6, fillF (fun _ => 0) 0 6), .inl (7, [.ref 57]), .inr (0, 6, fillF (fun _ => 0) (-1) 6), .inl (7, [.ref 59]), .inr (0, 8, fillF (fun _ => 0) (-1) 8), .inl (7, [.ref 61]), .inr (0, 8, fillF (fun _ => 0) (-1) 8), .inl (7, [.ref 63]), .inr (0, 6, fillF (fun _ => 0) (-1) 6), .inl (7, [.ref 65]), .inr (0, 6, upd (upd (upd (upd (upd (upd (fillF (fun _ => 0) (-1) 6) 0 0) 1 1) 2 2) 3 3) 4 4) 5 5), .inl (5, [.ref 1, .int 0, .int 0])] := by
  refine cg_of (by decide) (by simp [Value.category]) (by simp) (fun X ρ0 hl hX0 hG hnm hR hQ hr => ?_)
  have hX : CGX X cX5_init 2 RX5 := ⟨hX0, hG⟩
  have hi := hnm rfl
  refine g_al hX dX5_init_0 rfl rfl rfl ?_
  refine g_obj hX ob_X5_3 rfl (by rw [hR]; exact Nat.le_of_ble_eq_true rfl) (by rw [hR]; exact Nat.le_of_ble_eq_true rfl) dX5_init_1 rfl ?_
  refine g_al hX dX5_init_4 rfl rfl rfl ?_
  refine g_al hX dX5_init_5 rfl rfl rfl ?_
  refine g_put hX hi fg_X5_9 (fun _ => ⟨rfl, rfl⟩) (p := 66) rfl (Nat.le_of_ble_eq_true rfl) dX5_init_6 rfl ?_
  exact g_ret hX hQ hr rfl dX5_init_9

set_option maxRecDepth 100000 in
set_option maxHeartbeats 4000000 in
theorem cg_X1_init_0 (l : Launch) : CG l yX1_init cX1_init 2 2 45 4 14 [.ref 76, .ref 1]
  [.inl (11, [.ref 1, .ref 66, .null, .null, .null]), .inl (10, [.ref 2, .ref 17, .ref 32, .ref 47, .ref 56, .ref 58, .ref 60, .ref 62, .ref 64, .int 0, .int 0]), .inl (9, [.ref 3, .ref 5, .ref 7, .ref 9, .ref 11, .ref 13, .ref 15, .int 0, .int 0, .int 0, .int 0]), .inl (7, [.ref 4]), .inr (0, 24, fillF (fun _ => 0) (-1) 24), .inl (7, [.ref 6]), .inr (0, 24, fillF (fun _ => 0) (-1) 24), .inl (7, [.ref 8]), .inr (0, 24, fillF (fun _ => 0) (-1) 24), .inl (7, [.ref 10]), .inr (0, 24, fillF (fun _ => 0) 7 24), .inl (7, [.ref 12]), .inr (0, 72, fillF (fun _ => 0) 0 72), .inl (7, [.ref 14]), .inr (0, 24, fillF (fun _ => 0) (-1) 24), .inl (7, [.ref 16]), .inr (0, 6, fillF (fun _ => 0) 0 6), .inl (6, [.ref 18, .ref 20, .ref 22, .ref 24, .ref 26, .ref 28, .ref 30, .int 0]), .inl (7, [.ref 19]), .inr (0, 30, fillF (fun _ => 0) 3 30), .inl (7, [.ref 21]), .inr (0, 30, fillF (fun _ => 0) 0 30), .inl (7, [.ref 23]), .inr (0, 30, fillF (fun _ => 0) 0 30), .inl (7, [.ref 25]), .inr (0, 30, fillF (fun _ => 0) (-1) 30), .inl (7, [.ref 27]), .inr (0, 30, fillF (fun _ => 0) (-1) 30), .inl (7, [.ref 29]), .inr (0, 30, fillF (fun _ => 0) (-1) 30), .inl (7, [.ref 31]), .inr (0, 30, fillF (fun _ => 0) 0 30), .inl (4, [.ref 33, .ref 35, .ref 37, .ref 39, .ref 41, .ref 43, .ref 45]), .inl (7, [.ref 34]), .inr (0, 120, fillF (fun _ => 0) (-1) 120), .inl (7, [.ref 36]), .inr (0, 120, fillF (fun _ => 0) (-1) 120), .inl (7, [.ref 38]), .inr (0, 120, fillF (fun _ => 0) 0 120), .inl (7, [.ref 40]), .inr (0, 120, fillF (fun _ => 0) (-1) 120), .inl (7, [.ref 42]), .inr (0, 120, fillF (fun _ => 0) 0 120), .inl (7, [.ref 44]), .inr (0, 120, fillF (fun _ => 0) 0 120), .inl (7, [.ref 46]), .inr (0, 24, fillF (fun _ => 0) 0 24), .inl (2, [.ref 48, .ref 50, .ref 52, .ref 54, .int 0]), .inl (7, [.ref 49]), .inr (0, 6, fillF (fun _ => 0) (-1) 6), .inl (7, [.ref 51]), .inr (0, 6, fillF (fun _ => 0) (-1) 6), .inl (7, [.ref 53]), .inr (0, 6, fillF (fun _ => 0) (-1) 6), .inl (7, [.ref 55]), .inr (0, 6, fillF (fun _ => 0) 0 6), .inl (7, [.ref 57]), .inr (0, 6, fillF (fun _ => 0) (-1) 6), .inl (7, [.ref 59]), .inr (0, 8, fillF (fun _ => 0) (-1) 8), .inl (7, [.ref 61]), .inr (0, 8, fillF (fun _ => 0) (-1) 8), .inl (7, [.ref 63]), .inr (0, 6, fillF (fun _ => 0) (-1) 6), .inl (7, [.ref 65]), .inr (0, 6, upd (upd (upd (upd (upd (upd (fillF (fun _ => 0) (-1) 6) 0 0) 1 1) 2 2) 3 3) 4 4) 5 5), .inl (5, [.ref 1, .int 0, .int 0]), .inl (8, [.ref 1, .ref 66, .null, .ref 68, .ref 70, .ref 72, .ref 74, .int 0, .int 0, .int 0]), .inl (7, [.ref 69]), .inr (0, 6, fillF (fun _ => 0) (-1) 6), .inl (7, [.ref 71]), .inr (0, 30, fillF (fun _ => 0) (-1) 30), .inl (7, [.ref 73]), .inr (0, 6, fillF (fun _ => 0) 0 6), .inl (7, [.ref 75]), .inr (0, 6, fillF (fun _ => 0) 0 6), .inl (1, [.null, .null, .null])]
  [.inl (11, [.ref 1, .ref 66, .null, .null, .null]), .inl (10, [.ref 2, .ref 17, .ref 32, .ref 47, .ref 56, .ref 58, .ref 60, .ref 62, .ref 64, .int 0, .int 0]), .inl (9, [.ref 3, .ref 5, .ref 7, .ref 9, .ref 11, .ref 13, .ref 15, .int 0, .int 0, .int 0, .int 0]), .inl (7, [.ref 4]), .inr (0, 24, fillF (fun _ => 0) (-1) 24), .inl (7, [.ref 6]), .inr (0, 24, fillF (fun _ => 0) (-1) 24), .inl (7, [.ref 8]), .inr (0, 24, fillF (fun _ => 0) (-1) 24), .inl (7, [.ref 10]), .inr (0, 24, fillF (fun _ => 0) 7 24), .inl (7, [.ref 12]), .inr (0, 72, fillF (fun _ => 0) 0 72), .inl (7, [.ref 14]), .inr (0, 24, fillF (fun _ => 0) (-1) 24), .inl (7, [.ref 16]), .inr (0, 6, fillF (fun _ => 0) 0 6), .inl (6, [.ref 18, .ref 20, .ref 22, .ref 24, .ref 26, .ref 28, .ref 30, .int 0]), .inl (7, [.ref 19]), .inr (0, 30, fillF (fun _ => 0) 3 30), .inl (7, [.ref 21]), .inr (0, 30, fillF (fun _ => 0) 0 30), .inl (7, [.ref 23]), .inr (0, 30, fillF (fun _ => 0) 0 30), .inl (7, [.ref 25]), .inr (0, 30, fillF (fun _ => 0) (-1) 30), .inl (7, [.ref 27]), .inr (0, 30, fillF (fun _ => 0) (-1) 30), .inl (7, [.ref 29]), .inr (0, 30, fillF (fun _ => 0) (-1) 30), .inl (7, [.ref 31]), .inr (0, 30, fillF (fun _ => 0) 0 30), .inl (4, [.ref 33, .ref 35, .ref 37, .ref 39, .ref 41, .ref 43, .ref 45]), .inl (7, [.ref 34]), .inr (0, 120, fillF (fun _ => 0) (-1) 120), .inl (7, [.ref 36]), .inr (0, 120, fillF (fun _ => 0) (-1) 120), .inl (7, [.ref 38]), .inr (0, 120, fillF (fun _ => 0) 0 120), .inl (7, [.ref 40]), .inr (0, 120, fillF (fun _ => 0) (-1) 120), .inl (7, [.ref 42]), .inr (0, 120, fillF (fun _ => 0) 0 120), .inl (7, [.ref 44]), .inr (0, 120, fillF (fun _ => 0) 0 120), .inl (7, [.ref 46]), .inr (0, 24, fillF (fun _ => 0) 0 24), .inl (2, [.ref 48, .ref 50, .ref 52, .ref 54, .int 0]), .inl (7, [.ref 49]), .inr (0, 6, fillF (fun _ => 0) (-1) 6), .inl (7, [.ref 51]), .inr (0, 6, fillF (fun _ => 0) (-1) 6), .inl (7, [.ref 53]), .inr (0, 6, fillF (fun _ => 0) (-1) 6), .inl (7, [.ref 55]), .inr (0, 6, fillF (fun _ => 0) 0 6), .inl (7, [.ref 57]), .inr (0, 6, fillF (fun _ => 0) (-1) 6), .inl (7, [.ref 59]), .inr (0, 8, fillF (fun _ => 0) (-1) 8), .inl (7, [.ref 61]), .inr (0, 8, fillF (fun _ => 0) (-1) 8), .inl (7, [.ref 63]), .inr (0, 6, fillF (fun _ => 0) (-1) 6), .inl (7, [.ref 65]), .inr (0, 6, upd (upd (upd (upd (upd (upd (fillF (fun _ => 0) (-1) 6) 0 0) 1 1) 2 2) 3 3) 4 4) 5 5), .inl (5, [.ref 1, .int 0, .int 0]), .inl (8, [.ref 1, .ref 66, .null, .ref 68, .ref 70, .ref 72, .ref 74, .int 0, .int 0, .int 0]), .inl (7, [.ref 69]), .inr (0, 6, fillF (fun _ => 0) (-1) 6), .inl (7, [.ref 71]), .inr (0, 30, fillF (fun _ => 0) (-1) 30), .inl (7, [.ref 73]), .inr (0, 6, fillF (fun _ => 0) 0 6), .inl (7, [.ref 75]), .inr (0, 6, fillF (fun _ => 0) 0 6), .inl (1, [.ref 1, .ref 77, .ref 79]), .inl (7, [.ref 78]), .inr (0, 6, fillF (fun _ => 0) (-1) 6), .inl (7, [.ref 80]), .inr (0, 6, fillF (fun _ => 0) 0 6)] := by
  refine cg_of (by decide) (by simp [Value.category]) (by simp) (fun X ρ0 hl hX0 hG hnm hR hQ hr => ?_)
  have hX : CGX X cX1_init 2 RX1 := ⟨hX0, hG⟩
  have hi := hnm rfl
  refine g_al hX dX1_init_0 rfl rfl rfl ?_
  refine g_obj hX ob_X1_3 rfl (by rw [hR]; exact Nat.le_of_ble_eq_true rfl) (by rw [hR]; exact Nat.le_of_ble_eq_true rfl) dX1_init_1 rfl ?_
  refine g_al hX dX1_init_4 rfl rfl rfl ?_
  refine g_new (q9 := 77) rfl hX nw_X1_9 rfl rfl rfl (Nat.le_of_ble_eq_true rfl) ⟨by rw [hR]; exact Nat.le_of_ble_eq_true rfl, by rw [hR]; exact Nat.le_of_ble_eq_true rfl⟩ dX1_init_5 rfl ?_
  refine g_dup hX dX1_init_8 rfl rfl ?_
  refine g_bi 6 hX dX1_init_9 (by decide) rfl ?_
  refine g_ic (-1) hX dX1_init_11 (by decide) rfl ?_
  refine g_callI hX (bg 344 (by decide +kernel) rfl) (bg 93 (by decide +kernel) rfl) (bg 52 (by decide +kernel) rfl) (bg 94 (by decide +kernel) rfl) rfl ⟨by decide +kernel, by decide +kernel, by decide +kernel⟩ (cg_row _ 77 6 6 (-1) _ _ (by decide) (by decide) (by decide) rfl rfl rfl) rfl rfl ⟨by rw [hR]; exact Nat.le_of_ble_eq_true rfl, by rw [hR]; exact Nat.le_of_ble_eq_true rfl, by rw [hR]; exact Nat.le_of_ble_eq_true rfl, by rw [hR]; exact Nat.le_of_ble_eq_true rfl⟩ (Nat.le_of_ble_eq_true rfl) rfl rfl rfl (Nat.le_of_ble_eq_true rfl) dX1_init_12 rfl ?_
  refine g_put hX hi fg_X1_14 (fun _ => ⟨rfl, rfl⟩) (p := 76) rfl (Nat.le_of_ble_eq_true rfl) dX1_init_15 rfl ?_
  refine g_al hX dX1_init_18 rfl rfl rfl ?_
  refine g_new (q9 := 79) rfl hX nw_X1_9 rfl rfl rfl (Nat.le_of_ble_eq_true rfl) ⟨by rw [hR]; exact Nat.le_of_ble_eq_true rfl, by rw [hR]; exact Nat.le_of_ble_eq_true rfl⟩ dX1_init_19 rfl ?_
  refine g_dup hX dX1_init_22 rfl rfl ?_
  refine g_bi 6 hX dX1_init_23 (by decide) rfl ?_
  refine g_ic 0 hX dX1_init_25 (by decide) rfl ?_
  refine g_callI hX (bg 344 (by decide +kernel) rfl) (bg 93 (by decide +kernel) rfl) (bg 52 (by decide +kernel) rfl) (bg 94 (by decide +kernel) rfl) rfl ⟨by decide +kernel, by decide +kernel, by decide +kernel⟩ (cg_row _ 79 6 6 0 _ _ (by decide) (by decide) (by decide) rfl rfl rfl) rfl rfl ⟨by rw [hR]; exact Nat.le_of_ble_eq_true rfl, by rw [hR]; exact Nat.le_of_ble_eq_true rfl, by rw [hR]; exact Nat.le_of_ble_eq_true rfl, by rw [hR]; exact Nat.le_of_ble_eq_true rfl⟩ (Nat.le_of_ble_eq_true rfl) rfl rfl rfl (Nat.le_of_ble_eq_true rfl) dX1_init_26 rfl ?_
  refine g_put hX hi fg_X1_20 (fun _ => ⟨rfl, rfl⟩) (p := 76) rfl (Nat.le_of_ble_eq_true rfl) dX1_init_29 rfl ?_
  refine g_al hX dX1_init_32 rfl rfl rfl ?_
  refine g_al hX dX1_init_33 rfl rfl rfl ?_
  refine g_put hX hi fg_X1_23 (fun _ => ⟨rfl, rfl⟩) (p := 76) rfl (Nat.le_of_ble_eq_true rfl) dX1_init_34 rfl ?_
  exact g_ret hX hQ hr rfl dX1_init_37

set_option maxRecDepth 100000 in
set_option maxHeartbeats 4000000 in
theorem cg_X8_init_0 (l : Launch) : CG l yX8_init cX8_init 3 3 66 13 69 [.ref 67, .ref 1, .ref 66]
  [.inl (11, [.ref 1, .ref 66, .null, .null, .null]), .inl (10, [.ref 2, .ref 17, .ref 32, .ref 47, .ref 56, .ref 58, .ref 60, .ref 62, .ref 64, .int 0, .int 0]), .inl (9, [.ref 3, .ref 5, .ref 7, .ref 9, .ref 11, .ref 13, .ref 15, .int 0, .int 0, .int 0, .int 0]), .inl (7, [.ref 4]), .inr (0, 24, fillF (fun _ => 0) (-1) 24), .inl (7, [.ref 6]), .inr (0, 24, fillF (fun _ => 0) (-1) 24), .inl (7, [.ref 8]), .inr (0, 24, fillF (fun _ => 0) (-1) 24), .inl (7, [.ref 10]), .inr (0, 24, fillF (fun _ => 0) 7 24), .inl (7, [.ref 12]), .inr (0, 72, fillF (fun _ => 0) 0 72), .inl (7, [.ref 14]), .inr (0, 24, fillF (fun _ => 0) (-1) 24), .inl (7, [.ref 16]), .inr (0, 6, fillF (fun _ => 0) 0 6), .inl (6, [.ref 18, .ref 20, .ref 22, .ref 24, .ref 26, .ref 28, .ref 30, .int 0]), .inl (7, [.ref 19]), .inr (0, 30, fillF (fun _ => 0) 3 30), .inl (7, [.ref 21]), .inr (0, 30, fillF (fun _ => 0) 0 30), .inl (7, [.ref 23]), .inr (0, 30, fillF (fun _ => 0) 0 30), .inl (7, [.ref 25]), .inr (0, 30, fillF (fun _ => 0) (-1) 30), .inl (7, [.ref 27]), .inr (0, 30, fillF (fun _ => 0) (-1) 30), .inl (7, [.ref 29]), .inr (0, 30, fillF (fun _ => 0) (-1) 30), .inl (7, [.ref 31]), .inr (0, 30, fillF (fun _ => 0) 0 30), .inl (4, [.ref 33, .ref 35, .ref 37, .ref 39, .ref 41, .ref 43, .ref 45]), .inl (7, [.ref 34]), .inr (0, 120, fillF (fun _ => 0) (-1) 120), .inl (7, [.ref 36]), .inr (0, 120, fillF (fun _ => 0) (-1) 120), .inl (7, [.ref 38]), .inr (0, 120, fillF (fun _ => 0) 0 120), .inl (7, [.ref 40]), .inr (0, 120, fillF (fun _ => 0) (-1) 120), .inl (7, [.ref 42]), .inr (0, 120, fillF (fun _ => 0) 0 120), .inl (7, [.ref 44]), .inr (0, 120, fillF (fun _ => 0) 0 120), .inl (7, [.ref 46]), .inr (0, 24, fillF (fun _ => 0) 0 24), .inl (2, [.ref 48, .ref 50, .ref 52, .ref 54, .int 0]), .inl (7, [.ref 49]), .inr (0, 6, fillF (fun _ => 0) (-1) 6), .inl (7, [.ref 51]), .inr (0, 6, fillF (fun _ => 0) (-1) 6), .inl (7, [.ref 53]), .inr (0, 6, fillF (fun _ => 0) (-1) 6), .inl (7, [.ref 55]), .inr (0, 6, fillF (fun _ => 0) 0 6), .inl (7, [.ref 57]), .inr (0, 6, fillF (fun _ => 0) (-1) 6), .inl (7, [.ref 59]), .inr (0, 8, fillF (fun _ => 0) (-1) 8), .inl (7, [.ref 61]), .inr (0, 8, fillF (fun _ => 0) (-1) 8), .inl (7, [.ref 63]), .inr (0, 6, fillF (fun _ => 0) (-1) 6), .inl (7, [.ref 65]), .inr (0, 6, upd (upd (upd (upd (upd (upd (fillF (fun _ => 0) (-1) 6) 0 0) 1 1) 2 2) 3 3) 4 4) 5 5), .inl (5, [.ref 1, .int 0, .int 0]), .inl (8, [.null, .null, .null, .null, .null, .null, .null, .int 0, .int 0, .int 0])]
  [.inl (11, [.ref 1, .ref 66, .null, .null, .null]), .inl (10, [.ref 2, .ref 17, .ref 32, .ref 47, .ref 56, .ref 58, .ref 60, .ref 62, .ref 64, .int 0, .int 0]), .inl (9, [.ref 3, .ref 5, .ref 7, .ref 9, .ref 11, .ref 13, .ref 15, .int 0, .int 0, .int 0, .int 0]), .inl (7, [.ref 4]), .inr (0, 24, fillF (fun _ => 0) (-1) 24), .inl (7, [.ref 6]), .inr (0, 24, fillF (fun _ => 0) (-1) 24), .inl (7, [.ref 8]), .inr (0, 24, fillF (fun _ => 0) (-1) 24), .inl (7, [.ref 10]), .inr (0, 24, fillF (fun _ => 0) 7 24), .inl (7, [.ref 12]), .inr (0, 72, fillF (fun _ => 0) 0 72), .inl (7, [.ref 14]), .inr (0, 24, fillF (fun _ => 0) (-1) 24), .inl (7, [.ref 16]), .inr (0, 6, fillF (fun _ => 0) 0 6), .inl (6, [.ref 18, .ref 20, .ref 22, .ref 24, .ref 26, .ref 28, .ref 30, .int 0]), .inl (7, [.ref 19]), .inr (0, 30, fillF (fun _ => 0) 3 30), .inl (7, [.ref 21]), .inr (0, 30, fillF (fun _ => 0) 0 30), .inl (7, [.ref 23]), .inr (0, 30, fillF (fun _ => 0) 0 30), .inl (7, [.ref 25]), .inr (0, 30, fillF (fun _ => 0) (-1) 30), .inl (7, [.ref 27]), .inr (0, 30, fillF (fun _ => 0) (-1) 30), .inl (7, [.ref 29]), .inr (0, 30, fillF (fun _ => 0) (-1) 30), .inl (7, [.ref 31]), .inr (0, 30, fillF (fun _ => 0) 0 30), .inl (4, [.ref 33, .ref 35, .ref 37, .ref 39, .ref 41, .ref 43, .ref 45]), .inl (7, [.ref 34]), .inr (0, 120, fillF (fun _ => 0) (-1) 120), .inl (7, [.ref 36]), .inr (0, 120, fillF (fun _ => 0) (-1) 120), .inl (7, [.ref 38]), .inr (0, 120, fillF (fun _ => 0) 0 120), .inl (7, [.ref 40]), .inr (0, 120, fillF (fun _ => 0) (-1) 120), .inl (7, [.ref 42]), .inr (0, 120, fillF (fun _ => 0) 0 120), .inl (7, [.ref 44]), .inr (0, 120, fillF (fun _ => 0) 0 120), .inl (7, [.ref 46]), .inr (0, 24, fillF (fun _ => 0) 0 24), .inl (2, [.ref 48, .ref 50, .ref 52, .ref 54, .int 0]), .inl (7, [.ref 49]), .inr (0, 6, fillF (fun _ => 0) (-1) 6), .inl (7, [.ref 51]), .inr (0, 6, fillF (fun _ => 0) (-1) 6), .inl (7, [.ref 53]), .inr (0, 6, fillF (fun _ => 0) (-1) 6), .inl (7, [.ref 55]), .inr (0, 6, fillF (fun _ => 0) 0 6), .inl (7, [.ref 57]), .inr (0, 6, fillF (fun _ => 0) (-1) 6), .inl (7, [.ref 59]), .inr (0, 8, fillF (fun _ => 0) (-1) 8), .inl (7, [.ref 61]), .inr (0, 8, fillF (fun _ => 0) (-1) 8), .inl (7, [.ref 63]), .inr (0, 6, fillF (fun _ => 0) (-1) 6), .inl (7, [.ref 65]), .inr (0, 6, upd (upd (upd (upd (upd (upd (fillF (fun _ => 0) (-1) 6) 0 0) 1 1) 2 2) 3 3) 4 4) 5 5), .inl (5, [.ref 1, .int 0, .int 0]), .inl (8, [.ref 1, .ref 66, .ref 76, .ref 68, .ref 70, .ref 72, .ref 74, .int 0, .int 0, .int 0]), .inl (7, [.ref 69]), .inr (0, 6, fillF (fun _ => 0) (-1) 6), .inl (7, [.ref 71]), .inr (0, 30, fillF (fun _ => 0) (-1) 30), .inl (7, [.ref 73]), .inr (0, 6, fillF (fun _ => 0) 0 6), .inl (7, [.ref 75]), .inr (0, 6, fillF (fun _ => 0) 0 6), .inl (1, [.ref 1, .ref 77, .ref 79]), .inl (7, [.ref 78]), .inr (0, 6, fillF (fun _ => 0) (-1) 6), .inl (7, [.ref 80]), .inr (0, 6, fillF (fun _ => 0) 0 6)] := by
  refine cg_of (by decide) (by simp [Value.category]) (by simp) (fun X ρ0 hl hX0 hG hnm hR hQ hr => ?_)
  have hX : CGX X cX8_init 3 RX8 := ⟨hX0, hG⟩
  have hi := hnm rfl
  refine g_al hX dX8_init_0 rfl rfl rfl ?_
  refine g_obj hX ob_X8_3 rfl (by rw [hR]; exact Nat.le_of_ble_eq_true rfl) (by rw [hR]; exact Nat.le_of_ble_eq_true rfl) dX8_init_1 rfl ?_
  refine g_al hX dX8_init_4 rfl rfl rfl ?_
  refine g_new (q9 := 68) rfl hX nw_X8_9 rfl rfl rfl (Nat.le_of_ble_eq_true rfl) ⟨by rw [hR]; exact Nat.le_of_ble_eq_true rfl, by rw [hR]; exact Nat.le_of_ble_eq_true rfl⟩ dX8_init_5 rfl ?_
  refine g_dup hX dX8_init_8 rfl rfl ?_
  refine g_bi 6 hX dX8_init_9 (by decide) rfl ?_
  refine g_ic (-1) hX dX8_init_11 (by decide) rfl ?_
  refine g_callI hX (bg 336 (by decide +kernel) rfl) (bg 93 (by decide +kernel) rfl) (bg 52 (by decide +kernel) rfl) (bg 94 (by decide +kernel) rfl) rfl ⟨by decide +kernel, by decide +kernel, by decide +kernel⟩ (cg_row _ 68 6 6 (-1) _ _ (by decide) (by decide) (by decide) rfl rfl rfl) rfl rfl ⟨by rw [hR]; exact Nat.le_of_ble_eq_true rfl, by rw [hR]; exact Nat.le_of_ble_eq_true rfl, by rw [hR]; exact Nat.le_of_ble_eq_true rfl, by rw [hR]; exact Nat.le_of_ble_eq_true rfl⟩ (Nat.le_of_ble_eq_true rfl) rfl rfl rfl (Nat.le_of_ble_eq_true rfl) dX8_init_12 rfl ?_
  refine g_put hX hi fg_X8_14 (fun _ => ⟨rfl, rfl⟩) (p := 67) rfl (Nat.le_of_ble_eq_true rfl) dX8_init_15 rfl ?_
  refine g_al hX dX8_init_18 rfl rfl rfl ?_
  refine g_new (q9 := 70) rfl hX nw_X8_9 rfl rfl rfl (Nat.le_of_ble_eq_true rfl) ⟨by rw [hR]; exact Nat.le_of_ble_eq_true rfl, by rw [hR]; exact Nat.le_of_ble_eq_true rfl⟩ dX8_init_19 rfl ?_
  refine g_dup hX dX8_init_22 rfl rfl ?_
  refine g_bi 30 hX dX8_init_23 (by decide) rfl ?_
  refine g_ic (-1) hX dX8_init_25 (by decide) rfl ?_
  refine g_callI hX (bg 336 (by decide +kernel) rfl) (bg 93 (by decide +kernel) rfl) (bg 52 (by decide +kernel) rfl) (bg 94 (by decide +kernel) rfl) rfl ⟨by decide +kernel, by decide +kernel, by decide +kernel⟩ (cg_row _ 70 30 30 (-1) _ _ (by decide) (by decide) (by decide) rfl rfl rfl) rfl rfl ⟨by rw [hR]; exact Nat.le_of_ble_eq_true rfl, by rw [hR]; exact Nat.le_of_ble_eq_true rfl, by rw [hR]; exact Nat.le_of_ble_eq_true rfl, by rw [hR]; exact Nat.le_of_ble_eq_true rfl⟩ (Nat.le_of_ble_eq_true rfl) rfl rfl rfl (Nat.le_of_ble_eq_true rfl) dX8_init_26 rfl ?_
  refine g_put hX hi fg_X8_20 (fun _ => ⟨rfl, rfl⟩) (p := 67) rfl (Nat.le_of_ble_eq_true rfl) dX8_init_29 rfl ?_
  refine g_al hX dX8_init_32 rfl rfl rfl ?_
  refine g_new (q9 := 72) rfl hX nw_X8_9 rfl rfl rfl (Nat.le_of_ble_eq_true rfl) ⟨by rw [hR]; exact Nat.le_of_ble_eq_true rfl, by rw [hR]; exact Nat.le_of_ble_eq_true rfl⟩ dX8_init_33 rfl ?_
  refine g_dup hX dX8_init_36 rfl rfl ?_
  refine g_bi 6 hX dX8_init_37 (by decide) rfl ?_
  refine g_ic 0 hX dX8_init_39 (by decide) rfl ?_
  refine g_callI hX (bg 336 (by decide +kernel) rfl) (bg 93 (by decide +kernel) rfl) (bg 52 (by decide +kernel) rfl) (bg 94 (by decide +kernel) rfl) rfl ⟨by decide +kernel, by decide +kernel, by decide +kernel⟩ (cg_row _ 72 6 6 0 _ _ (by decide) (by decide) (by decide) rfl rfl rfl) rfl rfl ⟨by rw [hR]; exact Nat.le_of_ble_eq_true rfl, by rw [hR]; exact Nat.le_of_ble_eq_true rfl, by rw [hR]; exact Nat.le_of_ble_eq_true rfl, by rw [hR]; exact Nat.le_of_ble_eq_true rfl⟩ (Nat.le_of_ble_eq_true rfl) rfl rfl rfl (Nat.le_of_ble_eq_true rfl) dX8_init_40 rfl ?_
  refine g_put hX hi fg_X8_23 (fun _ => ⟨rfl, rfl⟩) (p := 67) rfl (Nat.le_of_ble_eq_true rfl) dX8_init_43 rfl ?_
  refine g_al hX dX8_init_46 rfl rfl rfl ?_
  refine g_new (q9 := 74) rfl hX nw_X8_9 rfl rfl rfl (Nat.le_of_ble_eq_true rfl) ⟨by rw [hR]; exact Nat.le_of_ble_eq_true rfl, by rw [hR]; exact Nat.le_of_ble_eq_true rfl⟩ dX8_init_47 rfl ?_
  refine g_dup hX dX8_init_50 rfl rfl ?_
  refine g_bi 6 hX dX8_init_51 (by decide) rfl ?_
  refine g_ic 0 hX dX8_init_53 (by decide) rfl ?_
  refine g_callI hX (bg 336 (by decide +kernel) rfl) (bg 93 (by decide +kernel) rfl) (bg 52 (by decide +kernel) rfl) (bg 94 (by decide +kernel) rfl) rfl ⟨by decide +kernel, by decide +kernel, by decide +kernel⟩ (cg_row _ 74 6 6 0 _ _ (by decide) (by decide) (by decide) rfl rfl rfl) rfl rfl ⟨by rw [hR]; exact Nat.le_of_ble_eq_true rfl, by rw [hR]; exact Nat.le_of_ble_eq_true rfl, by rw [hR]; exact Nat.le_of_ble_eq_true rfl, by rw [hR]; exact Nat.le_of_ble_eq_true rfl⟩ (Nat.le_of_ble_eq_true rfl) rfl rfl rfl (Nat.le_of_ble_eq_true rfl) dX8_init_54 rfl ?_
  refine g_put hX hi fg_X8_26 (fun _ => ⟨rfl, rfl⟩) (p := 67) rfl (Nat.le_of_ble_eq_true rfl) dX8_init_57 rfl ?_
  refine g_al hX dX8_init_60 rfl rfl rfl ?_
  refine g_al hX dX8_init_61 rfl rfl rfl ?_
  refine g_put hX hi fg_X8_29 (fun _ => ⟨rfl, rfl⟩) (p := 67) rfl (Nat.le_of_ble_eq_true rfl) dX8_init_62 rfl ?_
  refine g_al hX dX8_init_65 rfl rfl rfl ?_
  refine g_al hX dX8_init_66 rfl rfl rfl ?_
  refine g_put hX hi fg_X8_33 (fun _ => ⟨rfl, rfl⟩) (p := 67) rfl (Nat.le_of_ble_eq_true rfl) dX8_init_67 rfl ?_
  refine g_al hX dX8_init_70 rfl rfl rfl ?_
  refine g_new (q9 := 76) rfl hX nw_X8_37 rfl rfl rfl (Nat.le_of_ble_eq_true rfl) ⟨by rw [hR]; exact Nat.le_of_ble_eq_true rfl, by rw [hR]; exact Nat.le_of_ble_eq_true rfl⟩ dX8_init_71 rfl ?_
  refine g_dup hX dX8_init_74 rfl rfl ?_
  refine g_al hX dX8_init_75 rfl rfl rfl ?_
  refine g_callI hX (bg 339 (by decide +kernel) rfl) (bg 340 (by decide +kernel) rfl) (bg 59 (by decide +kernel) rfl) (bg 341 (by decide +kernel) rfl) rfl ⟨by decide +kernel, by decide +kernel, by decide +kernel⟩ (cg_X1_init_0 _) rfl rfl ⟨by rw [hR]; exact Nat.le_of_ble_eq_true rfl, by rw [hR]; exact Nat.le_of_ble_eq_true rfl, by rw [hR]; exact Nat.le_of_ble_eq_true rfl, by rw [hR]; exact Nat.le_of_ble_eq_true rfl⟩ (Nat.le_of_ble_eq_true rfl) rfl rfl rfl (Nat.le_of_ble_eq_true rfl) dX8_init_76 rfl ?_
  refine g_put hX hi fg_X8_42 (fun _ => ⟨rfl, rfl⟩) (p := 67) rfl (Nat.le_of_ble_eq_true rfl) dX8_init_79 rfl ?_
  exact g_ret hX hQ hr rfl dX8_init_82

set_option maxRecDepth 100000 in
set_option maxHeartbeats 4000000 in
theorem cg_X1_init_1 (l : Launch) : CG l yX1_init cX1_init 2 2 45 4 14 [.ref 84, .ref 1]
  [.inl (11, [.ref 1, .ref 66, .ref 67, .null, .null]), .inl (10, [.ref 2, .ref 17, .ref 32, .ref 47, .ref 56, .ref 58, .ref 60, .ref 62, .ref 64, .int 0, .int 0]), .inl (9, [.ref 3, .ref 5, .ref 7, .ref 9, .ref 11, .ref 13, .ref 15, .int 0, .int 0, .int 0, .int 0]), .inl (7, [.ref 4]), .inr (0, 24, fillF (fun _ => 0) (-1) 24), .inl (7, [.ref 6]), .inr (0, 24, fillF (fun _ => 0) (-1) 24), .inl (7, [.ref 8]), .inr (0, 24, fillF (fun _ => 0) (-1) 24), .inl (7, [.ref 10]), .inr (0, 24, fillF (fun _ => 0) 7 24), .inl (7, [.ref 12]), .inr (0, 72, fillF (fun _ => 0) 0 72), .inl (7, [.ref 14]), .inr (0, 24, fillF (fun _ => 0) (-1) 24), .inl (7, [.ref 16]), .inr (0, 6, fillF (fun _ => 0) 0 6), .inl (6, [.ref 18, .ref 20, .ref 22, .ref 24, .ref 26, .ref 28, .ref 30, .int 0]), .inl (7, [.ref 19]), .inr (0, 30, fillF (fun _ => 0) 3 30), .inl (7, [.ref 21]), .inr (0, 30, fillF (fun _ => 0) 0 30), .inl (7, [.ref 23]), .inr (0, 30, fillF (fun _ => 0) 0 30), .inl (7, [.ref 25]), .inr (0, 30, fillF (fun _ => 0) (-1) 30), .inl (7, [.ref 27]), .inr (0, 30, fillF (fun _ => 0) (-1) 30), .inl (7, [.ref 29]), .inr (0, 30, fillF (fun _ => 0) (-1) 30), .inl (7, [.ref 31]), .inr (0, 30, fillF (fun _ => 0) 0 30), .inl (4, [.ref 33, .ref 35, .ref 37, .ref 39, .ref 41, .ref 43, .ref 45]), .inl (7, [.ref 34]), .inr (0, 120, fillF (fun _ => 0) (-1) 120), .inl (7, [.ref 36]), .inr (0, 120, fillF (fun _ => 0) (-1) 120), .inl (7, [.ref 38]), .inr (0, 120, fillF (fun _ => 0) 0 120), .inl (7, [.ref 40]), .inr (0, 120, fillF (fun _ => 0) (-1) 120), .inl (7, [.ref 42]), .inr (0, 120, fillF (fun _ => 0) 0 120), .inl (7, [.ref 44]), .inr (0, 120, fillF (fun _ => 0) 0 120), .inl (7, [.ref 46]), .inr (0, 24, fillF (fun _ => 0) 0 24), .inl (2, [.ref 48, .ref 50, .ref 52, .ref 54, .int 0]), .inl (7, [.ref 49]), .inr (0, 6, fillF (fun _ => 0) (-1) 6), .inl (7, [.ref 51]), .inr (0, 6, fillF (fun _ => 0) (-1) 6), .inl (7, [.ref 53]), .inr (0, 6, fillF (fun _ => 0) (-1) 6), .inl (7, [.ref 55]), .inr (0, 6, fillF (fun _ => 0) 0 6), .inl (7, [.ref 57]), .inr (0, 6, fillF (fun _ => 0) (-1) 6), .inl (7, [.ref 59]), .inr (0, 8, fillF (fun _ => 0) (-1) 8), .inl (7, [.ref 61]), .inr (0, 8, fillF (fun _ => 0) (-1) 8), .inl (7, [.ref 63]), .inr (0, 6, fillF (fun _ => 0) (-1) 6), .inl (7, [.ref 65]), .inr (0, 6, upd (upd (upd (upd (upd (upd (fillF (fun _ => 0) (-1) 6) 0 0) 1 1) 2 2) 3 3) 4 4) 5 5), .inl (5, [.ref 1, .int 0, .int 0]), .inl (8, [.ref 1, .ref 66, .ref 76, .ref 68, .ref 70, .ref 72, .ref 74, .int 0, .int 0, .int 0]), .inl (7, [.ref 69]), .inr (0, 6, fillF (fun _ => 0) (-1) 6), .inl (7, [.ref 71]), .inr (0, 30, fillF (fun _ => 0) (-1) 30), .inl (7, [.ref 73]), .inr (0, 6, fillF (fun _ => 0) 0 6), .inl (7, [.ref 75]), .inr (0, 6, fillF (fun _ => 0) 0 6), .inl (1, [.ref 1, .ref 77, .ref 79]), .inl (7, [.ref 78]), .inr (0, 6, fillF (fun _ => 0) (-1) 6), .inl (7, [.ref 80]), .inr (0, 6, fillF (fun _ => 0) 0 6), .inl (0, [.ref 1, .ref 66, .null, .ref 82]), .inl (7, [.ref 83]), .inr (0, 6, fillF (fun _ => 0) (-1) 6), .inl (1, [.null, .null, .null])]
  [.inl (11, [.ref 1, .ref 66, .ref 67, .null, .null]), .inl (10, [.ref 2, .ref 17, .ref 32, .ref 47, .ref 56, .ref 58, .ref 60, .ref 62, .ref 64, .int 0, .int 0]), .inl (9, [.ref 3, .ref 5, .ref 7, .ref 9, .ref 11, .ref 13, .ref 15, .int 0, .int 0, .int 0, .int 0]), .inl (7, [.ref 4]), .inr (0, 24, fillF (fun _ => 0) (-1) 24), .inl (7, [.ref 6]), .inr (0, 24, fillF (fun _ => 0) (-1) 24), .inl (7, [.ref 8]), .inr (0, 24, fillF (fun _ => 0) (-1) 24), .inl (7, [.ref 10]), .inr (0, 24, fillF (fun _ => 0) 7 24), .inl (7, [.ref 12]), .inr (0, 72, fillF (fun _ => 0) 0 72), .inl (7, [.ref 14]), .inr (0, 24, fillF (fun _ => 0) (-1) 24), .inl (7, [.ref 16]), .inr (0, 6, fillF (fun _ => 0) 0 6), .inl (6, [.ref 18, .ref 20, .ref 22, .ref 24, .ref 26, .ref 28, .ref 30, .int 0]), .inl (7, [.ref 19]), .inr (0, 30, fillF (fun _ => 0) 3 30), .inl (7, [.ref 21]), .inr (0, 30, fillF (fun _ => 0) 0 30), .inl (7, [.ref 23]), .inr (0, 30, fillF (fun _ => 0) 0 30), .inl (7, [.ref 25]), .inr (0, 30, fillF (fun _ => 0) (-1) 30), .inl (7, [.ref 27]), .inr (0, 30, fillF (fun _ => 0) (-1) 30), .inl (7, [.ref 29]), .inr (0, 30, fillF (fun _ => 0) (-1) 30), .inl (7, [.ref 31]), .inr (0, 30, fillF (fun _ => 0) 0 30), .inl (4, [.ref 33, .ref 35, .ref 37, .ref 39, .ref 41, .ref 43, .ref 45]), .inl (7, [.ref 34]), .inr (0, 120, fillF (fun _ => 0) (-1) 120), .inl (7, [.ref 36]), .inr (0, 120, fillF (fun _ => 0) (-1) 120), .inl (7, [.ref 38]), .inr (0, 120, fillF (fun _ => 0) 0 120), .inl (7, [.ref 40]), .inr (0, 120, fillF (fun _ => 0) (-1) 120), .inl (7, [.ref 42]), .inr (0, 120, fillF (fun _ => 0) 0 120), .inl (7, [.ref 44]), .inr (0, 120, fillF (fun _ => 0) 0 120), .inl (7, [.ref 46]), .inr (0, 24, fillF (fun _ => 0) 0 24), .inl (2, [.ref 48, .ref 50, .ref 52, .ref 54, .int 0]), .inl (7, [.ref 49]), .inr (0, 6, fillF (fun _ => 0) (-1) 6), .inl (7, [.ref 51]), .inr (0, 6, fillF (fun _ => 0) (-1) 6), .inl (7, [.ref 53]), .inr (0, 6, fillF (fun _ => 0) (-1) 6), .inl (7, [.ref 55]), .inr (0, 6, fillF (fun _ => 0) 0 6), .inl (7, [.ref 57]), .inr (0, 6, fillF (fun _ => 0) (-1) 6), .inl (7, [.ref 59]), .inr (0, 8, fillF (fun _ => 0) (-1) 8), .inl (7, [.ref 61]), .inr (0, 8, fillF (fun _ => 0) (-1) 8), .inl (7, [.ref 63]), .inr (0, 6, fillF (fun _ => 0) (-1) 6), .inl (7, [.ref 65]), .inr (0, 6, upd (upd (upd (upd (upd (upd (fillF (fun _ => 0) (-1) 6) 0 0) 1 1) 2 2) 3 3) 4 4) 5 5), .inl (5, [.ref 1, .int 0, .int 0]), .inl (8, [.ref 1, .ref 66, .ref 76, .ref 68, .ref 70, .ref 72, .ref 74, .int 0, .int 0, .int 0]), .inl (7, [.ref 69]), .inr (0, 6, fillF (fun _ => 0) (-1) 6), .inl (7, [.ref 71]), .inr (0, 30, fillF (fun _ => 0) (-1) 30), .inl (7, [.ref 73]), .inr (0, 6, fillF (fun _ => 0) 0 6), .inl (7, [.ref 75]), .inr (0, 6, fillF (fun _ => 0) 0 6), .inl (1, [.ref 1, .ref 77, .ref 79]), .inl (7, [.ref 78]), .inr (0, 6, fillF (fun _ => 0) (-1) 6), .inl (7, [.ref 80]), .inr (0, 6, fillF (fun _ => 0) 0 6), .inl (0, [.ref 1, .ref 66, .null, .ref 82]), .inl (7, [.ref 83]), .inr (0, 6, fillF (fun _ => 0) (-1) 6), .inl (1, [.ref 1, .ref 85, .ref 87]), .inl (7, [.ref 86]), .inr (0, 6, fillF (fun _ => 0) (-1) 6), .inl (7, [.ref 88]), .inr (0, 6, fillF (fun _ => 0) 0 6)] := by
  refine cg_of (by decide) (by simp [Value.category]) (by simp) (fun X ρ0 hl hX0 hG hnm hR hQ hr => ?_)
  have hX : CGX X cX1_init 2 RX1 := ⟨hX0, hG⟩
  have hi := hnm rfl
  refine g_al hX dX1_init_0 rfl rfl rfl ?_
  refine g_obj hX ob_X1_3 rfl (by rw [hR]; exact Nat.le_of_ble_eq_true rfl) (by rw [hR]; exact Nat.le_of_ble_eq_true rfl) dX1_init_1 rfl ?_
  refine g_al hX dX1_init_4 rfl rfl rfl ?_
  refine g_new (q9 := 85) rfl hX nw_X1_9 rfl rfl rfl (Nat.le_of_ble_eq_true rfl) ⟨by rw [hR]; exact Nat.le_of_ble_eq_true rfl, by rw [hR]; exact Nat.le_of_ble_eq_true rfl⟩ dX1_init_5 rfl ?_
  refine g_dup hX dX1_init_8 rfl rfl ?_
  refine g_bi 6 hX dX1_init_9 (by decide) rfl ?_
  refine g_ic (-1) hX dX1_init_11 (by decide) rfl ?_
  refine g_callI hX (bg 344 (by decide +kernel) rfl) (bg 93 (by decide +kernel) rfl) (bg 52 (by decide +kernel) rfl) (bg 94 (by decide +kernel) rfl) rfl ⟨by decide +kernel, by decide +kernel, by decide +kernel⟩ (cg_row _ 85 6 6 (-1) _ _ (by decide) (by decide) (by decide) rfl rfl rfl) rfl rfl ⟨by rw [hR]; exact Nat.le_of_ble_eq_true rfl, by rw [hR]; exact Nat.le_of_ble_eq_true rfl, by rw [hR]; exact Nat.le_of_ble_eq_true rfl, by rw [hR]; exact Nat.le_of_ble_eq_true rfl⟩ (Nat.le_of_ble_eq_true rfl) rfl rfl rfl (Nat.le_of_ble_eq_true rfl) dX1_init_12 rfl ?_
  refine g_put hX hi fg_X1_14 (fun _ => ⟨rfl, rfl⟩) (p := 84) rfl (Nat.le_of_ble_eq_true rfl) dX1_init_15 rfl ?_
  refine g_al hX dX1_init_18 rfl rfl rfl ?_
  refine g_new (q9 := 87) rfl hX nw_X1_9 rfl rfl rfl (Nat.le_of_ble_eq_true rfl) ⟨by rw [hR]; exact Nat.le_of_ble_eq_true rfl, by rw [hR]; exact Nat.le_of_ble_eq_true rfl⟩ dX1_init_19 rfl ?_
  refine g_dup hX dX1_init_22 rfl rfl ?_
  refine g_bi 6 hX dX1_init_23 (by decide) rfl ?_
  refine g_ic 0 hX dX1_init_25 (by decide) rfl ?_
  refine g_callI hX (bg 344 (by decide +kernel) rfl) (bg 93 (by decide +kernel) rfl) (bg 52 (by decide +kernel) rfl) (bg 94 (by decide +kernel) rfl) rfl ⟨by decide +kernel, by decide +kernel, by decide +kernel⟩ (cg_row _ 87 6 6 0 _ _ (by decide) (by decide) (by decide) rfl rfl rfl) rfl rfl ⟨by rw [hR]; exact Nat.le_of_ble_eq_true rfl, by rw [hR]; exact Nat.le_of_ble_eq_true rfl, by rw [hR]; exact Nat.le_of_ble_eq_true rfl, by rw [hR]; exact Nat.le_of_ble_eq_true rfl⟩ (Nat.le_of_ble_eq_true rfl) rfl rfl rfl (Nat.le_of_ble_eq_true rfl) dX1_init_26 rfl ?_
  refine g_put hX hi fg_X1_20 (fun _ => ⟨rfl, rfl⟩) (p := 84) rfl (Nat.le_of_ble_eq_true rfl) dX1_init_29 rfl ?_
  refine g_al hX dX1_init_32 rfl rfl rfl ?_
  refine g_al hX dX1_init_33 rfl rfl rfl ?_
  refine g_put hX hi fg_X1_23 (fun _ => ⟨rfl, rfl⟩) (p := 84) rfl (Nat.le_of_ble_eq_true rfl) dX1_init_34 rfl ?_
  exact g_ret hX hQ hr rfl dX1_init_37

set_option maxRecDepth 100000 in
set_option maxHeartbeats 4000000 in
theorem cg_X0_init_0 (l : Launch) : CG l yX0_init cX0_init 3 3 66 7 24 [.ref 81, .ref 1, .ref 66]
  [.inl (11, [.ref 1, .ref 66, .ref 67, .null, .null]), .inl (10, [.ref 2, .ref 17, .ref 32, .ref 47, .ref 56, .ref 58, .ref 60, .ref 62, .ref 64, .int 0, .int 0]), .inl (9, [.ref 3, .ref 5, .ref 7, .ref 9, .ref 11, .ref 13, .ref 15, .int 0, .int 0, .int 0, .int 0]), .inl (7, [.ref 4]), .inr (0, 24, fillF (fun _ => 0) (-1) 24), .inl (7, [.ref 6]), .inr (0, 24, fillF (fun _ => 0) (-1) 24), .inl (7, [.ref 8]), .inr (0, 24, fillF (fun _ => 0) (-1) 24), .inl (7, [.ref 10]), .inr (0, 24, fillF (fun _ => 0) 7 24), .inl (7, [.ref 12]), .inr (0, 72, fillF (fun _ => 0) 0 72), .inl (7, [.ref 14]), .inr (0, 24, fillF (fun _ => 0) (-1) 24), .inl (7, [.ref 16]), .inr (0, 6, fillF (fun _ => 0) 0 6), .inl (6, [.ref 18, .ref 20, .ref 22, .ref 24, .ref 26, .ref 28, .ref 30, .int 0]), .inl (7, [.ref 19]), .inr (0, 30, fillF (fun _ => 0) 3 30), .inl (7, [.ref 21]), .inr (0, 30, fillF (fun _ => 0) 0 30), .inl (7, [.ref 23]), .inr (0, 30, fillF (fun _ => 0) 0 30), .inl (7, [.ref 25]), .inr (0, 30, fillF (fun _ => 0) (-1) 30), .inl (7, [.ref 27]), .inr (0, 30, fillF (fun _ => 0) (-1) 30), .inl (7, [.ref 29]), .inr (0, 30, fillF (fun _ => 0) (-1) 30), .inl (7, [.ref 31]), .inr (0, 30, fillF (fun _ => 0) 0 30), .inl (4, [.ref 33, .ref 35, .ref 37, .ref 39, .ref 41, .ref 43, .ref 45]), .inl (7, [.ref 34]), .inr (0, 120, fillF (fun _ => 0) (-1) 120), .inl (7, [.ref 36]), .inr (0, 120, fillF (fun _ => 0) (-1) 120), .inl (7, [.ref 38]), .inr (0, 120, fillF (fun _ => 0) 0 120), .inl (7, [.ref 40]), .inr (0, 120, fillF (fun _ => 0) (-1) 120), .inl (7, [.ref 42]), .inr (0, 120, fillF (fun _ => 0) 0 120), .inl (7, [.ref 44]), .inr (0, 120, fillF (fun _ => 0) 0 120), .inl (7, [.ref 46]), .inr (0, 24, fillF (fun _ => 0) 0 24), .inl (2, [.ref 48, .ref 50, .ref 52, .ref 54, .int 0]), .inl (7, [.ref 49]), .inr (0, 6, fillF (fun _ => 0) (-1) 6), .inl (7, [.ref 51]), .inr (0, 6, fillF (fun _ => 0) (-1) 6), .inl (7, [.ref 53]), .inr (0, 6, fillF (fun _ => 0) (-1) 6), .inl (7, [.ref 55]), .inr (0, 6, fillF (fun _ => 0) 0 6), .inl (7, [.ref 57]), .inr (0, 6, fillF (fun _ => 0) (-1) 6), .inl (7, [.ref 59]), .inr (0, 8, fillF (fun _ => 0) (-1) 8), .inl (7, [.ref 61]), .inr (0, 8, fillF (fun _ => 0) (-1) 8), .inl (7, [.ref 63]), .inr (0, 6, fillF (fun _ => 0) (-1) 6), .inl (7, [.ref 65]), .inr (0, 6, upd (upd (upd (upd (upd (upd (fillF (fun _ => 0) (-1) 6) 0 0) 1 1) 2 2) 3 3) 4 4) 5 5), .inl (5, [.ref 1, .int 0, .int 0]), .inl (8, [.ref 1, .ref 66, .ref 76, .ref 68, .ref 70, .ref 72, .ref 74, .int 0, .int 0, .int 0]), .inl (7, [.ref 69]), .inr (0, 6, fillF (fun _ => 0) (-1) 6), .inl (7, [.ref 71]), .inr (0, 30, fillF (fun _ => 0) (-1) 30), .inl (7, [.ref 73]), .inr (0, 6, fillF (fun _ => 0) 0 6), .inl (7, [.ref 75]), .inr (0, 6, fillF (fun _ => 0) 0 6), .inl (1, [.ref 1, .ref 77, .ref 79]), .inl (7, [.ref 78]), .inr (0, 6, fillF (fun _ => 0) (-1) 6), .inl (7, [.ref 80]), .inr (0, 6, fillF (fun _ => 0) 0 6), .inl (0, [.null, .null, .null, .null])]
  [.inl (11, [.ref 1, .ref 66, .ref 67, .null, .null]), .inl (10, [.ref 2, .ref 17, .ref 32, .ref 47, .ref 56, .ref 58, .ref 60, .ref 62, .ref 64, .int 0, .int 0]), .inl (9, [.ref 3, .ref 5, .ref 7, .ref 9, .ref 11, .ref 13, .ref 15, .int 0, .int 0, .int 0, .int 0]), .inl (7, [.ref 4]), .inr (0, 24, fillF (fun _ => 0) (-1) 24), .inl (7, [.ref 6]), .inr (0, 24, fillF (fun _ => 0) (-1) 24), .inl (7, [.ref 8]), .inr (0, 24, fillF (fun _ => 0) (-1) 24), .inl (7, [.ref 10]), .inr (0, 24, fillF (fun _ => 0) 7 24), .inl (7, [.ref 12]), .inr (0, 72, fillF (fun _ => 0) 0 72), .inl (7, [.ref 14]), .inr (0, 24, fillF (fun _ => 0) (-1) 24), .inl (7, [.ref 16]), .inr (0, 6, fillF (fun _ => 0) 0 6), .inl (6, [.ref 18, .ref 20, .ref 22, .ref 24, .ref 26, .ref 28, .ref 30, .int 0]), .inl (7, [.ref 19]), .inr (0, 30, fillF (fun _ => 0) 3 30), .inl (7, [.ref 21]), .inr (0, 30, fillF (fun _ => 0) 0 30), .inl (7, [.ref 23]), .inr (0, 30, fillF (fun _ => 0) 0 30), .inl (7, [.ref 25]), .inr (0, 30, fillF (fun _ => 0) (-1) 30), .inl (7, [.ref 27]), .inr (0, 30, fillF (fun _ => 0) (-1) 30), .inl (7, [.ref 29]), .inr (0, 30, fillF (fun _ => 0) (-1) 30), .inl (7, [.ref 31]), .inr (0, 30, fillF (fun _ => 0) 0 30), .inl (4, [.ref 33, .ref 35, .ref 37, .ref 39, .ref 41, .ref 43, .ref 45]), .inl (7, [.ref 34]), .inr (0, 120, fillF (fun _ => 0) (-1) 120), .inl (7, [.ref 36]), .inr (0, 120, fillF (fun _ => 0) (-1) 120), .inl (7, [.ref 38]), .inr (0, 120, fillF (fun _ => 0) 0 120), .inl (7, [.ref 40]), .inr (0, 120, fillF (fun _ => 0) (-1) 120), .inl (7, [.ref 42]), .inr (0, 120, fillF (fun _ => 0) 0 120), .inl (7, [.ref 44]), .inr (0, 120, fillF (fun _ => 0) 0 120), .inl (7, [.ref 46]), .inr (0, 24, fillF (fun _ => 0) 0 24), .inl (2, [.ref 48, .ref 50, .ref 52, .ref 54, .int 0]), .inl (7, [.ref 49]), .inr (0, 6, fillF (fun _ => 0) (-1) 6), .inl (7, [.ref 51]), .inr (0, 6, fillF (fun _ => 0) (-1) 6), .inl (7, [.ref 53]), .inr (0, 6, fillF (fun _ => 0) (-1) 6), .inl (7, [.ref 55]), .inr (0, 6, fillF (fun _ => 0) 0 6), .inl (7, [.ref 57]), .inr (0, 6, fillF (fun _ => 0) (-1) 6), .inl (7, [.ref 59]), .inr (0, 8, fillF (fun _ => 0) (-1) 8), .inl (7, [.ref 61]), .inr (0, 8, fillF (fun _ => 0) (-1) 8), .inl (7, [.ref 63]), .inr (0, 6, fillF (fun _ => 0) (-1) 6), .inl (7, [.ref 65]), .inr (0, 6, upd (upd (upd (upd (upd (upd (fillF (fun _ => 0) (-1) 6) 0 0) 1 1) 2 2) 3 3) 4 4) 5 5), .inl (5, [.ref 1, .int 0, .int 0]), .inl (8, [.ref 1, .ref 66, .ref 76, .ref 68, .ref 70, .ref 72, .ref 74, .int 0, .int 0, .int 0]), .inl (7, [.ref 69]), .inr (0, 6, fillF (fun _ => 0) (-1) 6), .inl (7, [.ref 71]), .inr (0, 30, fillF (fun _ => 0) (-1) 30), .inl (7, [.ref 73]), .inr (0, 6, fillF (fun _ => 0) 0 6), .inl (7, [.ref 75]), .inr (0, 6, fillF (fun _ => 0) 0 6), .inl (1, [.ref 1, .ref 77, .ref 79]), .inl (7, [.ref 78]), .inr (0, 6, fillF (fun _ => 0) (-1) 6), .inl (7, [.ref 80]), .inr (0, 6, fillF (fun _ => 0) 0 6), .inl (0, [.ref 1, .ref 66, .ref 84, .ref 82]), .inl (7, [.ref 83]), .inr (0, 6, fillF (fun _ => 0) (-1) 6), .inl (1, [.ref 1, .ref 85, .ref 87]), .inl (7, [.ref 86]), .inr (0, 6, fillF (fun _ => 0) (-1) 6), .inl (7, [.ref 88]), .inr (0, 6, fillF (fun _ => 0) 0 6)] := by
  refine cg_of (by decide) (by simp [Value.category]) (by simp) (fun X ρ0 hl hX0 hG hnm hR hQ hr => ?_)
  have hX : CGX X cX0_init 3 RX0 := ⟨hX0, hG⟩
  have hi := hnm rfl
  refine g_al hX dX0_init_0 rfl rfl rfl ?_
  refine g_obj hX ob_X0_3 rfl (by rw [hR]; exact Nat.le_of_ble_eq_true rfl) (by rw [hR]; exact Nat.le_of_ble_eq_true rfl) dX0_init_1 rfl ?_
  refine g_al hX dX0_init_4 rfl rfl rfl ?_
  refine g_new (q9 := 82) rfl hX nw_X0_9 rfl rfl rfl (Nat.le_of_ble_eq_true rfl) ⟨by rw [hR]; exact Nat.le_of_ble_eq_true rfl, by rw [hR]; exact Nat.le_of_ble_eq_true rfl⟩ dX0_init_5 rfl ?_
  refine g_dup hX dX0_init_8 rfl rfl ?_
  refine g_bi 6 hX dX0_init_9 (by decide) rfl ?_
  refine g_ic (-1) hX dX0_init_11 (by decide) rfl ?_
  refine g_callI hX (bg 397 (by decide +kernel) rfl) (bg 93 (by decide +kernel) rfl) (bg 52 (by decide +kernel) rfl) (bg 94 (by decide +kernel) rfl) rfl ⟨by decide +kernel, by decide +kernel, by decide +kernel⟩ (cg_row _ 82 6 6 (-1) _ _ (by decide) (by decide) (by decide) rfl rfl rfl) rfl rfl ⟨by rw [hR]; exact Nat.le_of_ble_eq_true rfl, by rw [hR]; exact Nat.le_of_ble_eq_true rfl, by rw [hR]; exact Nat.le_of_ble_eq_true rfl, by rw [hR]; exact Nat.le_of_ble_eq_true rfl⟩ (Nat.le_of_ble_eq_true rfl) rfl rfl rfl (Nat.le_of_ble_eq_true rfl) dX0_init_12 rfl ?_
  refine g_put hX hi fg_X0_14 (fun _ => ⟨rfl, rfl⟩) (p := 81) rfl (Nat.le_of_ble_eq_true rfl) dX0_init_15 rfl ?_
  refine g_al hX dX0_init_18 rfl rfl rfl ?_
  refine g_al hX dX0_init_19 rfl rfl rfl ?_
  refine g_put hX hi fg_X0_20 (fun _ => ⟨rfl, rfl⟩) (p := 81) rfl (Nat.le_of_ble_eq_true rfl) dX0_init_20 rfl ?_
  refine g_al hX dX0_init_23 rfl rfl rfl ?_
  refine g_al hX dX0_init_24 rfl rfl rfl ?_
  refine g_put hX hi fg_X0_24 (fun _ => ⟨rfl, rfl⟩) (p := 81) rfl (Nat.le_of_ble_eq_true rfl) dX0_init_25 rfl ?_
  refine g_al hX dX0_init_28 rfl rfl rfl ?_
  refine g_new (q9 := 84) rfl hX nw_X0_28 rfl rfl rfl (Nat.le_of_ble_eq_true rfl) ⟨by rw [hR]; exact Nat.le_of_ble_eq_true rfl, by rw [hR]; exact Nat.le_of_ble_eq_true rfl⟩ dX0_init_29 rfl ?_
  refine g_dup hX dX0_init_32 rfl rfl ?_
  refine g_al hX dX0_init_33 rfl rfl rfl ?_
  refine g_callI hX (bg 399 (by decide +kernel) rfl) (bg 340 (by decide +kernel) rfl) (bg 59 (by decide +kernel) rfl) (bg 341 (by decide +kernel) rfl) rfl ⟨by decide +kernel, by decide +kernel, by decide +kernel⟩ (cg_X1_init_1 _) rfl rfl ⟨by rw [hR]; exact Nat.le_of_ble_eq_true rfl, by rw [hR]; exact Nat.le_of_ble_eq_true rfl, by rw [hR]; exact Nat.le_of_ble_eq_true rfl, by rw [hR]; exact Nat.le_of_ble_eq_true rfl⟩ (Nat.le_of_ble_eq_true rfl) rfl rfl rfl (Nat.le_of_ble_eq_true rfl) dX0_init_34 rfl ?_
  refine g_put hX hi fg_X0_33 (fun _ => ⟨rfl, rfl⟩) (p := 81) rfl (Nat.le_of_ble_eq_true rfl) dX0_init_37 rfl ?_
  exact g_ret hX hQ hr rfl dX0_init_40

set_option maxRecDepth 100000 in
set_option maxHeartbeats 4000000 in
theorem cg_X3_init_0 (l : Launch) : CG l yX3_init cX3_init 1 2 45 4 14 [.ref 89]
  [.inl (11, [.ref 1, .ref 66, .ref 67, .ref 81, .null]), .inl (10, [.ref 2, .ref 17, .ref 32, .ref 47, .ref 56, .ref 58, .ref 60, .ref 62, .ref 64, .int 0, .int 0]), .inl (9, [.ref 3, .ref 5, .ref 7, .ref 9, .ref 11, .ref 13, .ref 15, .int 0, .int 0, .int 0, .int 0]), .inl (7, [.ref 4]), .inr (0, 24, fillF (fun _ => 0) (-1) 24), .inl (7, [.ref 6]), .inr (0, 24, fillF (fun _ => 0) (-1) 24), .inl (7, [.ref 8]), .inr (0, 24, fillF (fun _ => 0) (-1) 24), .inl (7, [.ref 10]), .inr (0, 24, fillF (fun _ => 0) 7 24), .inl (7, [.ref 12]), .inr (0, 72, fillF (fun _ => 0) 0 72), .inl (7, [.ref 14]), .inr (0, 24, fillF (fun _ => 0) (-1) 24), .inl (7, [.ref 16]), .inr (0, 6, fillF (fun _ => 0) 0 6), .inl (6, [.ref 18, .ref 20, .ref 22, .ref 24, .ref 26, .ref 28, .ref 30, .int 0]), .inl (7, [.ref 19]), .inr (0, 30, fillF (fun _ => 0) 3 30), .inl (7, [.ref 21]), .inr (0, 30, fillF (fun _ => 0) 0 30), .inl (7, [.ref 23]), .inr (0, 30, fillF (fun _ => 0) 0 30), .inl (7, [.ref 25]), .inr (0, 30, fillF (fun _ => 0) (-1) 30), .inl (7, [.ref 27]), .inr (0, 30, fillF (fun _ => 0) (-1) 30), .inl (7, [.ref 29]), .inr (0, 30, fillF (fun _ => 0) (-1) 30), .inl (7, [.ref 31]), .inr (0, 30, fillF (fun _ => 0) 0 30), .inl (4, [.ref 33, .ref 35, .ref 37, .ref 39, .ref 41, .ref 43, .ref 45]), .inl (7, [.ref 34]), .inr (0, 120, fillF (fun _ => 0) (-1) 120), .inl (7, [.ref 36]), .inr (0, 120, fillF (fun _ => 0) (-1) 120), .inl (7, [.ref 38]), .inr (0, 120, fillF (fun _ => 0) 0 120), .inl (7, [.ref 40]), .inr (0, 120, fillF (fun _ => 0) (-1) 120), .inl (7, [.ref 42]), .inr (0, 120, fillF (fun _ => 0) 0 120), .inl (7, [.ref 44]), .inr (0, 120, fillF (fun _ => 0) 0 120), .inl (7, [.ref 46]), .inr (0, 24, fillF (fun _ => 0) 0 24), .inl (2, [.ref 48, .ref 50, .ref 52, .ref 54, .int 0]), .inl (7, [.ref 49]), .inr (0, 6, fillF (fun _ => 0) (-1) 6), .inl (7, [.ref 51]), .inr (0, 6, fillF (fun _ => 0) (-1) 6), .inl (7, [.ref 53]), .inr (0, 6, fillF (fun _ => 0) (-1) 6), .inl (7, [.ref 55]), .inr (0, 6, fillF (fun _ => 0) 0 6), .inl (7, [.ref 57]), .inr (0, 6, fillF (fun _ => 0) (-1) 6), .inl (7, [.ref 59]), .inr (0, 8, fillF (fun _ => 0) (-1) 8), .inl (7, [.ref 61]), .inr (0, 8, fillF (fun _ => 0) (-1) 8), .inl (7, [.ref 63]), .inr (0, 6, fillF (fun _ => 0) (-1) 6), .inl (7, [.ref 65]), .inr (0, 6, upd (upd (upd (upd (upd (upd (fillF (fun _ => 0) (-1) 6) 0 0) 1 1) 2 2) 3 3) 4 4) 5 5), .inl (5, [.ref 1, .int 0, .int 0]), .inl (8, [.ref 1, .ref 66, .ref 76, .ref 68, .ref 70, .ref 72, .ref 74, .int 0, .int 0, .int 0]), .inl (7, [.ref 69]), .inr (0, 6, fillF (fun _ => 0) (-1) 6), .inl (7, [.ref 71]), .inr (0, 30, fillF (fun _ => 0) (-1) 30), .inl (7, [.ref 73]), .inr (0, 6, fillF (fun _ => 0) 0 6), .inl (7, [.ref 75]), .inr (0, 6, fillF (fun _ => 0) 0 6), .inl (1, [.ref 1, .ref 77, .ref 79]), .inl (7, [.ref 78]), .inr (0, 6, fillF (fun _ => 0) (-1) 6), .inl (7, [.ref 80]), .inr (0, 6, fillF (fun _ => 0) 0 6), .inl (0, [.ref 1, .ref 66, .ref 84, .ref 82]), .inl (7, [.ref 83]), .inr (0, 6, fillF (fun _ => 0) (-1) 6), .inl (1, [.ref 1, .ref 85, .ref 87]), .inl (7, [.ref 86]), .inr (0, 6, fillF (fun _ => 0) (-1) 6), .inl (7, [.ref 88]), .inr (0, 6, fillF (fun _ => 0) 0 6), .inl (3, [.null, .null])]
  [.inl (11, [.ref 1, .ref 66, .ref 67, .ref 81, .null]), .inl (10, [.ref 2, .ref 17, .ref 32, .ref 47, .ref 56, .ref 58, .ref 60, .ref 62, .ref 64, .int 0, .int 0]), .inl (9, [.ref 3, .ref 5, .ref 7, .ref 9, .ref 11, .ref 13, .ref 15, .int 0, .int 0, .int 0, .int 0]), .inl (7, [.ref 4]), .inr (0, 24, fillF (fun _ => 0) (-1) 24), .inl (7, [.ref 6]), .inr (0, 24, fillF (fun _ => 0) (-1) 24), .inl (7, [.ref 8]), .inr (0, 24, fillF (fun _ => 0) (-1) 24), .inl (7, [.ref 10]), .inr (0, 24, fillF (fun _ => 0) 7 24), .inl (7, [.ref 12]), .inr (0, 72, fillF (fun _ => 0) 0 72), .inl (7, [.ref 14]), .inr (0, 24, fillF (fun _ => 0) (-1) 24), .inl (7, [.ref 16]), .inr (0, 6, fillF (fun _ => 0) 0 6), .inl (6, [.ref 18, .ref 20, .ref 22, .ref 24, .ref 26, .ref 28, .ref 30, .int 0]), .inl (7, [.ref 19]), .inr (0, 30, fillF (fun _ => 0) 3 30), .inl (7, [.ref 21]), .inr (0, 30, fillF (fun _ => 0) 0 30), .inl (7, [.ref 23]), .inr (0, 30, fillF (fun _ => 0) 0 30), .inl (7, [.ref 25]), .inr (0, 30, fillF (fun _ => 0) (-1) 30), .inl (7, [.ref 27]), .inr (0, 30, fillF (fun _ => 0) (-1) 30), .inl (7, [.ref 29]), .inr (0, 30, fillF (fun _ => 0) (-1) 30), .inl (7, [.ref 31]), .inr (0, 30, fillF (fun _ => 0) 0 30), .inl (4, [.ref 33, .ref 35, .ref 37, .ref 39, .ref 41, .ref 43, .ref 45]), .inl (7, [.ref 34]), .inr (0, 120, fillF (fun _ => 0) (-1) 120), .inl (7, [.ref 36]), .inr (0, 120, fillF (fun _ => 0) (-1) 120), .inl (7, [.ref 38]), .inr (0, 120, fillF (fun _ => 0) 0 120), .inl (7, [.ref 40]), .inr (0, 120, fillF (fun _ => 0) (-1) 120), .inl (7, [.ref 42]), .inr (0, 120, fillF (fun _ => 0) 0 120), .inl (7, [.ref 44]), .inr (0, 120, fillF (fun _ => 0) 0 120), .inl (7, [.ref 46]), .inr (0, 24, fillF (fun _ => 0) 0 24), .inl (2, [.ref 48, .ref 50, .ref 52, .ref 54, .int 0]), .inl (7, [.ref 49]), .inr (0, 6, fillF (fun _ => 0) (-1) 6), .inl (7, [.ref 51]), .inr (0, 6, fillF (fun _ => 0) (-1) 6), .inl (7, [.ref 53]), .inr (0, 6, fillF (fun _ => 0) (-1) 6), .inl (7, [.ref 55]), .inr (0, 6, fillF (fun _ => 0) 0 6), .inl (7, [.ref 57]), .inr (0, 6, fillF (fun _ => 0) (-1) 6), .inl (7, [.ref 59]), .inr (0, 8, fillF (fun _ => 0) (-1) 8), .inl (7, [.ref 61]), .inr (0, 8, fillF (fun _ => 0) (-1) 8), .inl (7, [.ref 63]), .inr (0, 6, fillF (fun _ => 0) (-1) 6), .inl (7, [.ref 65]), .inr (0, 6, upd (upd (upd (upd (upd (upd (fillF (fun _ => 0) (-1) 6) 0 0) 1 1) 2 2) 3 3) 4 4) 5 5), .inl (5, [.ref 1, .int 0, .int 0]), .inl (8, [.ref 1, .ref 66, .ref 76, .ref 68, .ref 70, .ref 72, .ref 74, .int 0, .int 0, .int 0]), .inl (7, [.ref 69]), .inr (0, 6, fillF (fun _ => 0) (-1) 6), .inl (7, [.ref 71]), .inr (0, 30, fillF (fun _ => 0) (-1) 30), .inl (7, [.ref 73]), .inr (0, 6, fillF (fun _ => 0) 0 6), .inl (7, [.ref 75]), .inr (0, 6, fillF (fun _ => 0) 0 6), .inl (1, [.ref 1, .ref 77, .ref 79]), .inl (7, [.ref 78]), .inr (0, 6, fillF (fun _ => 0) (-1) 6), .inl (7, [.ref 80]), .inr (0, 6, fillF (fun _ => 0) 0 6), .inl (0, [.ref 1, .ref 66, .ref 84, .ref 82]), .inl (7, [.ref 83]), .inr (0, 6, fillF (fun _ => 0) (-1) 6), .inl (1, [.ref 1, .ref 85, .ref 87]), .inl (7, [.ref 86]), .inr (0, 6, fillF (fun _ => 0) (-1) 6), .inl (7, [.ref 88]), .inr (0, 6, fillF (fun _ => 0) 0 6), .inl (3, [.ref 90, .ref 92]), .inl (7, [.ref 91]), .inr (0, 6, fillF (fun _ => 0) (-1) 6), .inl (7, [.ref 93]), .inr (0, 6, fillF (fun _ => 0) (-1) 6)] := by
  refine cg_of (by decide) (by simp [Value.category]) (by simp) (fun X ρ0 hl hX0 hG hnm hR hQ hr => ?_)
  have hX : CGX X cX3_init 1 RX3 := ⟨hX0, hG⟩
  have hi := hnm rfl
  refine g_al hX dX3_init_0 rfl rfl rfl ?_
  refine g_obj hX ob_X3_3 rfl (by rw [hR]; exact Nat.le_of_ble_eq_true rfl) (by rw [hR]; exact Nat.le_of_ble_eq_true rfl) dX3_init_1 rfl ?_
  refine g_al hX dX3_init_4 rfl rfl rfl ?_
  refine g_new (q9 := 90) rfl hX nw_X3_9 rfl rfl rfl (Nat.le_of_ble_eq_true rfl) ⟨by rw [hR]; exact Nat.le_of_ble_eq_true rfl, by rw [hR]; exact Nat.le_of_ble_eq_true rfl⟩ dX3_init_5 rfl ?_
  refine g_dup hX dX3_init_8 rfl rfl ?_
  refine g_bi 6 hX dX3_init_9 (by decide) rfl ?_
  refine g_ic (-1) hX dX3_init_11 (by decide) rfl ?_
  refine g_callI hX (bg 421 (by decide +kernel) rfl) (bg 93 (by decide +kernel) rfl) (bg 52 (by decide +kernel) rfl) (bg 94 (by decide +kernel) rfl) rfl ⟨by decide +kernel, by decide +kernel, by decide +kernel⟩ (cg_row _ 90 6 6 (-1) _ _ (by decide) (by decide) (by decide) rfl rfl rfl) rfl rfl ⟨by rw [hR]; exact Nat.le_of_ble_eq_true rfl, by rw [hR]; exact Nat.le_of_ble_eq_true rfl, by rw [hR]; exact Nat.le_of_ble_eq_true rfl, by rw [hR]; exact Nat.le_of_ble_eq_true rfl⟩ (Nat.le_of_ble_eq_true rfl) rfl rfl rfl (Nat.le_of_ble_eq_true rfl) dX3_init_12 rfl ?_
  refine g_put hX hi fg_X3_14 (fun _ => ⟨rfl, rfl⟩) (p := 89) rfl (Nat.le_of_ble_eq_true rfl) dX3_init_15 rfl ?_
  refine g_al hX dX3_init_18 rfl rfl rfl ?_
  refine g_new (q9 := 92) rfl hX nw_X3_9 rfl rfl rfl (Nat.le_of_ble_eq_true rfl) ⟨by rw [hR]; exact Nat.le_of_ble_eq_true rfl, by rw [hR]; exact Nat.le_of_ble_eq_true rfl⟩ dX3_init_19 rfl ?_
  refine g_dup hX dX3_init_22 rfl rfl ?_
  refine g_bi 6 hX dX3_init_23 (by decide) rfl ?_
  refine g_ic (-1) hX dX3_init_25 (by decide) rfl ?_
  refine g_callI hX (bg 421 (by decide +kernel) rfl) (bg 93 (by decide +kernel) rfl) (bg 52 (by decide +kernel) rfl) (bg 94 (by decide +kernel) rfl) rfl ⟨by decide +kernel, by decide +kernel, by decide +kernel⟩ (cg_row _ 92 6 6 (-1) _ _ (by decide) (by decide) (by decide) rfl rfl rfl) rfl rfl ⟨by rw [hR]; exact Nat.le_of_ble_eq_true rfl, by rw [hR]; exact Nat.le_of_ble_eq_true rfl, by rw [hR]; exact Nat.le_of_ble_eq_true rfl, by rw [hR]; exact Nat.le_of_ble_eq_true rfl⟩ (Nat.le_of_ble_eq_true rfl) rfl rfl rfl (Nat.le_of_ble_eq_true rfl) dX3_init_26 rfl ?_
  refine g_put hX hi fg_X3_20 (fun _ => ⟨rfl, rfl⟩) (p := 89) rfl (Nat.le_of_ble_eq_true rfl) dX3_init_29 rfl ?_
  exact g_ret hX hQ hr rfl dX3_init_32

set_option maxRecDepth 100000 in
set_option maxHeartbeats 4000000 in
theorem cg_X11_init_0 (l : Launch) : CG l yX11_init cX11_init 3 4 88 93 1408 [.ref 0]
  [.inl (11, [.null, .null, .null, .null, .null])]
  [.inl (11, [.ref 1, .ref 66, .ref 67, .ref 81, .ref 89]), .inl (10, [.ref 2, .ref 17, .ref 32, .ref 47, .ref 56, .ref 58, .ref 60, .ref 62, .ref 64, .int 0, .int 0]), .inl (9, [.ref 3, .ref 5, .ref 7, .ref 9, .ref 11, .ref 13, .ref 15, .int 0, .int 0, .int 0, .int 0]), .inl (7, [.ref 4]), .inr (0, 24, fillF (fun _ => 0) (-1) 24), .inl (7, [.ref 6]), .inr (0, 24, fillF (fun _ => 0) (-1) 24), .inl (7, [.ref 8]), .inr (0, 24, fillF (fun _ => 0) (-1) 24), .inl (7, [.ref 10]), .inr (0, 24, fillF (fun _ => 0) 7 24), .inl (7, [.ref 12]), .inr (0, 72, fillF (fun _ => 0) 0 72), .inl (7, [.ref 14]), .inr (0, 24, fillF (fun _ => 0) (-1) 24), .inl (7, [.ref 16]), .inr (0, 6, fillF (fun _ => 0) 0 6), .inl (6, [.ref 18, .ref 20, .ref 22, .ref 24, .ref 26, .ref 28, .ref 30, .int 0]), .inl (7, [.ref 19]), .inr (0, 30, fillF (fun _ => 0) 3 30), .inl (7, [.ref 21]), .inr (0, 30, fillF (fun _ => 0) 0 30), .inl (7, [.ref 23]), .inr (0, 30, fillF (fun _ => 0) 0 30), .inl (7, [.ref 25]), .inr (0, 30, fillF (fun _ => 0) (-1) 30), .inl (7, [.ref 27]), .inr (0, 30, fillF (fun _ => 0) (-1) 30), .inl (7, [.ref 29]), .inr (0, 30, fillF (fun _ => 0) (-1) 30), .inl (7, [.ref 31]), .inr (0, 30, fillF (fun _ => 0) 0 30), .inl (4, [.ref 33, .ref 35, .ref 37, .ref 39, .ref 41, .ref 43, .ref 45]), .inl (7, [.ref 34]), .inr (0, 120, fillF (fun _ => 0) (-1) 120), .inl (7, [.ref 36]), .inr (0, 120, fillF (fun _ => 0) (-1) 120), .inl (7, [.ref 38]), .inr (0, 120, fillF (fun _ => 0) 0 120), .inl (7, [.ref 40]), .inr (0, 120, fillF (fun _ => 0) (-1) 120), .inl (7, [.ref 42]), .inr (0, 120, fillF (fun _ => 0) 0 120), .inl (7, [.ref 44]), .inr (0, 120, fillF (fun _ => 0) 0 120), .inl (7, [.ref 46]), .inr (0, 24, fillF (fun _ => 0) 0 24), .inl (2, [.ref 48, .ref 50, .ref 52, .ref 54, .int 0]), .inl (7, [.ref 49]), .inr (0, 6, fillF (fun _ => 0) (-1) 6), .inl (7, [.ref 51]), .inr (0, 6, fillF (fun _ => 0) (-1) 6), .inl (7, [.ref 53]), .inr (0, 6, fillF (fun _ => 0) (-1) 6), .inl (7, [.ref 55]), .inr (0, 6, fillF (fun _ => 0) 0 6), .inl (7, [.ref 57]), .inr (0, 6, fillF (fun _ => 0) (-1) 6), .inl (7, [.ref 59]), .inr (0, 8, fillF (fun _ => 0) (-1) 8), .inl (7, [.ref 61]), .inr (0, 8, fillF (fun _ => 0) (-1) 8), .inl (7, [.ref 63]), .inr (0, 6, fillF (fun _ => 0) (-1) 6), .inl (7, [.ref 65]), .inr (0, 6, upd (upd (upd (upd (upd (upd (fillF (fun _ => 0) (-1) 6) 0 0) 1 1) 2 2) 3 3) 4 4) 5 5), .inl (5, [.ref 1, .int 0, .int 0]), .inl (8, [.ref 1, .ref 66, .ref 76, .ref 68, .ref 70, .ref 72, .ref 74, .int 0, .int 0, .int 0]), .inl (7, [.ref 69]), .inr (0, 6, fillF (fun _ => 0) (-1) 6), .inl (7, [.ref 71]), .inr (0, 30, fillF (fun _ => 0) (-1) 30), .inl (7, [.ref 73]), .inr (0, 6, fillF (fun _ => 0) 0 6), .inl (7, [.ref 75]), .inr (0, 6, fillF (fun _ => 0) 0 6), .inl (1, [.ref 1, .ref 77, .ref 79]), .inl (7, [.ref 78]), .inr (0, 6, fillF (fun _ => 0) (-1) 6), .inl (7, [.ref 80]), .inr (0, 6, fillF (fun _ => 0) 0 6), .inl (0, [.ref 1, .ref 66, .ref 84, .ref 82]), .inl (7, [.ref 83]), .inr (0, 6, fillF (fun _ => 0) (-1) 6), .inl (1, [.ref 1, .ref 85, .ref 87]), .inl (7, [.ref 86]), .inr (0, 6, fillF (fun _ => 0) (-1) 6), .inl (7, [.ref 88]), .inr (0, 6, fillF (fun _ => 0) 0 6), .inl (3, [.ref 90, .ref 92]), .inl (7, [.ref 91]), .inr (0, 6, fillF (fun _ => 0) (-1) 6), .inl (7, [.ref 93]), .inr (0, 6, fillF (fun _ => 0) (-1) 6)] := by
  refine cg_of (by decide) (by simp [Value.category]) (by simp) (fun X ρ0 hl hX0 hG hnm hR hQ hr => ?_)
  have hX : CGX X cX11_init 3 RX11 := ⟨hX0, hG⟩
  have hi := hnm rfl
  refine g_al hX dX11_init_0 rfl rfl rfl ?_
  refine g_obj hX ob_X11_3 rfl (by rw [hR]; exact Nat.le_of_ble_eq_true rfl) (by rw [hR]; exact Nat.le_of_ble_eq_true rfl) dX11_init_1 rfl ?_
  refine g_new (q9 := 1) rfl hX nw_X11_9 rfl rfl rfl (Nat.le_of_ble_eq_true rfl) ⟨by rw [hR]; exact Nat.le_of_ble_eq_true rfl, by rw [hR]; exact Nat.le_of_ble_eq_true rfl⟩ dX11_init_4 rfl ?_
  refine g_dup hX dX11_init_7 rfl rfl ?_
  refine g_callI hX (bg 80 (by decide +kernel) rfl) (bg 81 (by decide +kernel) rfl) (bg 50 (by decide +kernel) rfl) (bg 82 (by decide +kernel) rfl) rfl ⟨by decide +kernel, by decide +kernel, by decide +kernel⟩ (cg_X10_init_0 _) rfl rfl ⟨by rw [hR]; exact Nat.le_of_ble_eq_true rfl, by rw [hR]; exact Nat.le_of_ble_eq_true rfl, by rw [hR]; exact Nat.le_of_ble_eq_true rfl, by rw [hR]; exact Nat.le_of_ble_eq_true rfl⟩ (Nat.le_of_ble_eq_true rfl) rfl rfl rfl (Nat.le_of_ble_eq_true rfl) dX11_init_8 rfl ?_
  refine g_as hX dX11_init_11 rfl (by simp) rfl ?_
  refine g_new (q9 := 66) rfl hX nw_X11_12 rfl rfl rfl (Nat.le_of_ble_eq_true rfl) ⟨by rw [hR]; exact Nat.le_of_ble_eq_true rfl, by rw [hR]; exact Nat.le_of_ble_eq_true rfl⟩ dX11_init_12 rfl ?_
  refine g_dup hX dX11_init_15 rfl rfl ?_
  refine g_al hX dX11_init_16 rfl rfl rfl ?_
  refine g_callI hX (bg 313 (by decide +kernel) rfl) (bg 314 (by decide +kernel) rfl) (bg 57 (by decide +kernel) rfl) (bg 315 (by decide +kernel) rfl) rfl ⟨by decide +kernel, by decide +kernel, by decide +kernel⟩ (cg_X5_init_0 _) rfl rfl ⟨by rw [hR]; exact Nat.le_of_ble_eq_true rfl, by rw [hR]; exact Nat.le_of_ble_eq_true rfl, by rw [hR]; exact Nat.le_of_ble_eq_true rfl, by rw [hR]; exact Nat.le_of_ble_eq_true rfl⟩ (Nat.le_of_ble_eq_true rfl) rfl rfl rfl (Nat.le_of_ble_eq_true rfl) dX11_init_17 rfl ?_
  refine g_as hX dX11_init_20 rfl (by simp) rfl ?_
  refine g_al hX dX11_init_21 rfl rfl rfl ?_
  refine g_al hX dX11_init_22 rfl rfl rfl ?_
  refine g_put hX hi fg_X11_17 (fun _ => ⟨rfl, rfl⟩) (p := 0) rfl (Nat.le_of_ble_eq_true rfl) dX11_init_23 rfl ?_
  refine g_al hX dX11_init_26 rfl rfl rfl ?_
  refine g_al hX dX11_init_27 rfl rfl rfl ?_
  refine g_put hX hi fg_X11_21 (fun _ => ⟨rfl, rfl⟩) (p := 0) rfl (Nat.le_of_ble_eq_true rfl) dX11_init_28 rfl ?_
  refine g_al hX dX11_init_31 rfl rfl rfl ?_
  refine g_new (q9 := 67) rfl hX nw_X11_25 rfl rfl rfl (Nat.le_of_ble_eq_true rfl) ⟨by rw [hR]; exact Nat.le_of_ble_eq_true rfl, by rw [hR]; exact Nat.le_of_ble_eq_true rfl⟩ dX11_init_32 rfl ?_
  refine g_dup hX dX11_init_35 rfl rfl ?_
  refine g_al hX dX11_init_36 rfl rfl rfl ?_
  refine g_al hX dX11_init_37 rfl rfl rfl ?_
  refine g_callI hX (bg 331 (by decide +kernel) rfl) (bg 332 (by decide +kernel) rfl) (bg 58 (by decide +kernel) rfl) (bg 333 (by decide +kernel) rfl) rfl ⟨by decide +kernel, by decide +kernel, by decide +kernel⟩ (cg_X8_init_0 _) rfl rfl ⟨by rw [hR]; exact Nat.le_of_ble_eq_true rfl, by rw [hR]; exact Nat.le_of_ble_eq_true rfl, by rw [hR]; exact Nat.le_of_ble_eq_true rfl, by rw [hR]; exact Nat.le_of_ble_eq_true rfl⟩ (Nat.le_of_ble_eq_true rfl) rfl rfl rfl (Nat.le_of_ble_eq_true rfl) dX11_init_38 rfl ?_
  refine g_put hX hi fg_X11_30 (fun _ => ⟨rfl, rfl⟩) (p := 0) rfl (Nat.le_of_ble_eq_true rfl) dX11_init_41 rfl ?_
  refine g_al hX dX11_init_44 rfl rfl rfl ?_
  refine g_new (q9 := 81) rfl hX nw_X11_34 rfl rfl rfl (Nat.le_of_ble_eq_true rfl) ⟨by rw [hR]; exact Nat.le_of_ble_eq_true rfl, by rw [hR]; exact Nat.le_of_ble_eq_true rfl⟩ dX11_init_45 rfl ?_
  refine g_dup hX dX11_init_48 rfl rfl ?_
  refine g_al hX dX11_init_49 rfl rfl rfl ?_
  refine g_al hX dX11_init_50 rfl rfl rfl ?_
  refine g_callI hX (bg 392 (by decide +kernel) rfl) (bg 393 (by decide +kernel) rfl) (bg 60 (by decide +kernel) rfl) (bg 394 (by decide +kernel) rfl) rfl ⟨by decide +kernel, by decide +kernel, by decide +kernel⟩ (cg_X0_init_0 _) rfl rfl ⟨by rw [hR]; exact Nat.le_of_ble_eq_true rfl, by rw [hR]; exact Nat.le_of_ble_eq_true rfl, by rw [hR]; exact Nat.le_of_ble_eq_true rfl, by rw [hR]; exact Nat.le_of_ble_eq_true rfl⟩ (Nat.le_of_ble_eq_true rfl) rfl rfl rfl (Nat.le_of_ble_eq_true rfl) dX11_init_51 rfl ?_
  refine g_put hX hi fg_X11_37 (fun _ => ⟨rfl, rfl⟩) (p := 0) rfl (Nat.le_of_ble_eq_true rfl) dX11_init_54 rfl ?_
  refine g_al hX dX11_init_57 rfl rfl rfl ?_
  refine g_new (q9 := 89) rfl hX nw_X11_41 rfl rfl rfl (Nat.le_of_ble_eq_true rfl) ⟨by rw [hR]; exact Nat.le_of_ble_eq_true rfl, by rw [hR]; exact Nat.le_of_ble_eq_true rfl⟩ dX11_init_58 rfl ?_
  refine g_dup hX dX11_init_61 rfl rfl ?_
  refine g_callN hX (by decide +kernel) (bg 417 (by decide +kernel) rfl) (bg 61 (by decide +kernel) rfl) (bg 418 (by decide +kernel) rfl) rfl ⟨by decide +kernel, by decide +kernel, by decide +kernel⟩ (cg_X3_init_0 _) rfl rfl ⟨by rw [hR]; exact Nat.le_of_ble_eq_true rfl, by rw [hR]; exact Nat.le_of_ble_eq_true rfl, by rw [hR]; exact Nat.le_of_ble_eq_true rfl, by rw [hR]; exact Nat.le_of_ble_eq_true rfl⟩ (Nat.le_of_ble_eq_true rfl) rfl rfl rfl (Nat.le_of_ble_eq_true rfl) dX11_init_62 rfl ?_
  refine g_put hX hi fg_X11_44 (fun _ => ⟨rfl, rfl⟩) (p := 0) rfl (Nat.le_of_ble_eq_true rfl) dX11_init_65 rfl ?_
  exact g_ret hX hQ hr rfl dX11_init_68

set_option maxRecDepth 100000 in
set_option maxHeartbeats 4000000 in
theorem cg_X12_init_0 (l : Launch) : CG l yX12_init cX12_init 1 1 12 19 2014 [.ref 94]
  [.inl (11, [.ref 1, .ref 66, .ref 67, .ref 81, .ref 89]), .inl (10, [.ref 2, .ref 17, .ref 32, .ref 47, .ref 56, .ref 58, .ref 60, .ref 62, .ref 64, .int 0, .int 0]), .inl (9, [.ref 3, .ref 5, .ref 7, .ref 9, .ref 11, .ref 13, .ref 15, .int 0, .int 0, .int 0, .int 0]), .inl (7, [.ref 4]), .inr (0, 24, fillF (fun _ => 0) (-1) 24), .inl (7, [.ref 6]), .inr (0, 24, fillF (fun _ => 0) (-1) 24), .inl (7, [.ref 8]), .inr (0, 24, fillF (fun _ => 0) (-1) 24), .inl (7, [.ref 10]), .inr (0, 24, fillF (fun _ => 0) 7 24), .inl (7, [.ref 12]), .inr (0, 72, fillF (fun _ => 0) 0 72), .inl (7, [.ref 14]), .inr (0, 24, fillF (fun _ => 0) (-1) 24), .inl (7, [.ref 16]), .inr (0, 6, fillF (fun _ => 0) 0 6), .inl (6, [.ref 18, .ref 20, .ref 22, .ref 24, .ref 26, .ref 28, .ref 30, .int 0]), .inl (7, [.ref 19]), .inr (0, 30, fillF (fun _ => 0) 3 30), .inl (7, [.ref 21]), .inr (0, 30, fillF (fun _ => 0) 0 30), .inl (7, [.ref 23]), .inr (0, 30, fillF (fun _ => 0) 0 30), .inl (7, [.ref 25]), .inr (0, 30, fillF (fun _ => 0) (-1) 30), .inl (7, [.ref 27]), .inr (0, 30, fillF (fun _ => 0) (-1) 30), .inl (7, [.ref 29]), .inr (0, 30, fillF (fun _ => 0) (-1) 30), .inl (7, [.ref 31]), .inr (0, 30, fillF (fun _ => 0) 0 30), .inl (4, [.ref 33, .ref 35, .ref 37, .ref 39, .ref 41, .ref 43, .ref 45]), .inl (7, [.ref 34]), .inr (0, 120, fillF (fun _ => 0) (-1) 120), .inl (7, [.ref 36]), .inr (0, 120, fillF (fun _ => 0) (-1) 120), .inl (7, [.ref 38]), .inr (0, 120, fillF (fun _ => 0) 0 120), .inl (7, [.ref 40]), .inr (0, 120, fillF (fun _ => 0) (-1) 120), .inl (7, [.ref 42]), .inr (0, 120, fillF (fun _ => 0) 0 120), .inl (7, [.ref 44]), .inr (0, 120, fillF (fun _ => 0) 0 120), .inl (7, [.ref 46]), .inr (0, 24, fillF (fun _ => 0) 0 24), .inl (2, [.ref 48, .ref 50, .ref 52, .ref 54, .int 0]), .inl (7, [.ref 49]), .inr (0, 6, fillF (fun _ => 0) (-1) 6), .inl (7, [.ref 51]), .inr (0, 6, fillF (fun _ => 0) (-1) 6), .inl (7, [.ref 53]), .inr (0, 6, fillF (fun _ => 0) (-1) 6), .inl (7, [.ref 55]), .inr (0, 6, fillF (fun _ => 0) 0 6), .inl (7, [.ref 57]), .inr (0, 6, fillF (fun _ => 0) (-1) 6), .inl (7, [.ref 59]), .inr (0, 8, fillF (fun _ => 0) (-1) 8), .inl (7, [.ref 61]), .inr (0, 8, fillF (fun _ => 0) (-1) 8), .inl (7, [.ref 63]), .inr (0, 6, fillF (fun _ => 0) (-1) 6), .inl (7, [.ref 65]), .inr (0, 6, upd (upd (upd (upd (upd (upd (fillF (fun _ => 0) (-1) 6) 0 0) 1 1) 2 2) 3 3) 4 4) 5 5), .inl (5, [.ref 1, .int 0, .int 0]), .inl (8, [.ref 1, .ref 66, .ref 76, .ref 68, .ref 70, .ref 72, .ref 74, .int 0, .int 0, .int 0]), .inl (7, [.ref 69]), .inr (0, 6, fillF (fun _ => 0) (-1) 6), .inl (7, [.ref 71]), .inr (0, 30, fillF (fun _ => 0) (-1) 30), .inl (7, [.ref 73]), .inr (0, 6, fillF (fun _ => 0) 0 6), .inl (7, [.ref 75]), .inr (0, 6, fillF (fun _ => 0) 0 6), .inl (1, [.ref 1, .ref 77, .ref 79]), .inl (7, [.ref 78]), .inr (0, 6, fillF (fun _ => 0) (-1) 6), .inl (7, [.ref 80]), .inr (0, 6, fillF (fun _ => 0) 0 6), .inl (0, [.ref 1, .ref 66, .ref 84, .ref 82]), .inl (7, [.ref 83]), .inr (0, 6, fillF (fun _ => 0) (-1) 6), .inl (1, [.ref 1, .ref 85, .ref 87]), .inl (7, [.ref 86]), .inr (0, 6, fillF (fun _ => 0) (-1) 6), .inl (7, [.ref 88]), .inr (0, 6, fillF (fun _ => 0) 0 6), .inl (3, [.ref 90, .ref 92]), .inl (7, [.ref 91]), .inr (0, 6, fillF (fun _ => 0) (-1) 6), .inl (7, [.ref 93]), .inr (0, 6, fillF (fun _ => 0) (-1) 6), .inl (12, [.int 0, .int 0, .int 0, .int 0, .int 0, .int 0, .int 0, .int 0, .null, .null, .null, .null, .null, .null, .null, .null, .null, .null, .null, .null, .null, .null, .null, .null, .null, .int 0, .int 0, .null, .null, .int 0, .int 0, .int 0])]
  [.inl (11, [.ref 1, .ref 66, .ref 67, .ref 81, .ref 89]), .inl (10, [.ref 2, .ref 17, .ref 32, .ref 47, .ref 56, .ref 58, .ref 60, .ref 62, .ref 64, .int 0, .int 0]), .inl (9, [.ref 3, .ref 5, .ref 7, .ref 9, .ref 11, .ref 13, .ref 15, .int 0, .int 0, .int 0, .int 0]), .inl (7, [.ref 4]), .inr (0, 24, fillF (fun _ => 0) (-1) 24), .inl (7, [.ref 6]), .inr (0, 24, fillF (fun _ => 0) (-1) 24), .inl (7, [.ref 8]), .inr (0, 24, fillF (fun _ => 0) (-1) 24), .inl (7, [.ref 10]), .inr (0, 24, fillF (fun _ => 0) 7 24), .inl (7, [.ref 12]), .inr (0, 72, fillF (fun _ => 0) 0 72), .inl (7, [.ref 14]), .inr (0, 24, fillF (fun _ => 0) (-1) 24), .inl (7, [.ref 16]), .inr (0, 6, fillF (fun _ => 0) 0 6), .inl (6, [.ref 18, .ref 20, .ref 22, .ref 24, .ref 26, .ref 28, .ref 30, .int 0]), .inl (7, [.ref 19]), .inr (0, 30, fillF (fun _ => 0) 3 30), .inl (7, [.ref 21]), .inr (0, 30, fillF (fun _ => 0) 0 30), .inl (7, [.ref 23]), .inr (0, 30, fillF (fun _ => 0) 0 30), .inl (7, [.ref 25]), .inr (0, 30, fillF (fun _ => 0) (-1) 30), .inl (7, [.ref 27]), .inr (0, 30, fillF (fun _ => 0) (-1) 30), .inl (7, [.ref 29]), .inr (0, 30, fillF (fun _ => 0) (-1) 30), .inl (7, [.ref 31]), .inr (0, 30, fillF (fun _ => 0) 0 30), .inl (4, [.ref 33, .ref 35, .ref 37, .ref 39, .ref 41, .ref 43, .ref 45]), .inl (7, [.ref 34]), .inr (0, 120, fillF (fun _ => 0) (-1) 120), .inl (7, [.ref 36]), .inr (0, 120, fillF (fun _ => 0) (-1) 120), .inl (7, [.ref 38]), .inr (0, 120, fillF (fun _ => 0) 0 120), .inl (7, [.ref 40]), .inr (0, 120, fillF (fun _ => 0) (-1) 120), .inl (7, [.ref 42]), .inr (0, 120, fillF (fun _ => 0) 0 120), .inl (7, [.ref 44]), .inr (0, 120, fillF (fun _ => 0) 0 120), .inl (7, [.ref 46]), .inr (0, 24, fillF (fun _ => 0) 0 24), .inl (2, [.ref 48, .ref 50, .ref 52, .ref 54, .int 0]), .inl (7, [.ref 49]), .inr (0, 6, fillF (fun _ => 0) (-1) 6), .inl (7, [.ref 51]), .inr (0, 6, fillF (fun _ => 0) (-1) 6), .inl (7, [.ref 53]), .inr (0, 6, fillF (fun _ => 0) (-1) 6), .inl (7, [.ref 55]), .inr (0, 6, fillF (fun _ => 0) 0 6), .inl (7, [.ref 57]), .inr (0, 6, fillF (fun _ => 0) (-1) 6), .inl (7, [.ref 59]), .inr (0, 8, fillF (fun _ => 0) (-1) 8), .inl (7, [.ref 61]), .inr (0, 8, fillF (fun _ => 0) (-1) 8), .inl (7, [.ref 63]), .inr (0, 6, fillF (fun _ => 0) (-1) 6), .inl (7, [.ref 65]), .inr (0, 6, upd (upd (upd (upd (upd (upd (fillF (fun _ => 0) (-1) 6) 0 0) 1 1) 2 2) 3 3) 4 4) 5 5), .inl (5, [.ref 1, .int 0, .int 0]), .inl (8, [.ref 1, .ref 66, .ref 76, .ref 68, .ref 70, .ref 72, .ref 74, .int 0, .int 0, .int 0]), .inl (7, [.ref 69]), .inr (0, 6, fillF (fun _ => 0) (-1) 6), .inl (7, [.ref 71]), .inr (0, 30, fillF (fun _ => 0) (-1) 30), .inl (7, [.ref 73]), .inr (0, 6, fillF (fun _ => 0) 0 6), .inl (7, [.ref 75]), .inr (0, 6, fillF (fun _ => 0) 0 6), .inl (1, [.ref 1, .ref 77, .ref 79]), .inl (7, [.ref 78]), .inr (0, 6, fillF (fun _ => 0) (-1) 6), .inl (7, [.ref 80]), .inr (0, 6, fillF (fun _ => 0) 0 6), .inl (0, [.ref 1, .ref 66, .ref 84, .ref 82]), .inl (7, [.ref 83]), .inr (0, 6, fillF (fun _ => 0) (-1) 6), .inl (1, [.ref 1, .ref 85, .ref 87]), .inl (7, [.ref 86]), .inr (0, 6, fillF (fun _ => 0) (-1) 6), .inl (7, [.ref 88]), .inr (0, 6, fillF (fun _ => 0) 0 6), .inl (3, [.ref 90, .ref 92]), .inl (7, [.ref 91]), .inr (0, 6, fillF (fun _ => 0) (-1) 6), .inl (7, [.ref 93]), .inr (0, 6, fillF (fun _ => 0) (-1) 6), .inl (12, [.int 0, .int 0, .int 0, .int 0, .int 0, .int 0, .int 0, .int 0, .ref 95, .ref 96, .ref 97, .ref 98, .ref 99, .ref 100, .ref 101, .ref 102, .ref 103, .ref 104, .ref 105, .ref 106, .ref 107, .ref 108, .ref 109, .ref 110, .ref 111, .int 0, .int (-1), .ref 112, .ref 113, .int 0, .int 0, .int 0]), .inr (0, 216, fun _ => 0), .inr (0, 72, fun _ => 0), .inr (0, 720, fun _ => 0), .inr (0, 150, fun _ => 0), .inr (1, 720, fun _ => 0), .inr (0, 24, fun _ => 0), .inr (0, 16, fun _ => 0), .inr (0, 6, upd (upd (upd (upd (upd (upd (fun _ => 0) 0 (-1)) 1 (-1)) 2 (-1)) 3 (-1)) 4 (-1)) 5 (-1)), .inr (0, 6, upd (upd (upd (upd (upd (upd (fun _ => 0) 0 (-1)) 1 (-1)) 2 (-1)) 3 (-1)) 4 (-1)) 5 (-1)), .inr (0, 6, upd (upd (upd (upd (upd (upd (fun _ => 0) 0 (-1)) 1 (-1)) 2 (-1)) 3 (-1)) 4 (-1)) 5 (-1)), .inr (0, 6, fun _ => 0), .inr (0, 6, fun _ => 0), .inr (0, 6, fun _ => 0), .inr (1, 6, fun _ => 0), .inr (0, 30, fun _ => 0), .inr (0, 6, fun _ => 0), .inr (0, 6, fun _ => 0), .inr (0, 6, fun _ => 0), .inr (0, 6, fun _ => 0)] := by
  refine cg_of (by decide) (by simp [Value.category]) (by simp) (fun X ρ0 hl hX0 hG hnm hR hQ hr => ?_)
  have hX : CGX X cX12_init 1 RX12 := ⟨hX0, hG⟩
  have hi := hnm rfl
  refine g_al hX dX12_init_0 rfl rfl rfl ?_
  refine g_obj hX ob_X12_1 rfl (by rw [hR]; exact Nat.le_of_ble_eq_true rfl) (by rw [hR]; exact Nat.le_of_ble_eq_true rfl) dX12_init_1 rfl ?_
  refine g_al hX dX12_init_4 rfl rfl rfl ?_
  refine g_si 216 hX dX12_init_5 (by decide) rfl ?_
  refine g_newa (q9 := 95) (t := 0) (N := 216) (ty9 := .int) rfl hX rfl (Or.inl ⟨rfl, rfl⟩) ar_int rfl rfl rfl (Nat.le_of_ble_eq_true rfl) (by decide) (by decide) (Nat.le_of_ble_eq_true rfl) ⟨by rw [hR]; exact Nat.le_of_ble_eq_true rfl, by rw [hR]; exact Nat.le_of_ble_eq_true rfl⟩ dX12_init_8 rfl ?_
  refine g_put hX hi fg_X12_7 (fun _ => ⟨rfl, rfl⟩) (p := 94) rfl (Nat.le_of_ble_eq_true rfl) dX12_init_10 rfl ?_
  refine g_al hX dX12_init_13 rfl rfl rfl ?_
  refine g_bi 72 hX dX12_init_14 (by decide) rfl ?_
  refine g_newa (q9 := 96) (t := 0) (N := 72) (ty9 := .int) rfl hX rfl (Or.inl ⟨rfl, rfl⟩) ar_int rfl rfl rfl (Nat.le_of_ble_eq_true rfl) (by decide) (by decide) (Nat.le_of_ble_eq_true rfl) ⟨by rw [hR]; exact Nat.le_of_ble_eq_true rfl, by rw [hR]; exact Nat.le_of_ble_eq_true rfl⟩ dX12_init_16 rfl ?_
  refine g_put hX hi fg_X12_13 (fun _ => ⟨rfl, rfl⟩) (p := 94) rfl (Nat.le_of_ble_eq_true rfl) dX12_init_18 rfl ?_
  refine g_al hX dX12_init_21 rfl rfl rfl ?_
  refine g_si 720 hX dX12_init_22 (by decide) rfl ?_
  refine g_newa (q9 := 97) (t := 0) (N := 720) (ty9 := .int) rfl hX rfl (Or.inl ⟨rfl, rfl⟩) ar_int rfl rfl rfl (Nat.le_of_ble_eq_true rfl) (by decide) (by decide) (Nat.le_of_ble_eq_true rfl) ⟨by rw [hR]; exact Nat.le_of_ble_eq_true rfl, by rw [hR]; exact Nat.le_of_ble_eq_true rfl⟩ dX12_init_25 rfl ?_
  refine g_put hX hi fg_X12_16 (fun _ => ⟨rfl, rfl⟩) (p := 94) rfl (Nat.le_of_ble_eq_true rfl) dX12_init_27 rfl ?_
  refine g_al hX dX12_init_30 rfl rfl rfl ?_
  refine g_si 150 hX dX12_init_31 (by decide) rfl ?_
  refine g_newa (q9 := 98) (t := 0) (N := 150) (ty9 := .int) rfl hX rfl (Or.inl ⟨rfl, rfl⟩) ar_int rfl rfl rfl (Nat.le_of_ble_eq_true rfl) (by decide) (by decide) (Nat.le_of_ble_eq_true rfl) ⟨by rw [hR]; exact Nat.le_of_ble_eq_true rfl, by rw [hR]; exact Nat.le_of_ble_eq_true rfl⟩ dX12_init_34 rfl ?_
  refine g_put hX hi fg_X12_19 (fun _ => ⟨rfl, rfl⟩) (p := 94) rfl (Nat.le_of_ble_eq_true rfl) dX12_init_36 rfl ?_
  refine g_al hX dX12_init_39 rfl rfl rfl ?_
  refine g_si 720 hX dX12_init_40 (by decide) rfl ?_
  refine g_newa (q9 := 99) (t := 1) (N := 720) (ty9 := .boolean) rfl hX rfl (Or.inr ⟨rfl, rfl⟩) ar_bool rfl rfl rfl (Nat.le_of_ble_eq_true rfl) (by decide) (by decide) (Nat.le_of_ble_eq_true rfl) ⟨by rw [hR]; exact Nat.le_of_ble_eq_true rfl, by rw [hR]; exact Nat.le_of_ble_eq_true rfl⟩ dX12_init_43 rfl ?_
  refine g_put hX hi fg_X12_22 (fun _ => ⟨rfl, rfl⟩) (p := 94) rfl (Nat.le_of_ble_eq_true rfl) dX12_init_45 rfl ?_
  refine g_al hX dX12_init_48 rfl rfl rfl ?_
  refine g_bi 24 hX dX12_init_49 (by decide) rfl ?_
  refine g_newa (q9 := 100) (t := 0) (N := 24) (ty9 := .int) rfl hX rfl (Or.inl ⟨rfl, rfl⟩) ar_int rfl rfl rfl (Nat.le_of_ble_eq_true rfl) (by decide) (by decide) (Nat.le_of_ble_eq_true rfl) ⟨by rw [hR]; exact Nat.le_of_ble_eq_true rfl, by rw [hR]; exact Nat.le_of_ble_eq_true rfl⟩ dX12_init_51 rfl ?_
  refine g_put hX hi fg_X12_26 (fun _ => ⟨rfl, rfl⟩) (p := 94) rfl (Nat.le_of_ble_eq_true rfl) dX12_init_53 rfl ?_
  refine g_al hX dX12_init_56 rfl rfl rfl ?_
  refine g_bi 16 hX dX12_init_57 (by decide) rfl ?_
  refine g_newa (q9 := 101) (t := 0) (N := 16) (ty9 := .int) rfl hX rfl (Or.inl ⟨rfl, rfl⟩) ar_int rfl rfl rfl (Nat.le_of_ble_eq_true rfl) (by decide) (by decide) (Nat.le_of_ble_eq_true rfl) ⟨by rw [hR]; exact Nat.le_of_ble_eq_true rfl, by rw [hR]; exact Nat.le_of_ble_eq_true rfl⟩ dX12_init_59 rfl ?_
  refine g_put hX hi fg_X12_29 (fun _ => ⟨rfl, rfl⟩) (p := 94) rfl (Nat.le_of_ble_eq_true rfl) dX12_init_61 rfl ?_
  refine g_al hX dX12_init_64 rfl rfl rfl ?_
  refine g_bi 6 hX dX12_init_65 (by decide) rfl ?_
  refine g_newa (q9 := 102) (t := 0) (N := 6) (ty9 := .int) rfl hX rfl (Or.inl ⟨rfl, rfl⟩) ar_int rfl rfl rfl (Nat.le_of_ble_eq_true rfl) (by decide) (by decide) (Nat.le_of_ble_eq_true rfl) ⟨by rw [hR]; exact Nat.le_of_ble_eq_true rfl, by rw [hR]; exact Nat.le_of_ble_eq_true rfl⟩ dX12_init_67 rfl ?_
  refine g_dup hX dX12_init_69 rfl rfl ?_
  refine g_ic 0 hX dX12_init_70 (by decide) rfl ?_
  refine g_ic (-1) hX dX12_init_71 (by decide) rfl ?_
  refine g_ast hX (p := 102) rfl (vpi (by decide)) dX12_init_72 rfl ?_
  refine g_dup hX dX12_init_73 rfl rfl ?_
  refine g_ic 1 hX dX12_init_74 (by decide) rfl ?_
  refine g_ic (-1) hX dX12_init_75 (by decide) rfl ?_
  refine g_ast hX (p := 102) rfl (vpi (by decide)) dX12_init_76 rfl ?_
  refine g_dup hX dX12_init_77 rfl rfl ?_
  refine g_ic 2 hX dX12_init_78 (by decide) rfl ?_
  refine g_ic (-1) hX dX12_init_79 (by decide) rfl ?_
  refine g_ast hX (p := 102) rfl (vpi (by decide)) dX12_init_80 rfl ?_
  refine g_dup hX dX12_init_81 rfl rfl ?_
  refine g_ic 3 hX dX12_init_82 (by decide) rfl ?_
  refine g_ic (-1) hX dX12_init_83 (by decide) rfl ?_
  refine g_ast hX (p := 102) rfl (vpi (by decide)) dX12_init_84 rfl ?_
  refine g_dup hX dX12_init_85 rfl rfl ?_
  refine g_ic 4 hX dX12_init_86 (by decide) rfl ?_
  refine g_ic (-1) hX dX12_init_87 (by decide) rfl ?_
  refine g_ast hX (p := 102) rfl (vpi (by decide)) dX12_init_88 rfl ?_
  refine g_dup hX dX12_init_89 rfl rfl ?_
  refine g_ic 5 hX dX12_init_90 (by decide) rfl ?_
  refine g_ic (-1) hX dX12_init_91 (by decide) rfl ?_
  refine g_ast hX (p := 102) rfl (vpi (by decide)) dX12_init_92 rfl ?_
  refine g_put hX hi fg_X12_32 (fun _ => ⟨rfl, rfl⟩) (p := 94) rfl (Nat.le_of_ble_eq_true rfl) dX12_init_93 rfl ?_
  refine g_al hX dX12_init_96 rfl rfl rfl ?_
  refine g_bi 6 hX dX12_init_97 (by decide) rfl ?_
  refine g_newa (q9 := 103) (t := 0) (N := 6) (ty9 := .int) rfl hX rfl (Or.inl ⟨rfl, rfl⟩) ar_int rfl rfl rfl (Nat.le_of_ble_eq_true rfl) (by decide) (by decide) (Nat.le_of_ble_eq_true rfl) ⟨by rw [hR]; exact Nat.le_of_ble_eq_true rfl, by rw [hR]; exact Nat.le_of_ble_eq_true rfl⟩ dX12_init_99 rfl ?_
  refine g_dup hX dX12_init_101 rfl rfl ?_
  refine g_ic 0 hX dX12_init_102 (by decide) rfl ?_
  refine g_ic (-1) hX dX12_init_103 (by decide) rfl ?_
  refine g_ast hX (p := 103) rfl (vpi (by decide)) dX12_init_104 rfl ?_
  refine g_dup hX dX12_init_105 rfl rfl ?_
  refine g_ic 1 hX dX12_init_106 (by decide) rfl ?_
  refine g_ic (-1) hX dX12_init_107 (by decide) rfl ?_
  refine g_ast hX (p := 103) rfl (vpi (by decide)) dX12_init_108 rfl ?_
  refine g_dup hX dX12_init_109 rfl rfl ?_
  refine g_ic 2 hX dX12_init_110 (by decide) rfl ?_
  refine g_ic (-1) hX dX12_init_111 (by decide) rfl ?_
  refine g_ast hX (p := 103) rfl (vpi (by decide)) dX12_init_112 rfl ?_
  refine g_dup hX dX12_init_113 rfl rfl ?_
  refine g_ic 3 hX dX12_init_114 (by decide) rfl ?_
  refine g_ic (-1) hX dX12_init_115 (by decide) rfl ?_
  refine g_ast hX (p := 103) rfl (vpi (by decide)) dX12_init_116 rfl ?_
  refine g_dup hX dX12_init_117 rfl rfl ?_
  refine g_ic 4 hX dX12_init_118 (by decide) rfl ?_
  refine g_ic (-1) hX dX12_init_119 (by decide) rfl ?_
  refine g_ast hX (p := 103) rfl (vpi (by decide)) dX12_init_120 rfl ?_
  refine g_dup hX dX12_init_121 rfl rfl ?_
  refine g_ic 5 hX dX12_init_122 (by decide) rfl ?_
  refine g_ic (-1) hX dX12_init_123 (by decide) rfl ?_
  refine g_ast hX (p := 103) rfl (vpi (by decide)) dX12_init_124 rfl ?_
  refine g_put hX hi fg_X12_35 (fun _ => ⟨rfl, rfl⟩) (p := 94) rfl (Nat.le_of_ble_eq_true rfl) dX12_init_125 rfl ?_
  refine g_al hX dX12_init_128 rfl rfl rfl ?_
  refine g_bi 6 hX dX12_init_129 (by decide) rfl ?_
  refine g_newa (q9 := 104) (t := 0) (N := 6) (ty9 := .int) rfl hX rfl (Or.inl ⟨rfl, rfl⟩) ar_int rfl rfl rfl (Nat.le_of_ble_eq_true rfl) (by decide) (by decide) (Nat.le_of_ble_eq_true rfl) ⟨by rw [hR]; exact Nat.le_of_ble_eq_true rfl, by rw [hR]; exact Nat.le_of_ble_eq_true rfl⟩ dX12_init_131 rfl ?_
  refine g_dup hX dX12_init_133 rfl rfl ?_
  refine g_ic 0 hX dX12_init_134 (by decide) rfl ?_
  refine g_ic (-1) hX dX12_init_135 (by decide) rfl ?_
  refine g_ast hX (p := 104) rfl (vpi (by decide)) dX12_init_136 rfl ?_
  refine g_dup hX dX12_init_137 rfl rfl ?_
  refine g_ic 1 hX dX12_init_138 (by decide) rfl ?_
  refine g_ic (-1) hX dX12_init_139 (by decide) rfl ?_
  refine g_ast hX (p := 104) rfl (vpi (by decide)) dX12_init_140 rfl ?_
  refine g_dup hX dX12_init_141 rfl rfl ?_
  refine g_ic 2 hX dX12_init_142 (by decide) rfl ?_
  refine g_ic (-1) hX dX12_init_143 (by decide) rfl ?_
  refine g_ast hX (p := 104) rfl (vpi (by decide)) dX12_init_144 rfl ?_
  refine g_dup hX dX12_init_145 rfl rfl ?_
  refine g_ic 3 hX dX12_init_146 (by decide) rfl ?_
  refine g_ic (-1) hX dX12_init_147 (by decide) rfl ?_
  refine g_ast hX (p := 104) rfl (vpi (by decide)) dX12_init_148 rfl ?_
  refine g_dup hX dX12_init_149 rfl rfl ?_
  refine g_ic 4 hX dX12_init_150 (by decide) rfl ?_
  refine g_ic (-1) hX dX12_init_151 (by decide) rfl ?_
  refine g_ast hX (p := 104) rfl (vpi (by decide)) dX12_init_152 rfl ?_
  refine g_dup hX dX12_init_153 rfl rfl ?_
  refine g_ic 5 hX dX12_init_154 (by decide) rfl ?_
  refine g_ic (-1) hX dX12_init_155 (by decide) rfl ?_
  refine g_ast hX (p := 104) rfl (vpi (by decide)) dX12_init_156 rfl ?_
  refine g_put hX hi fg_X12_38 (fun _ => ⟨rfl, rfl⟩) (p := 94) rfl (Nat.le_of_ble_eq_true rfl) dX12_init_157 rfl ?_
  refine g_al hX dX12_init_160 rfl rfl rfl ?_
  refine g_bi 6 hX dX12_init_161 (by decide) rfl ?_
  refine g_newa (q9 := 105) (t := 0) (N := 6) (ty9 := .int) rfl hX rfl (Or.inl ⟨rfl, rfl⟩) ar_int rfl rfl rfl (Nat.le_of_ble_eq_true rfl) (by decide) (by decide) (Nat.le_of_ble_eq_true rfl) ⟨by rw [hR]; exact Nat.le_of_ble_eq_true rfl, by rw [hR]; exact Nat.le_of_ble_eq_true rfl⟩ dX12_init_163 rfl ?_
  refine g_put hX hi fg_X12_41 (fun _ => ⟨rfl, rfl⟩) (p := 94) rfl (Nat.le_of_ble_eq_true rfl) dX12_init_165 rfl ?_
  refine g_al hX dX12_init_168 rfl rfl rfl ?_
  refine g_bi 6 hX dX12_init_169 (by decide) rfl ?_
  refine g_newa (q9 := 106) (t := 0) (N := 6) (ty9 := .int) rfl hX rfl (Or.inl ⟨rfl, rfl⟩) ar_int rfl rfl rfl (Nat.le_of_ble_eq_true rfl) (by decide) (by decide) (Nat.le_of_ble_eq_true rfl) ⟨by rw [hR]; exact Nat.le_of_ble_eq_true rfl, by rw [hR]; exact Nat.le_of_ble_eq_true rfl⟩ dX12_init_171 rfl ?_
  refine g_put hX hi fg_X12_44 (fun _ => ⟨rfl, rfl⟩) (p := 94) rfl (Nat.le_of_ble_eq_true rfl) dX12_init_173 rfl ?_
  refine g_al hX dX12_init_176 rfl rfl rfl ?_
  refine g_bi 6 hX dX12_init_177 (by decide) rfl ?_
  refine g_newa (q9 := 107) (t := 0) (N := 6) (ty9 := .int) rfl hX rfl (Or.inl ⟨rfl, rfl⟩) ar_int rfl rfl rfl (Nat.le_of_ble_eq_true rfl) (by decide) (by decide) (Nat.le_of_ble_eq_true rfl) ⟨by rw [hR]; exact Nat.le_of_ble_eq_true rfl, by rw [hR]; exact Nat.le_of_ble_eq_true rfl⟩ dX12_init_179 rfl ?_
  refine g_put hX hi fg_X12_47 (fun _ => ⟨rfl, rfl⟩) (p := 94) rfl (Nat.le_of_ble_eq_true rfl) dX12_init_181 rfl ?_
  refine g_al hX dX12_init_184 rfl rfl rfl ?_
  refine g_bi 6 hX dX12_init_185 (by decide) rfl ?_
  refine g_newa (q9 := 108) (t := 1) (N := 6) (ty9 := .boolean) rfl hX rfl (Or.inr ⟨rfl, rfl⟩) ar_bool rfl rfl rfl (Nat.le_of_ble_eq_true rfl) (by decide) (by decide) (Nat.le_of_ble_eq_true rfl) ⟨by rw [hR]; exact Nat.le_of_ble_eq_true rfl, by rw [hR]; exact Nat.le_of_ble_eq_true rfl⟩ dX12_init_187 rfl ?_
  refine g_put hX hi fg_X12_50 (fun _ => ⟨rfl, rfl⟩) (p := 94) rfl (Nat.le_of_ble_eq_true rfl) dX12_init_189 rfl ?_
  refine g_al hX dX12_init_192 rfl rfl rfl ?_
  refine g_bi 30 hX dX12_init_193 (by decide) rfl ?_
  refine g_newa (q9 := 109) (t := 0) (N := 30) (ty9 := .int) rfl hX rfl (Or.inl ⟨rfl, rfl⟩) ar_int rfl rfl rfl (Nat.le_of_ble_eq_true rfl) (by decide) (by decide) (Nat.le_of_ble_eq_true rfl) ⟨by rw [hR]; exact Nat.le_of_ble_eq_true rfl, by rw [hR]; exact Nat.le_of_ble_eq_true rfl⟩ dX12_init_195 rfl ?_
  refine g_put hX hi fg_X12_53 (fun _ => ⟨rfl, rfl⟩) (p := 94) rfl (Nat.le_of_ble_eq_true rfl) dX12_init_197 rfl ?_
  refine g_al hX dX12_init_200 rfl rfl rfl ?_
  refine g_bi 6 hX dX12_init_201 (by decide) rfl ?_
  refine g_newa (q9 := 110) (t := 0) (N := 6) (ty9 := .int) rfl hX rfl (Or.inl ⟨rfl, rfl⟩) ar_int rfl rfl rfl (Nat.le_of_ble_eq_true rfl) (by decide) (by decide) (Nat.le_of_ble_eq_true rfl) ⟨by rw [hR]; exact Nat.le_of_ble_eq_true rfl, by rw [hR]; exact Nat.le_of_ble_eq_true rfl⟩ dX12_init_203 rfl ?_
  refine g_put hX hi fg_X12_56 (fun _ => ⟨rfl, rfl⟩) (p := 94) rfl (Nat.le_of_ble_eq_true rfl) dX12_init_205 rfl ?_
  refine g_al hX dX12_init_208 rfl rfl rfl ?_
  refine g_bi 6 hX dX12_init_209 (by decide) rfl ?_
  refine g_newa (q9 := 111) (t := 0) (N := 6) (ty9 := .int) rfl hX rfl (Or.inl ⟨rfl, rfl⟩) ar_int rfl rfl rfl (Nat.le_of_ble_eq_true rfl) (by decide) (by decide) (Nat.le_of_ble_eq_true rfl) ⟨by rw [hR]; exact Nat.le_of_ble_eq_true rfl, by rw [hR]; exact Nat.le_of_ble_eq_true rfl⟩ dX12_init_211 rfl ?_
  refine g_put hX hi fg_X12_59 (fun _ => ⟨rfl, rfl⟩) (p := 94) rfl (Nat.le_of_ble_eq_true rfl) dX12_init_213 rfl ?_
  refine g_al hX dX12_init_216 rfl rfl rfl ?_
  refine g_ic (-1) hX dX12_init_217 (by decide) rfl ?_
  refine g_put hX hi fg_X12_62 (fun _ => ⟨rfl, rfl⟩) (p := 94) rfl (Nat.le_of_ble_eq_true rfl) dX12_init_218 rfl ?_
  refine g_al hX dX12_init_221 rfl rfl rfl ?_
  refine g_bi 6 hX dX12_init_222 (by decide) rfl ?_
  refine g_newa (q9 := 112) (t := 0) (N := 6) (ty9 := .int) rfl hX rfl (Or.inl ⟨rfl, rfl⟩) ar_int rfl rfl rfl (Nat.le_of_ble_eq_true rfl) (by decide) (by decide) (Nat.le_of_ble_eq_true rfl) ⟨by rw [hR]; exact Nat.le_of_ble_eq_true rfl, by rw [hR]; exact Nat.le_of_ble_eq_true rfl⟩ dX12_init_224 rfl ?_
  refine g_put hX hi fg_X12_66 (fun _ => ⟨rfl, rfl⟩) (p := 94) rfl (Nat.le_of_ble_eq_true rfl) dX12_init_226 rfl ?_
  refine g_al hX dX12_init_229 rfl rfl rfl ?_
  refine g_bi 6 hX dX12_init_230 (by decide) rfl ?_
  refine g_newa (q9 := 113) (t := 0) (N := 6) (ty9 := .int) rfl hX rfl (Or.inl ⟨rfl, rfl⟩) ar_int rfl rfl rfl (Nat.le_of_ble_eq_true rfl) (by decide) (by decide) (Nat.le_of_ble_eq_true rfl) ⟨by rw [hR]; exact Nat.le_of_ble_eq_true rfl, by rw [hR]; exact Nat.le_of_ble_eq_true rfl⟩ dX12_init_232 rfl ?_
  refine g_put hX hi fg_X12_69 (fun _ => ⟨rfl, rfl⟩) (p := 94) rfl (Nat.le_of_ble_eq_true rfl) dX12_init_234 rfl ?_
  exact g_ret hX hQ hr rfl dX12_init_237

