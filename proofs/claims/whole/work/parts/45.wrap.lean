theorem tw_165 : (.classLink RL 13 "java/lang/IllegalArgumentException" : Cond) ∈ TB := tb_in (i := 165) (by decide +kernel) (by decide +kernel)
theorem tw_166 : (.classLink RL 15 "java/lang/IllegalStateException" : Cond) ∈ TB := tb_in (i := 166) (by decide +kernel) (by decide +kernel)
theorem tw_167 : (.methodLink RL 7 yX1_depth : Cond) ∈ TB := tb_in (i := 167) (by decide +kernel) (by decide +kernel)
theorem tw_168 : (.instanceMethod yX1_depth : Cond) ∈ TB := tb_in (i := 168) (by decide +kernel) (by decide +kernel)
theorem tw_169 : (.selects RX1 yX1_depth yX1_depth : Cond) ∈ TB := tb_in (i := 169) (by decide +kernel) (by decide +kernel)
theorem tw_170 : (.code yX1_depth cX1_depth 3 (some .int) : Cond) ∈ TB := tb_in (i := 170) (by decide +kernel) (by decide +kernel)
theorem tw_258 : (.methodLink RL 17 yX1_found : Cond) ∈ TB := tb_in (i := 258) (by decide +kernel) (by decide +kernel)
theorem tw_259 : (.instanceMethod yX1_found : Cond) ∈ TB := tb_in (i := 259) (by decide +kernel) (by decide +kernel)
theorem tw_260 : (.selects RX1 yX1_found yX1_found : Cond) ∈ TB := tb_in (i := 260) (by decide +kernel) (by decide +kernel)
theorem tw_261 : (.code yX1_found cX1_found 2 (some .int) : Cond) ∈ TB := tb_in (i := 261) (by decide +kernel) (by decide +kernel)
theorem tw_290 : (.methodLink RL 20 yX1_open : Cond) ∈ TB := tb_in (i := 290) (by decide +kernel) (by decide +kernel)
theorem tw_291 : (.instanceMethod yX1_open : Cond) ∈ TB := tb_in (i := 291) (by decide +kernel) (by decide +kernel)
theorem tw_292 : (.selects RX1 yX1_open yX1_open : Cond) ∈ TB := tb_in (i := 292) (by decide +kernel) (by decide +kernel)
theorem tw_293 : (.code yX1_open cX1_open 4 (some .int) : Cond) ∈ TB := tb_in (i := 293) (by decide +kernel) (by decide +kernel)
theorem tw_298 : (.classLink RL 28 "java/util/NoSuchElementException" : Cond) ∈ TB := tb_in (i := 298) (by decide +kernel) (by decide +kernel)
theorem tw_299 : (.methodLink RL 24 yX1_join : Cond) ∈ TB := tb_in (i := 299) (by decide +kernel) (by decide +kernel)
theorem tw_300 : (.instanceMethod yX1_join : Cond) ∈ TB := tb_in (i := 300) (by decide +kernel) (by decide +kernel)
theorem tw_301 : (.selects RX1 yX1_join yX1_join : Cond) ∈ TB := tb_in (i := 301) (by decide +kernel) (by decide +kernel)
theorem tw_302 : (.code yX1_join cX1_join 5 (some .int) : Cond) ∈ TB := tb_in (i := 302) (by decide +kernel) (by decide +kernel)
theorem tw_356 : (.methodLink RL 30 yX1_fail : Cond) ∈ TB := tb_in (i := 356) (by decide +kernel) (by decide +kernel)
theorem tw_357 : (.instanceMethod yX1_fail : Cond) ∈ TB := tb_in (i := 357) (by decide +kernel) (by decide +kernel)
theorem tw_358 : (.selects RX1 yX1_fail yX1_fail : Cond) ∈ TB := tb_in (i := 358) (by decide +kernel) (by decide +kernel)
theorem tw_359 : (.code yX1_fail cX1_fail 4 (some .int) : Cond) ∈ TB := tb_in (i := 359) (by decide +kernel) (by decide +kernel)
theorem tw_373 : (.methodLink RL 33 yX1_stabilise : Cond) ∈ TB := tb_in (i := 373) (by decide +kernel) (by decide +kernel)
theorem tw_374 : (.instanceMethod yX1_stabilise : Cond) ∈ TB := tb_in (i := 374) (by decide +kernel) (by decide +kernel)
theorem tw_375 : (.selects RX1 yX1_stabilise yX1_stabilise : Cond) ∈ TB := tb_in (i := 375) (by decide +kernel) (by decide +kernel)
theorem tw_376 : (.code yX1_stabilise cX1_stabilise 4 (some .int) : Cond) ∈ TB := tb_in (i := 376) (by decide +kernel) (by decide +kernel)
theorem tw_388 : (.methodLink RL 36 yX1_mend : Cond) ∈ TB := tb_in (i := 388) (by decide +kernel) (by decide +kernel)
theorem tw_389 : (.instanceMethod yX1_mend : Cond) ∈ TB := tb_in (i := 389) (by decide +kernel) (by decide +kernel)
theorem tw_390 : (.selects RX1 yX1_mend yX1_mend : Cond) ∈ TB := tb_in (i := 390) (by decide +kernel) (by decide +kernel)
theorem tw_391 : (.code yX1_mend cX1_mend 4 (some .int) : Cond) ∈ TB := tb_in (i := 391) (by decide +kernel) (by decide +kernel)
theorem tw_403 : (.methodLink RL 39 yX1_handOver : Cond) ∈ TB := tb_in (i := 403) (by decide +kernel) (by decide +kernel)
theorem tw_404 : (.instanceMethod yX1_handOver : Cond) ∈ TB := tb_in (i := 404) (by decide +kernel) (by decide +kernel)
theorem tw_405 : (.selects RX1 yX1_handOver yX1_handOver : Cond) ∈ TB := tb_in (i := 405) (by decide +kernel) (by decide +kernel)
theorem tw_406 : (.code yX1_handOver cX1_handOver 2 (some .int) : Cond) ∈ TB := tb_in (i := 406) (by decide +kernel) (by decide +kernel)
theorem tw_426 : (.methodLink RL 42 yX1_spread : Cond) ∈ TB := tb_in (i := 426) (by decide +kernel) (by decide +kernel)
theorem tw_427 : (.instanceMethod yX1_spread : Cond) ∈ TB := tb_in (i := 427) (by decide +kernel) (by decide +kernel)
theorem tw_428 : (.selects RX1 yX1_spread yX1_spread : Cond) ∈ TB := tb_in (i := 428) (by decide +kernel) (by decide +kernel)
theorem tw_429 : (.code yX1_spread cX1_spread 2 (some .int) : Cond) ∈ TB := tb_in (i := 429) (by decide +kernel) (by decide +kernel)
theorem tw_441 : (.methodLink RL 45 yX1_rounds : Cond) ∈ TB := tb_in (i := 441) (by decide +kernel) (by decide +kernel)
theorem tw_442 : (.instanceMethod yX1_rounds : Cond) ∈ TB := tb_in (i := 442) (by decide +kernel) (by decide +kernel)
theorem tw_443 : (.selects RX1 yX1_rounds yX1_rounds : Cond) ∈ TB := tb_in (i := 443) (by decide +kernel) (by decide +kernel)
theorem tw_444 : (.code yX1_rounds cX1_rounds 5 (some .int) : Cond) ∈ TB := tb_in (i := 444) (by decide +kernel) (by decide +kernel)
theorem tw_454 : (.methodLink RL 48 yX1_look : Cond) ∈ TB := tb_in (i := 454) (by decide +kernel) (by decide +kernel)
theorem tw_455 : (.instanceMethod yX1_look : Cond) ∈ TB := tb_in (i := 455) (by decide +kernel) (by decide +kernel)
theorem tw_456 : (.selects RX1 yX1_look yX1_look : Cond) ∈ TB := tb_in (i := 456) (by decide +kernel) (by decide +kernel)
theorem tw_457 : (.code yX1_look cX1_look 5 (some .int) : Cond) ∈ TB := tb_in (i := 457) (by decide +kernel) (by decide +kernel)
theorem tw_464 : (.methodLink RL 51 yX1_hop : Cond) ∈ TB := tb_in (i := 464) (by decide +kernel) (by decide +kernel)
theorem tw_465 : (.instanceMethod yX1_hop : Cond) ∈ TB := tb_in (i := 465) (by decide +kernel) (by decide +kernel)
theorem tw_466 : (.selects RX1 yX1_hop yX1_hop : Cond) ∈ TB := tb_in (i := 466) (by decide +kernel) (by decide +kernel)
theorem tw_467 : (.code yX1_hop cX1_hop 2 (some .int) : Cond) ∈ TB := tb_in (i := 467) (by decide +kernel) (by decide +kernel)
theorem tw_472 : (.methodLink RL 54 yX1_put : Cond) ∈ TB := tb_in (i := 472) (by decide +kernel) (by decide +kernel)
theorem tw_473 : (.instanceMethod yX1_put : Cond) ∈ TB := tb_in (i := 473) (by decide +kernel) (by decide +kernel)
theorem tw_474 : (.selects RX1 yX1_put yX1_put : Cond) ∈ TB := tb_in (i := 474) (by decide +kernel) (by decide +kernel)
theorem tw_475 : (.code yX1_put cX1_put 6 (some .int) : Cond) ∈ TB := tb_in (i := 475) (by decide +kernel) (by decide +kernel)
theorem tw_484 : (.methodLink RL 58 yX1_get : Cond) ∈ TB := tb_in (i := 484) (by decide +kernel) (by decide +kernel)
theorem tw_485 : (.instanceMethod yX1_get : Cond) ∈ TB := tb_in (i := 485) (by decide +kernel) (by decide +kernel)
theorem tw_486 : (.selects RX1 yX1_get yX1_get : Cond) ∈ TB := tb_in (i := 486) (by decide +kernel) (by decide +kernel)
theorem tw_487 : (.code yX1_get cX1_get 6 (some .int) : Cond) ∈ TB := tb_in (i := 487) (by decide +kernel) (by decide +kernel)
theorem tw_495 : (.methodLink RL 61 yX1_held : Cond) ∈ TB := tb_in (i := 495) (by decide +kernel) (by decide +kernel)
theorem tw_496 : (.instanceMethod yX1_held : Cond) ∈ TB := tb_in (i := 496) (by decide +kernel) (by decide +kernel)
theorem tw_497 : (.selects RX1 yX1_held yX1_held : Cond) ∈ TB := tb_in (i := 497) (by decide +kernel) (by decide +kernel)
theorem tw_498 : (.code yX1_held cX1_held 5 (some .int) : Cond) ∈ TB := tb_in (i := 498) (by decide +kernel) (by decide +kernel)
theorem tw_503 : (.methodLink RL 64 yX1_known : Cond) ∈ TB := tb_in (i := 503) (by decide +kernel) (by decide +kernel)
theorem tw_504 : (.instanceMethod yX1_known : Cond) ∈ TB := tb_in (i := 504) (by decide +kernel) (by decide +kernel)
theorem tw_505 : (.selects RX1 yX1_known yX1_known : Cond) ∈ TB := tb_in (i := 505) (by decide +kernel) (by decide +kernel)
theorem tw_506 : (.code yX1_known cX1_known 4 (some .int) : Cond) ∈ TB := tb_in (i := 506) (by decide +kernel) (by decide +kernel)
theorem tw_511 : (.methodLink RL 67 yX1_owner : Cond) ∈ TB := tb_in (i := 511) (by decide +kernel) (by decide +kernel)
theorem tw_512 : (.instanceMethod yX1_owner : Cond) ∈ TB := tb_in (i := 512) (by decide +kernel) (by decide +kernel)
theorem tw_513 : (.selects RX1 yX1_owner yX1_owner : Cond) ∈ TB := tb_in (i := 513) (by decide +kernel) (by decide +kernel)
theorem tw_514 : (.code yX1_owner cX1_owner 2 (some .int) : Cond) ∈ TB := tb_in (i := 514) (by decide +kernel) (by decide +kernel)
theorem tw_522 : (.methodLink RL 70 yX1_count : Cond) ∈ TB := tb_in (i := 522) (by decide +kernel) (by decide +kernel)
theorem tw_523 : (.instanceMethod yX1_count : Cond) ∈ TB := tb_in (i := 523) (by decide +kernel) (by decide +kernel)
theorem tw_524 : (.selects RX1 yX1_count yX1_count : Cond) ∈ TB := tb_in (i := 524) (by decide +kernel) (by decide +kernel)
theorem tw_525 : (.code yX1_count cX1_count 2 (some .int) : Cond) ∈ TB := tb_in (i := 525) (by decide +kernel) (by decide +kernel)
def fL_depth (σ : kS) (x1 : Int32) : Option (Int32 × kS) :=
  (fX1_depth σ x1).bind fun r =>
  ksm r.1 (fun E => if E = "java/lang/IllegalArgumentException" then some (1, r.2) else if E = "java/lang/IllegalStateException" then some (2, r.2) else none) fun v => some (0, sJ r.2 138 (0 : Int32).toNatClampNeg v.toInt64)
def rmL_depth : Room := { frames := 7, cells := 1, slots := 6, locals := 112 }
theorem mL_depth (l : Launch) (w : kW) (σ : kS) (x1 : Int32) {o : Int32 × kS} (h : fL_depth σ x1 = some o) : Met l yL_depth (Cond.codeWith yL_depth cL_depth 4 (some .int) [(0, 9, 12, 13), (0, 9, 15, 15)] :: TB) rmL_depth (va_Pc [.ref (kL w 0), .int x1, .ref (kL w 138)] (kPL w l σ)) (kQi w o.1 o.2) 1 6 (kA w) := by
  refine k_metL (by decide) [.ref (kL w 0), .int x1, .ref (kL w 138)] (Nat.le_of_ble_eq_true rfl) (by simp [lv_args, Value.category]) ?_
  intro p e s m args below meth c K KX KN hret htab
  have K : kC w p s m args meth c cL_depth 4 RL := K
  unfold fL_depth at h
  replace h := k_bd h
  obtain ⟨r, hr, h⟩ := h
  refine k_aload_n K dL_depth_0 2 rfl ?_
  refine k_iconst (v := 0) K dL_depth_1 (by decide) ?_
  refine k_aload_n K dL_depth_2 0 rfl ?_
  refine k_iload_n K dL_depth_3 1 rfl ?_
  refine k_callViX (As := [.int x1]) (rest := [.int 0, .ref (kL w 138)]) (n := 1) (C := RX1) (T := TX1) K KX dL_depth_4 kd_0 rfl (kg_V tw_167 tw_168 tw_169 tw_48 tw_170) rfl (by decide +kernel) rfl (by decide) (Nat.le_of_ble_eq_true rfl) rfl (by decide) (mX1_depth l w σ x1 hr) ⟨rfl, rfl⟩ (fun E hE => ?_) (fun v hv => ?_)
  · rw [hE] at h
    dsimp only [ksm] at h
    replace h := k_br h
    rcases h with ⟨b0, h⟩ | ⟨b0, h⟩
    · subst b0
      cases h
      refine k_catch K KX [] ⟨0, 9, 12, 13⟩ [⟨0, 9, 15, 15⟩] (htab.trans rfl) (fun z hz => nomatch hz) (by decide) (by decide) tw_165 (by decide +kernel) (fun q9 => ?_)
      refine k_astore_n (lv' := [(3, .ref q9), (0, .ref (kL w 0)), (1, .int x1), (2, .ref (kL w 138))]) K dL_depth_12 (by decide) rfl ?_
      refine k_iconst (v := 1) K dL_depth_13 (by decide) ?_
      exact k_iret (v := 1) K hret dL_depth_14 (by decide) (by decide)
    replace h := k_br h
    rcases h with ⟨b1, h⟩ | ⟨b1, h⟩
    · subst b1
      cases h
      refine k_catch K KX [⟨0, 9, 12, 13⟩] ⟨0, 9, 15, 15⟩ [] (htab.trans rfl) (fun z hz => by
        simp only [List.mem_cons, List.not_mem_nil, or_false] at hz
        obtain rfl := hz
        exact ⟨by decide, by decide, "java/lang/IllegalArgumentException", tw_165, KN.1⟩) (by decide) (by decide) tw_166 (by decide +kernel) (fun q9 => ?_)
      refine k_astore_n (lv' := [(3, .ref q9), (0, .ref (kL w 0)), (1, .int x1), (2, .ref (kL w 138))]) K dL_depth_15 (by decide) rfl ?_
      refine k_iconst (v := 2) K dL_depth_16 (by decide) ?_
      exact k_iret (v := 2) K hret dL_depth_17 (by decide) (by decide)
    cases h
  · rw [hv] at h
    dsimp only [ksm] at h
    cases h
    refine k_i2l K dL_depth_7 ?_
    refine k_last K dL_depth_8 kd_138 (show vpi 0 1 by decide) ?_
    refine k_goto K 18 dL_depth_9 (by decide) ?_
    refine k_iconst (v := 0) K dL_depth_18 (by decide) ?_
    exact k_iret (v := 0) K hret dL_depth_19 (by decide) (by decide)
def fL_found (σ : kS) (x1 : Int32) : Option (Int32 × kS) :=
  (fX1_found σ x1).bind fun r =>
  ksm r.1 (fun E => if E = "java/lang/IllegalArgumentException" then some (1, r.2) else if E = "java/lang/IllegalStateException" then some (2, r.2) else none) fun v => some (0, sJ r.2 138 (0 : Int32).toNatClampNeg v.toInt64)
def rmL_found : Room := { frames := 8, cells := 3, slots := 18, locals := 132 }
theorem mL_found (l : Launch) (w : kW) (σ : kS) (x1 : Int32) {o : Int32 × kS} (h : fL_found σ x1 = some o) : Met l yL_found (Cond.codeWith yL_found cL_found 4 (some .int) [(0, 9, 12, 13), (0, 9, 15, 15)] :: TB) rmL_found (va_Pc [.ref (kL w 0), .int x1, .ref (kL w 138)] (kPL w l σ)) (kQi w o.1 o.2) 3 18 (kA w) := by
  refine k_metL (by decide) [.ref (kL w 0), .int x1, .ref (kL w 138)] (Nat.le_of_ble_eq_true rfl) (by simp [lv_args, Value.category]) ?_
  intro p e s m args below meth c K KX KN hret htab
  have K : kC w p s m args meth c cL_found 4 RL := K
  unfold fL_found at h
  replace h := k_bd h
  obtain ⟨r, hr, h⟩ := h
  refine k_aload_n K dL_found_0 2 rfl ?_
  refine k_iconst (v := 0) K dL_found_1 (by decide) ?_
  refine k_aload_n K dL_found_2 0 rfl ?_
  refine k_iload_n K dL_found_3 1 rfl ?_
  refine k_callViX (As := [.int x1]) (rest := [.int 0, .ref (kL w 138)]) (n := 1) (C := RX1) (T := TX1) K KX dL_found_4 kd_0 rfl (kg_V tw_258 tw_259 tw_260 tw_48 tw_261) rfl (by decide +kernel) rfl (by decide) (Nat.le_of_ble_eq_true rfl) rfl (by decide) (mX1_found l w σ x1 hr) ⟨rfl, rfl⟩ (fun E hE => ?_) (fun v hv => ?_)
  · rw [hE] at h
    dsimp only [ksm] at h
    replace h := k_br h
    rcases h with ⟨b0, h⟩ | ⟨b0, h⟩
    · subst b0
      cases h
      refine k_catch K KX [] ⟨0, 9, 12, 13⟩ [⟨0, 9, 15, 15⟩] (htab.trans rfl) (fun z hz => nomatch hz) (by decide) (by decide) tw_165 (by decide +kernel) (fun q9 => ?_)
      refine k_astore_n (lv' := [(3, .ref q9), (0, .ref (kL w 0)), (1, .int x1), (2, .ref (kL w 138))]) K dL_found_12 (by decide) rfl ?_
      refine k_iconst (v := 1) K dL_found_13 (by decide) ?_
      exact k_iret (v := 1) K hret dL_found_14 (by decide) (by decide)
    replace h := k_br h
    rcases h with ⟨b1, h⟩ | ⟨b1, h⟩
    · subst b1
      cases h
      refine k_catch K KX [⟨0, 9, 12, 13⟩] ⟨0, 9, 15, 15⟩ [] (htab.trans rfl) (fun z hz => by
        simp only [List.mem_cons, List.not_mem_nil, or_false] at hz
        obtain rfl := hz
        exact ⟨by decide, by decide, "java/lang/IllegalArgumentException", tw_165, KN.1⟩) (by decide) (by decide) tw_166 (by decide +kernel) (fun q9 => ?_)
      refine k_astore_n (lv' := [(3, .ref q9), (0, .ref (kL w 0)), (1, .int x1), (2, .ref (kL w 138))]) K dL_found_15 (by decide) rfl ?_
      refine k_iconst (v := 2) K dL_found_16 (by decide) ?_
      exact k_iret (v := 2) K hret dL_found_17 (by decide) (by decide)
    cases h
  · rw [hv] at h
    dsimp only [ksm] at h
    cases h
    refine k_i2l K dL_found_7 ?_
    refine k_last K dL_found_8 kd_138 (show vpi 0 1 by decide) ?_
    refine k_goto K 18 dL_found_9 (by decide) ?_
    refine k_iconst (v := 0) K dL_found_18 (by decide) ?_
    exact k_iret (v := 0) K hret dL_found_19 (by decide) (by decide)
def fL_open (σ : kS) : Option (Int32 × kS) :=
  (fX1_open σ).bind fun r =>
  ksm r.1 (fun E => if E = "java/lang/IllegalStateException" then some (1, r.2) else none) fun v => some (0, sJ r.2 138 (0 : Int32).toNatClampNeg v.toInt64)
def rmL_open : Room := { frames := 7, cells := 1, slots := 6, locals := 113 }
theorem mL_open (l : Launch) (w : kW) (σ : kS) {o : Int32 × kS} (h : fL_open σ = some o) : Met l yL_open (Cond.codeWith yL_open cL_open 3 (some .int) [(0, 8, 11, 15)] :: TB) rmL_open (va_Pc [.ref (kL w 0), .ref (kL w 138)] (kPL w l σ)) (kQi w o.1 o.2) 1 6 (kA w) := by
  refine k_metL (by decide) [.ref (kL w 0), .ref (kL w 138)] (Nat.le_of_ble_eq_true rfl) (by simp [lv_args, Value.category]) ?_
  intro p e s m args below meth c K KX KN hret htab
  have K : kC w p s m args meth c cL_open 3 RL := K
  unfold fL_open at h
  replace h := k_bd h
  obtain ⟨r, hr, h⟩ := h
  refine k_aload_n K dL_open_0 1 rfl ?_
  refine k_iconst (v := 0) K dL_open_1 (by decide) ?_
  refine k_aload_n K dL_open_2 0 rfl ?_
  refine k_callViX (As := []) (rest := [.int 0, .ref (kL w 138)]) (n := 0) (C := RX1) (T := TX1) K KX dL_open_3 kd_0 rfl (kg_V tw_290 tw_291 tw_292 tw_48 tw_293) rfl (by decide +kernel) rfl (by decide) (Nat.le_of_ble_eq_true rfl) rfl (by decide) (mX1_open l w σ hr) ⟨rfl, rfl⟩ (fun E hE => ?_) (fun v hv => ?_)
  · rw [hE] at h
    dsimp only [ksm] at h
    replace h := k_br h
    rcases h with ⟨b0, h⟩ | ⟨b0, h⟩
    · subst b0
      cases h
      refine k_catch K KX [] ⟨0, 8, 11, 15⟩ [] (htab.trans rfl) (fun z hz => nomatch hz) (by decide) (by decide) tw_166 (by decide +kernel) (fun q9 => ?_)
      refine k_astore_n (lv' := [(2, .ref q9), (0, .ref (kL w 0)), (1, .ref (kL w 138))]) K dL_open_11 (by decide) rfl ?_
      refine k_iconst (v := 1) K dL_open_12 (by decide) ?_
      exact k_iret (v := 1) K hret dL_open_13 (by decide) (by decide)
    cases h
  · rw [hv] at h
    dsimp only [ksm] at h
    cases h
    refine k_i2l K dL_open_6 ?_
    refine k_last K dL_open_7 kd_138 (show vpi 0 1 by decide) ?_
    refine k_goto K 14 dL_open_8 (by decide) ?_
    refine k_iconst (v := 0) K dL_open_14 (by decide) ?_
    exact k_iret (v := 0) K hret dL_open_15 (by decide) (by decide)
def fL_join (σ : kS) (x1 : Int32) (x2 : Int32) : Option (Int32 × kS) :=
  (fX1_join σ x1 x2).bind fun r =>
  ksm r.1 (fun E => if E = "java/util/NoSuchElementException" then some (1, r.2) else if E = "java/lang/IllegalArgumentException" then some (2, r.2) else if E = "java/lang/IllegalStateException" then some (3, r.2) else none) fun v => some (0, sJ r.2 138 (0 : Int32).toNatClampNeg v.toInt64)
def rmL_join : Room := { frames := 8, cells := 3, slots := 18, locals := 136 }
theorem mL_join (l : Launch) (w : kW) (σ : kS) (x1 : Int32) (x2 : Int32) {o : Int32 × kS} (h : fL_join σ x1 x2 = some o) : Met l yL_join (Cond.codeWith yL_join cL_join 5 (some .int) [(0, 10, 13, 28), (0, 10, 17, 13), (0, 10, 21, 15)] :: TB) rmL_join (va_Pc [.ref (kL w 0), .int x1, .int x2, .ref (kL w 138)] (kPL w l σ)) (kQi w o.1 o.2) 3 18 (kA w) := by
  refine k_metL (by decide) [.ref (kL w 0), .int x1, .int x2, .ref (kL w 138)] (Nat.le_of_ble_eq_true rfl) (by simp [lv_args, Value.category]) ?_
  intro p e s m args below meth c K KX KN hret htab
  have K : kC w p s m args meth c cL_join 5 RL := K
  unfold fL_join at h
  replace h := k_bd h
  obtain ⟨r, hr, h⟩ := h
  refine k_aload_n K dL_join_0 3 rfl ?_
  refine k_iconst (v := 0) K dL_join_1 (by decide) ?_
  refine k_aload_n K dL_join_2 0 rfl ?_
  refine k_iload_n K dL_join_3 1 rfl ?_
  refine k_iload_n K dL_join_4 2 rfl ?_
  refine k_callViX (As := [.int x1, .int x2]) (rest := [.int 0, .ref (kL w 138)]) (n := 2) (C := RX1) (T := TX1) K KX dL_join_5 kd_0 rfl (kg_V tw_299 tw_300 tw_301 tw_48 tw_302) rfl (by decide +kernel) rfl (by decide) (Nat.le_of_ble_eq_true rfl) rfl (by decide) (mX1_join l w σ x1 x2 hr) ⟨rfl, rfl⟩ (fun E hE => ?_) (fun v hv => ?_)
  · rw [hE] at h
    dsimp only [ksm] at h
    replace h := k_br h
    rcases h with ⟨b0, h⟩ | ⟨b0, h⟩
    · subst b0
      cases h
      refine k_catch K KX [] ⟨0, 10, 13, 28⟩ [⟨0, 10, 17, 13⟩, ⟨0, 10, 21, 15⟩] (htab.trans rfl) (fun z hz => nomatch hz) (by decide) (by decide) tw_298 (by decide +kernel) (fun q9 => ?_)
      refine k_astore (lv' := [(4, .ref q9), (0, .ref (kL w 0)), (1, .int x1), (2, .int x2), (3, .ref (kL w 138))]) K dL_join_13 (by decide) rfl ?_
      refine k_iconst (v := 1) K dL_join_15 (by decide) ?_
      exact k_iret (v := 1) K hret dL_join_16 (by decide) (by decide)
    replace h := k_br h
    rcases h with ⟨b1, h⟩ | ⟨b1, h⟩
    · subst b1
      cases h
      refine k_catch K KX [⟨0, 10, 13, 28⟩] ⟨0, 10, 17, 13⟩ [⟨0, 10, 21, 15⟩] (htab.trans rfl) (fun z hz => by
        simp only [List.mem_cons, List.not_mem_nil, or_false] at hz
        obtain rfl := hz
        exact ⟨by decide, by decide, "java/util/NoSuchElementException", tw_298, KN.2.2⟩) (by decide) (by decide) tw_165 (by decide +kernel) (fun q9 => ?_)
      refine k_astore (lv' := [(4, .ref q9), (0, .ref (kL w 0)), (1, .int x1), (2, .int x2), (3, .ref (kL w 138))]) K dL_join_17 (by decide) rfl ?_
      refine k_iconst (v := 2) K dL_join_19 (by decide) ?_
      exact k_iret (v := 2) K hret dL_join_20 (by decide) (by decide)
    replace h := k_br h
    rcases h with ⟨b2, h⟩ | ⟨b2, h⟩
    · subst b2
      cases h
      refine k_catch K KX [⟨0, 10, 13, 28⟩, ⟨0, 10, 17, 13⟩] ⟨0, 10, 21, 15⟩ [] (htab.trans rfl) (fun z hz => by
        simp only [List.mem_cons, List.not_mem_nil, or_false] at hz
        rcases hz with rfl | rfl
        · exact ⟨by decide, by decide, "java/util/NoSuchElementException", tw_298, KN.2.1⟩
        · exact ⟨by decide, by decide, "java/lang/IllegalArgumentException", tw_165, KN.1⟩) (by decide) (by decide) tw_166 (by decide +kernel) (fun q9 => ?_)
      refine k_astore (lv' := [(4, .ref q9), (0, .ref (kL w 0)), (1, .int x1), (2, .int x2), (3, .ref (kL w 138))]) K dL_join_21 (by decide) rfl ?_
      refine k_iconst (v := 3) K dL_join_23 (by decide) ?_
      exact k_iret (v := 3) K hret dL_join_24 (by decide) (by decide)
    cases h
  · rw [hv] at h
    dsimp only [ksm] at h
    cases h
    refine k_i2l K dL_join_8 ?_
    refine k_last K dL_join_9 kd_138 (show vpi 0 1 by decide) ?_
    refine k_goto K 25 dL_join_10 (by decide) ?_
    refine k_iconst (v := 0) K dL_join_25 (by decide) ?_
    exact k_iret (v := 0) K hret dL_join_26 (by decide) (by decide)
def fL_fail (σ : kS) (x1 : Int32) : Option (Int32 × kS) :=
  (fX1_fail σ x1).bind fun r =>
  ksm r.1 (fun E => if E = "java/util/NoSuchElementException" then some (1, r.2) else if E = "java/lang/IllegalStateException" then some (2, r.2) else none) fun v => some (0, sJ r.2 138 (0 : Int32).toNatClampNeg v.toInt64)
def rmL_fail : Room := { frames := 8, cells := 2, slots := 12, locals := 135 }
theorem mL_fail (l : Launch) (w : kW) (σ : kS) (x1 : Int32) {o : Int32 × kS} (h : fL_fail σ x1 = some o) : Met l yL_fail (Cond.codeWith yL_fail cL_fail 4 (some .int) [(0, 9, 12, 28), (0, 9, 15, 15)] :: TB) rmL_fail (va_Pc [.ref (kL w 0), .int x1, .ref (kL w 138)] (kPL w l σ)) (kQi w o.1 o.2) 2 12 (kA w) := by
  refine k_metL (by decide) [.ref (kL w 0), .int x1, .ref (kL w 138)] (Nat.le_of_ble_eq_true rfl) (by simp [lv_args, Value.category]) ?_
  intro p e s m args below meth c K KX KN hret htab
  have K : kC w p s m args meth c cL_fail 4 RL := K
  unfold fL_fail at h
  replace h := k_bd h
  obtain ⟨r, hr, h⟩ := h
  refine k_aload_n K dL_fail_0 2 rfl ?_
  refine k_iconst (v := 0) K dL_fail_1 (by decide) ?_
  refine k_aload_n K dL_fail_2 0 rfl ?_
  refine k_iload_n K dL_fail_3 1 rfl ?_
  refine k_callViX (As := [.int x1]) (rest := [.int 0, .ref (kL w 138)]) (n := 1) (C := RX1) (T := TX1) K KX dL_fail_4 kd_0 rfl (kg_V tw_356 tw_357 tw_358 tw_48 tw_359) rfl (by decide +kernel) rfl (by decide) (Nat.le_of_ble_eq_true rfl) rfl (by decide) (mX1_fail l w σ x1 hr) ⟨rfl, rfl⟩ (fun E hE => ?_) (fun v hv => ?_)
  · rw [hE] at h
    dsimp only [ksm] at h
    replace h := k_br h
    rcases h with ⟨b0, h⟩ | ⟨b0, h⟩
    · subst b0
      cases h
      refine k_catch K KX [] ⟨0, 9, 12, 28⟩ [⟨0, 9, 15, 15⟩] (htab.trans rfl) (fun z hz => nomatch hz) (by decide) (by decide) tw_298 (by decide +kernel) (fun q9 => ?_)
      refine k_astore_n (lv' := [(3, .ref q9), (0, .ref (kL w 0)), (1, .int x1), (2, .ref (kL w 138))]) K dL_fail_12 (by decide) rfl ?_
      refine k_iconst (v := 1) K dL_fail_13 (by decide) ?_
      exact k_iret (v := 1) K hret dL_fail_14 (by decide) (by decide)
    replace h := k_br h
    rcases h with ⟨b1, h⟩ | ⟨b1, h⟩
    · subst b1
      cases h
      refine k_catch K KX [⟨0, 9, 12, 28⟩] ⟨0, 9, 15, 15⟩ [] (htab.trans rfl) (fun z hz => by
        simp only [List.mem_cons, List.not_mem_nil, or_false] at hz
        obtain rfl := hz
        exact ⟨by decide, by decide, "java/util/NoSuchElementException", tw_298, KN.2.1⟩) (by decide) (by decide) tw_166 (by decide +kernel) (fun q9 => ?_)
      refine k_astore_n (lv' := [(3, .ref q9), (0, .ref (kL w 0)), (1, .int x1), (2, .ref (kL w 138))]) K dL_fail_15 (by decide) rfl ?_
      refine k_iconst (v := 2) K dL_fail_16 (by decide) ?_
      exact k_iret (v := 2) K hret dL_fail_17 (by decide) (by decide)
    cases h
  · rw [hv] at h
    dsimp only [ksm] at h
    cases h
    refine k_i2l K dL_fail_7 ?_
    refine k_last K dL_fail_8 kd_138 (show vpi 0 1 by decide) ?_
    refine k_goto K 18 dL_fail_9 (by decide) ?_
    refine k_iconst (v := 0) K dL_fail_18 (by decide) ?_
    exact k_iret (v := 0) K hret dL_fail_19 (by decide) (by decide)
def fL_stabilise (σ : kS) (x1 : Int32) : Option (Int32 × kS) :=
  (fX1_stabilise σ x1).bind fun r =>
  ksm r.1 (fun E => if E = "java/util/NoSuchElementException" then some (1, r.2) else none) fun v => some (0, sJ r.2 138 (0 : Int32).toNatClampNeg v.toInt64)
def rmL_stabilise : Room := { frames := 8, cells := 1, slots := 6, locals := 135 }
theorem mL_stabilise (l : Launch) (w : kW) (σ : kS) (x1 : Int32) {o : Int32 × kS} (h : fL_stabilise σ x1 = some o) : Met l yL_stabilise (Cond.codeWith yL_stabilise cL_stabilise 4 (some .int) [(0, 9, 12, 28)] :: TB) rmL_stabilise (va_Pc [.ref (kL w 0), .int x1, .ref (kL w 138)] (kPL w l σ)) (kQi w o.1 o.2) 1 6 (kA w) := by
  refine k_metL (by decide) [.ref (kL w 0), .int x1, .ref (kL w 138)] (Nat.le_of_ble_eq_true rfl) (by simp [lv_args, Value.category]) ?_
  intro p e s m args below meth c K KX KN hret htab
  have K : kC w p s m args meth c cL_stabilise 4 RL := K
  unfold fL_stabilise at h
  replace h := k_bd h
  obtain ⟨r, hr, h⟩ := h
  refine k_aload_n K dL_stabilise_0 2 rfl ?_
  refine k_iconst (v := 0) K dL_stabilise_1 (by decide) ?_
  refine k_aload_n K dL_stabilise_2 0 rfl ?_
  refine k_iload_n K dL_stabilise_3 1 rfl ?_
  refine k_callViX (As := [.int x1]) (rest := [.int 0, .ref (kL w 138)]) (n := 1) (C := RX1) (T := TX1) K KX dL_stabilise_4 kd_0 rfl (kg_V tw_373 tw_374 tw_375 tw_48 tw_376) rfl (by decide +kernel) rfl (by decide) (Nat.le_of_ble_eq_true rfl) rfl (by decide) (mX1_stabilise l w σ x1 hr) ⟨rfl, rfl⟩ (fun E hE => ?_) (fun v hv => ?_)
  · rw [hE] at h
    dsimp only [ksm] at h
    replace h := k_br h
    rcases h with ⟨b0, h⟩ | ⟨b0, h⟩
    · subst b0
      cases h
      refine k_catch K KX [] ⟨0, 9, 12, 28⟩ [] (htab.trans rfl) (fun z hz => nomatch hz) (by decide) (by decide) tw_298 (by decide +kernel) (fun q9 => ?_)
      refine k_astore_n (lv' := [(3, .ref q9), (0, .ref (kL w 0)), (1, .int x1), (2, .ref (kL w 138))]) K dL_stabilise_12 (by decide) rfl ?_
      refine k_iconst (v := 1) K dL_stabilise_13 (by decide) ?_
      exact k_iret (v := 1) K hret dL_stabilise_14 (by decide) (by decide)
    cases h
  · rw [hv] at h
    dsimp only [ksm] at h
    cases h
    refine k_i2l K dL_stabilise_7 ?_
    refine k_last K dL_stabilise_8 kd_138 (show vpi 0 1 by decide) ?_
    refine k_goto K 15 dL_stabilise_9 (by decide) ?_
    refine k_iconst (v := 0) K dL_stabilise_15 (by decide) ?_
    exact k_iret (v := 0) K hret dL_stabilise_16 (by decide) (by decide)
def fL_mend (σ : kS) (x1 : Int32) (x2 : Int32) : Option (Int32 × kS) :=
  (fX1_mend σ x1 x2).bind fun r =>
  ksm r.1 (fun E => if E = "java/util/NoSuchElementException" then some (1, r.2) else none) fun v => some (0, sJ r.2 138 (0 : Int32).toNatClampNeg v.toInt64)
def rmL_mend : Room := { frames := 8, cells := 2, slots := 12, locals := 157 }
theorem mL_mend (l : Launch) (w : kW) (σ : kS) (x1 : Int32) (x2 : Int32) {o : Int32 × kS} (h : fL_mend σ x1 x2 = some o) : Met l yL_mend (Cond.codeWith yL_mend cL_mend 5 (some .int) [(0, 10, 13, 28)] :: TB) rmL_mend (va_Pc [.ref (kL w 0), .int x1, .int x2, .ref (kL w 138)] (kPL w l σ)) (kQi w o.1 o.2) 2 12 (kA w) := by
  refine k_metL (by decide) [.ref (kL w 0), .int x1, .int x2, .ref (kL w 138)] (Nat.le_of_ble_eq_true rfl) (by simp [lv_args, Value.category]) ?_
  intro p e s m args below meth c K KX KN hret htab
  have K : kC w p s m args meth c cL_mend 5 RL := K
  unfold fL_mend at h
  replace h := k_bd h
  obtain ⟨r, hr, h⟩ := h
  refine k_aload_n K dL_mend_0 3 rfl ?_
  refine k_iconst (v := 0) K dL_mend_1 (by decide) ?_
  refine k_aload_n K dL_mend_2 0 rfl ?_
  refine k_iload_n K dL_mend_3 1 rfl ?_
  refine k_iload_n K dL_mend_4 2 rfl ?_
  refine k_callViX (As := [.int x1, .int x2]) (rest := [.int 0, .ref (kL w 138)]) (n := 2) (C := RX1) (T := TX1) K KX dL_mend_5 kd_0 rfl (kg_V tw_388 tw_389 tw_390 tw_48 tw_391) rfl (by decide +kernel) rfl (by decide) (Nat.le_of_ble_eq_true rfl) rfl (by decide) (mX1_mend l w σ x1 x2 hr) ⟨rfl, rfl⟩ (fun E hE => ?_) (fun v hv => ?_)
  · rw [hE] at h
    dsimp only [ksm] at h
    replace h := k_br h
    rcases h with ⟨b0, h⟩ | ⟨b0, h⟩
    · subst b0
      cases h
      refine k_catch K KX [] ⟨0, 10, 13, 28⟩ [] (htab.trans rfl) (fun z hz => nomatch hz) (by decide) (by decide) tw_298 (by decide +kernel) (fun q9 => ?_)
      refine k_astore (lv' := [(4, .ref q9), (0, .ref (kL w 0)), (1, .int x1), (2, .int x2), (3, .ref (kL w 138))]) K dL_mend_13 (by decide) rfl ?_
      refine k_iconst (v := 1) K dL_mend_15 (by decide) ?_
      exact k_iret (v := 1) K hret dL_mend_16 (by decide) (by decide)
    cases h
  · rw [hv] at h
    dsimp only [ksm] at h
    cases h
    refine k_i2l K dL_mend_8 ?_
    refine k_last K dL_mend_9 kd_138 (show vpi 0 1 by decide) ?_
    refine k_goto K 17 dL_mend_10 (by decide) ?_
    refine k_iconst (v := 0) K dL_mend_17 (by decide) ?_
    exact k_iret (v := 0) K hret dL_mend_18 (by decide) (by decide)
def fL_handOver (σ : kS) (x1 : Int32) : Option (Int32 × kS) :=
  (fX1_handOver σ x1).bind fun r =>
  ksm r.1 (fun E => if E = "java/util/NoSuchElementException" then some (1, r.2) else none) fun v => some (0, sJ r.2 138 (0 : Int32).toNatClampNeg v.toInt64)
def rmL_handOver : Room := { frames := 8, cells := 1, slots := 6, locals := 133 }
theorem mL_handOver (l : Launch) (w : kW) (σ : kS) (x1 : Int32) {o : Int32 × kS} (h : fL_handOver σ x1 = some o) : Met l yL_handOver (Cond.codeWith yL_handOver cL_handOver 4 (some .int) [(0, 9, 12, 28)] :: TB) rmL_handOver (va_Pc [.ref (kL w 0), .int x1, .ref (kL w 138)] (kPL w l σ)) (kQi w o.1 o.2) 1 6 (kA w) := by
  refine k_metL (by decide) [.ref (kL w 0), .int x1, .ref (kL w 138)] (Nat.le_of_ble_eq_true rfl) (by simp [lv_args, Value.category]) ?_
  intro p e s m args below meth c K KX KN hret htab
  have K : kC w p s m args meth c cL_handOver 4 RL := K
  unfold fL_handOver at h
  replace h := k_bd h
  obtain ⟨r, hr, h⟩ := h
  refine k_aload_n K dL_handOver_0 2 rfl ?_
  refine k_iconst (v := 0) K dL_handOver_1 (by decide) ?_
  refine k_aload_n K dL_handOver_2 0 rfl ?_
  refine k_iload_n K dL_handOver_3 1 rfl ?_
  refine k_callViX (As := [.int x1]) (rest := [.int 0, .ref (kL w 138)]) (n := 1) (C := RX1) (T := TX1) K KX dL_handOver_4 kd_0 rfl (kg_V tw_403 tw_404 tw_405 tw_48 tw_406) rfl (by decide +kernel) rfl (by decide) (Nat.le_of_ble_eq_true rfl) rfl (by decide) (mX1_handOver l w σ x1 hr) ⟨rfl, rfl⟩ (fun E hE => ?_) (fun v hv => ?_)
  · rw [hE] at h
    dsimp only [ksm] at h
    replace h := k_br h
    rcases h with ⟨b0, h⟩ | ⟨b0, h⟩
    · subst b0
      cases h
      refine k_catch K KX [] ⟨0, 9, 12, 28⟩ [] (htab.trans rfl) (fun z hz => nomatch hz) (by decide) (by decide) tw_298 (by decide +kernel) (fun q9 => ?_)
      refine k_astore_n (lv' := [(3, .ref q9), (0, .ref (kL w 0)), (1, .int x1), (2, .ref (kL w 138))]) K dL_handOver_12 (by decide) rfl ?_
      refine k_iconst (v := 1) K dL_handOver_13 (by decide) ?_
      exact k_iret (v := 1) K hret dL_handOver_14 (by decide) (by decide)
    cases h
  · rw [hv] at h
    dsimp only [ksm] at h
    cases h
    refine k_i2l K dL_handOver_7 ?_
    refine k_last K dL_handOver_8 kd_138 (show vpi 0 1 by decide) ?_
    refine k_goto K 15 dL_handOver_9 (by decide) ?_
    refine k_iconst (v := 0) K dL_handOver_15 (by decide) ?_
    exact k_iret (v := 0) K hret dL_handOver_16 (by decide) (by decide)
def fL_spread (σ : kS) (x1 : Int32) : Option (Int32 × kS) :=
  (fX1_spread σ x1).bind fun r =>
  ksm r.1 (fun E => if E = "java/util/NoSuchElementException" then some (1, r.2) else none) fun v => some (0, sJ r.2 138 (0 : Int32).toNatClampNeg v.toInt64)
def rmL_spread : Room := { frames := 8, cells := 1, slots := 6, locals := 133 }
theorem mL_spread (l : Launch) (w : kW) (σ : kS) (x1 : Int32) {o : Int32 × kS} (h : fL_spread σ x1 = some o) : Met l yL_spread (Cond.codeWith yL_spread cL_spread 4 (some .int) [(0, 9, 12, 28)] :: TB) rmL_spread (va_Pc [.ref (kL w 0), .int x1, .ref (kL w 138)] (kPL w l σ)) (kQi w o.1 o.2) 1 6 (kA w) := by
  refine k_metL (by decide) [.ref (kL w 0), .int x1, .ref (kL w 138)] (Nat.le_of_ble_eq_true rfl) (by simp [lv_args, Value.category]) ?_
  intro p e s m args below meth c K KX KN hret htab
  have K : kC w p s m args meth c cL_spread 4 RL := K
  unfold fL_spread at h
  replace h := k_bd h
  obtain ⟨r, hr, h⟩ := h
  refine k_aload_n K dL_spread_0 2 rfl ?_
  refine k_iconst (v := 0) K dL_spread_1 (by decide) ?_
  refine k_aload_n K dL_spread_2 0 rfl ?_
  refine k_iload_n K dL_spread_3 1 rfl ?_
  refine k_callViX (As := [.int x1]) (rest := [.int 0, .ref (kL w 138)]) (n := 1) (C := RX1) (T := TX1) K KX dL_spread_4 kd_0 rfl (kg_V tw_426 tw_427 tw_428 tw_48 tw_429) rfl (by decide +kernel) rfl (by decide) (Nat.le_of_ble_eq_true rfl) rfl (by decide) (mX1_spread l w σ x1 hr) ⟨rfl, rfl⟩ (fun E hE => ?_) (fun v hv => ?_)
  · rw [hE] at h
    dsimp only [ksm] at h
    replace h := k_br h
    rcases h with ⟨b0, h⟩ | ⟨b0, h⟩
    · subst b0
      cases h
      refine k_catch K KX [] ⟨0, 9, 12, 28⟩ [] (htab.trans rfl) (fun z hz => nomatch hz) (by decide) (by decide) tw_298 (by decide +kernel) (fun q9 => ?_)
      refine k_astore_n (lv' := [(3, .ref q9), (0, .ref (kL w 0)), (1, .int x1), (2, .ref (kL w 138))]) K dL_spread_12 (by decide) rfl ?_
      refine k_iconst (v := 1) K dL_spread_13 (by decide) ?_
      exact k_iret (v := 1) K hret dL_spread_14 (by decide) (by decide)
    cases h
  · rw [hv] at h
    dsimp only [ksm] at h
    cases h
    refine k_i2l K dL_spread_7 ?_
    refine k_last K dL_spread_8 kd_138 (show vpi 0 1 by decide) ?_
    refine k_goto K 15 dL_spread_9 (by decide) ?_
    refine k_iconst (v := 0) K dL_spread_15 (by decide) ?_
    exact k_iret (v := 0) K hret dL_spread_16 (by decide) (by decide)
def fL_rounds (σ : kS) (x1 : Int32) : Option (Int32 × kS) :=
  (fX1_rounds σ x1).bind fun r =>
  ksm r.1 (fun E => if E = "java/lang/IllegalArgumentException" then some (1, r.2) else if E = "java/lang/IllegalStateException" then some (2, r.2) else none) fun v => some (0, sJ r.2 138 (0 : Int32).toNatClampNeg v.toInt64)
def rmL_rounds : Room := { frames := 8, cells := 1, slots := 6, locals := 179 }
theorem mL_rounds (l : Launch) (w : kW) (σ : kS) (x1 : Int32) {o : Int32 × kS} (h : fL_rounds σ x1 = some o) : Met l yL_rounds (Cond.codeWith yL_rounds cL_rounds 4 (some .int) [(0, 9, 12, 13), (0, 9, 15, 15)] :: TB) rmL_rounds (va_Pc [.ref (kL w 0), .int x1, .ref (kL w 138)] (kPL w l σ)) (kQi w o.1 o.2) 1 6 (kA w) := by
  refine k_metL (by decide) [.ref (kL w 0), .int x1, .ref (kL w 138)] (Nat.le_of_ble_eq_true rfl) (by simp [lv_args, Value.category]) ?_
  intro p e s m args below meth c K KX KN hret htab
  have K : kC w p s m args meth c cL_rounds 4 RL := K
  unfold fL_rounds at h
  replace h := k_bd h
  obtain ⟨r, hr, h⟩ := h
  refine k_aload_n K dL_rounds_0 2 rfl ?_
  refine k_iconst (v := 0) K dL_rounds_1 (by decide) ?_
  refine k_aload_n K dL_rounds_2 0 rfl ?_
  refine k_iload_n K dL_rounds_3 1 rfl ?_
  refine k_callViX (As := [.int x1]) (rest := [.int 0, .ref (kL w 138)]) (n := 1) (C := RX1) (T := TX1) K KX dL_rounds_4 kd_0 rfl (kg_V tw_441 tw_442 tw_443 tw_48 tw_444) rfl (by decide +kernel) rfl (by decide) (Nat.le_of_ble_eq_true rfl) rfl (by decide) (mX1_rounds l w σ x1 hr) ⟨rfl, rfl⟩ (fun E hE => ?_) (fun v hv => ?_)
  · rw [hE] at h
    dsimp only [ksm] at h
    replace h := k_br h
    rcases h with ⟨b0, h⟩ | ⟨b0, h⟩
    · subst b0
      cases h
      refine k_catch K KX [] ⟨0, 9, 12, 13⟩ [⟨0, 9, 15, 15⟩] (htab.trans rfl) (fun z hz => nomatch hz) (by decide) (by decide) tw_165 (by decide +kernel) (fun q9 => ?_)
      refine k_astore_n (lv' := [(3, .ref q9), (0, .ref (kL w 0)), (1, .int x1), (2, .ref (kL w 138))]) K dL_rounds_12 (by decide) rfl ?_
      refine k_iconst (v := 1) K dL_rounds_13 (by decide) ?_
      exact k_iret (v := 1) K hret dL_rounds_14 (by decide) (by decide)
    replace h := k_br h
    rcases h with ⟨b1, h⟩ | ⟨b1, h⟩
    · subst b1
      cases h
      refine k_catch K KX [⟨0, 9, 12, 13⟩] ⟨0, 9, 15, 15⟩ [] (htab.trans rfl) (fun z hz => by
        simp only [List.mem_cons, List.not_mem_nil, or_false] at hz
        obtain rfl := hz
        exact ⟨by decide, by decide, "java/lang/IllegalArgumentException", tw_165, KN.1⟩) (by decide) (by decide) tw_166 (by decide +kernel) (fun q9 => ?_)
      refine k_astore_n (lv' := [(3, .ref q9), (0, .ref (kL w 0)), (1, .int x1), (2, .ref (kL w 138))]) K dL_rounds_15 (by decide) rfl ?_
      refine k_iconst (v := 2) K dL_rounds_16 (by decide) ?_
      exact k_iret (v := 2) K hret dL_rounds_17 (by decide) (by decide)
    cases h
  · rw [hv] at h
    dsimp only [ksm] at h
    cases h
    refine k_i2l K dL_rounds_7 ?_
    refine k_last K dL_rounds_8 kd_138 (show vpi 0 1 by decide) ?_
    refine k_goto K 18 dL_rounds_9 (by decide) ?_
    refine k_iconst (v := 0) K dL_rounds_18 (by decide) ?_
    exact k_iret (v := 0) K hret dL_rounds_19 (by decide) (by decide)
def fL_look (σ : kS) (x1 : Int32) (x2 : Int32) : Option (Int32 × kS) :=
  (fX1_look σ x1 x2).bind fun r =>
  ksm r.1 (fun E => if E = "java/util/NoSuchElementException" then some (1, r.2) else if E = "java/lang/IllegalArgumentException" then some (2, r.2) else none) fun v => some (0, sJ r.2 138 (0 : Int32).toNatClampNeg v.toInt64)
def rmL_look : Room := { frames := 8, cells := 2, slots := 12, locals := 136 }
theorem mL_look (l : Launch) (w : kW) (σ : kS) (x1 : Int32) (x2 : Int32) {o : Int32 × kS} (h : fL_look σ x1 x2 = some o) : Met l yL_look (Cond.codeWith yL_look cL_look 5 (some .int) [(0, 10, 13, 28), (0, 10, 17, 13)] :: TB) rmL_look (va_Pc [.ref (kL w 0), .int x1, .int x2, .ref (kL w 138)] (kPL w l σ)) (kQi w o.1 o.2) 2 12 (kA w) := by
  refine k_metL (by decide) [.ref (kL w 0), .int x1, .int x2, .ref (kL w 138)] (Nat.le_of_ble_eq_true rfl) (by simp [lv_args, Value.category]) ?_
  intro p e s m args below meth c K KX KN hret htab
  have K : kC w p s m args meth c cL_look 5 RL := K
  unfold fL_look at h
  replace h := k_bd h
  obtain ⟨r, hr, h⟩ := h
  refine k_aload_n K dL_look_0 3 rfl ?_
  refine k_iconst (v := 0) K dL_look_1 (by decide) ?_
  refine k_aload_n K dL_look_2 0 rfl ?_
  refine k_iload_n K dL_look_3 1 rfl ?_
  refine k_iload_n K dL_look_4 2 rfl ?_
  refine k_callViX (As := [.int x1, .int x2]) (rest := [.int 0, .ref (kL w 138)]) (n := 2) (C := RX1) (T := TX1) K KX dL_look_5 kd_0 rfl (kg_V tw_454 tw_455 tw_456 tw_48 tw_457) rfl (by decide +kernel) rfl (by decide) (Nat.le_of_ble_eq_true rfl) rfl (by decide) (mX1_look l w σ x1 x2 hr) ⟨rfl, rfl⟩ (fun E hE => ?_) (fun v hv => ?_)
  · rw [hE] at h
    dsimp only [ksm] at h
    replace h := k_br h
    rcases h with ⟨b0, h⟩ | ⟨b0, h⟩
    · subst b0
      cases h
      refine k_catch K KX [] ⟨0, 10, 13, 28⟩ [⟨0, 10, 17, 13⟩] (htab.trans rfl) (fun z hz => nomatch hz) (by decide) (by decide) tw_298 (by decide +kernel) (fun q9 => ?_)
      refine k_astore (lv' := [(4, .ref q9), (0, .ref (kL w 0)), (1, .int x1), (2, .int x2), (3, .ref (kL w 138))]) K dL_look_13 (by decide) rfl ?_
      refine k_iconst (v := 1) K dL_look_15 (by decide) ?_
      exact k_iret (v := 1) K hret dL_look_16 (by decide) (by decide)
    replace h := k_br h
    rcases h with ⟨b1, h⟩ | ⟨b1, h⟩
    · subst b1
      cases h
      refine k_catch K KX [⟨0, 10, 13, 28⟩] ⟨0, 10, 17, 13⟩ [] (htab.trans rfl) (fun z hz => by
        simp only [List.mem_cons, List.not_mem_nil, or_false] at hz
        obtain rfl := hz
        exact ⟨by decide, by decide, "java/util/NoSuchElementException", tw_298, KN.2.2⟩) (by decide) (by decide) tw_165 (by decide +kernel) (fun q9 => ?_)
      refine k_astore (lv' := [(4, .ref q9), (0, .ref (kL w 0)), (1, .int x1), (2, .int x2), (3, .ref (kL w 138))]) K dL_look_17 (by decide) rfl ?_
      refine k_iconst (v := 2) K dL_look_19 (by decide) ?_
      exact k_iret (v := 2) K hret dL_look_20 (by decide) (by decide)
    cases h
  · rw [hv] at h
    dsimp only [ksm] at h
    cases h
    refine k_i2l K dL_look_8 ?_
    refine k_last K dL_look_9 kd_138 (show vpi 0 1 by decide) ?_
    refine k_goto K 21 dL_look_10 (by decide) ?_
    refine k_iconst (v := 0) K dL_look_21 (by decide) ?_
    exact k_iret (v := 0) K hret dL_look_22 (by decide) (by decide)
def fL_hop (σ : kS) (x1 : Int32) : Option (Int32 × kS) :=
  (fX1_hop σ x1).bind fun r =>
  ksm r (fun E => if E = "java/util/NoSuchElementException" then some (1, σ) else none) fun v => some (0, sJ σ 138 (0 : Int32).toNatClampNeg v.toInt64)
def rmL_hop : Room := { frames := 7, cells := 1, slots := 6, locals := 111 }
theorem mL_hop (l : Launch) (w : kW) (σ : kS) (x1 : Int32) {o : Int32 × kS} (h : fL_hop σ x1 = some o) : Met l yL_hop (Cond.codeWith yL_hop cL_hop 4 (some .int) [(0, 9, 12, 28)] :: TB) rmL_hop (va_Pc [.ref (kL w 0), .int x1, .ref (kL w 138)] (kPL w l σ)) (kQi w o.1 o.2) 1 6 (kA w) := by
  refine k_metL (by decide) [.ref (kL w 0), .int x1, .ref (kL w 138)] (Nat.le_of_ble_eq_true rfl) (by simp [lv_args, Value.category]) ?_
  intro p e s m args below meth c K KX KN hret htab
  have K : kC w p s m args meth c cL_hop 4 RL := K
  unfold fL_hop at h
  replace h := k_bd h
  obtain ⟨r, hr, h⟩ := h
  refine k_aload_n K dL_hop_0 2 rfl ?_
  refine k_iconst (v := 0) K dL_hop_1 (by decide) ?_
  refine k_aload_n K dL_hop_2 0 rfl ?_
  refine k_iload_n K dL_hop_3 1 rfl ?_
  refine k_callViX (As := [.int x1]) (rest := [.int 0, .ref (kL w 138)]) (n := 1) (C := RX1) (T := TX1) K KX dL_hop_4 kd_0 rfl (kg_V tw_464 tw_465 tw_466 tw_48 tw_467) rfl (by decide +kernel) rfl (by decide) (Nat.le_of_ble_eq_true rfl) rfl (by decide) (mX1_hop l w σ x1 hr) ⟨rfl, rfl⟩ (fun E hE => ?_) (fun v hv => ?_)
  · rw [hE] at h
    dsimp only [ksm] at h
    replace h := k_br h
    rcases h with ⟨b0, h⟩ | ⟨b0, h⟩
    · subst b0
      cases h
      refine k_catch K KX [] ⟨0, 9, 12, 28⟩ [] (htab.trans rfl) (fun z hz => nomatch hz) (by decide) (by decide) tw_298 (by decide +kernel) (fun q9 => ?_)
      refine k_astore_n (lv' := [(3, .ref q9), (0, .ref (kL w 0)), (1, .int x1), (2, .ref (kL w 138))]) K dL_hop_12 (by decide) rfl ?_
      refine k_iconst (v := 1) K dL_hop_13 (by decide) ?_
      exact k_iret (v := 1) K hret dL_hop_14 (by decide) (by decide)
    cases h
  · rw [hv] at h
    dsimp only [ksm] at h
    cases h
    refine k_i2l K dL_hop_7 ?_
    refine k_last K dL_hop_8 kd_138 (show vpi 0 1 by decide) ?_
    refine k_goto K 15 dL_hop_9 (by decide) ?_
    refine k_iconst (v := 0) K dL_hop_15 (by decide) ?_
    exact k_iret (v := 0) K hret dL_hop_16 (by decide) (by decide)
def fL_put (σ : kS) (x1 : Int32) (x2 : Int32) (x3 : Int32) : Option (Int32 × kS) :=
  (fX1_put σ x1 x2 x3).bind fun r =>
  ksm r.1 (fun E => if E = "java/util/NoSuchElementException" then some (1, r.2) else if E = "java/lang/IllegalArgumentException" then some (2, r.2) else none) fun v => some (0, sJ r.2 138 (0 : Int32).toNatClampNeg v.toInt64)
def rmL_put : Room := { frames := 8, cells := 3, slots := 18, locals := 137 }
theorem mL_put (l : Launch) (w : kW) (σ : kS) (x1 : Int32) (x2 : Int32) (x3 : Int32) {o : Int32 × kS} (h : fL_put σ x1 x2 x3 = some o) : Met l yL_put (Cond.codeWith yL_put cL_put 6 (some .int) [(0, 12, 15, 28), (0, 12, 19, 13)] :: TB) rmL_put (va_Pc [.ref (kL w 0), .int x1, .int x2, .int x3, .ref (kL w 138)] (kPL w l σ)) (kQi w o.1 o.2) 3 18 (kA w) := by
  refine k_metL (by decide) [.ref (kL w 0), .int x1, .int x2, .int x3, .ref (kL w 138)] (Nat.le_of_ble_eq_true rfl) (by simp [lv_args, Value.category]) ?_
  intro p e s m args below meth c K KX KN hret htab
  have K : kC w p s m args meth c cL_put 6 RL := K
  unfold fL_put at h
  replace h := k_bd h
  obtain ⟨r, hr, h⟩ := h
  refine k_aload K dL_put_0 4 rfl ?_
  refine k_iconst (v := 0) K dL_put_2 (by decide) ?_
  refine k_aload_n K dL_put_3 0 rfl ?_
  refine k_iload_n K dL_put_4 1 rfl ?_
  refine k_iload_n K dL_put_5 2 rfl ?_
  refine k_iload_n K dL_put_6 3 rfl ?_
  refine k_callViX (As := [.int x1, .int x2, .int x3]) (rest := [.int 0, .ref (kL w 138)]) (n := 3) (C := RX1) (T := TX1) K KX dL_put_7 kd_0 rfl (kg_V tw_472 tw_473 tw_474 tw_48 tw_475) rfl (by decide +kernel) rfl (by decide) (Nat.le_of_ble_eq_true rfl) rfl (by decide) (mX1_put l w σ x1 x2 x3 hr) ⟨rfl, rfl⟩ (fun E hE => ?_) (fun v hv => ?_)
  · rw [hE] at h
    dsimp only [ksm] at h
    replace h := k_br h
    rcases h with ⟨b0, h⟩ | ⟨b0, h⟩
    · subst b0
      cases h
      refine k_catch K KX [] ⟨0, 12, 15, 28⟩ [⟨0, 12, 19, 13⟩] (htab.trans rfl) (fun z hz => nomatch hz) (by decide) (by decide) tw_298 (by decide +kernel) (fun q9 => ?_)
      refine k_astore (lv' := [(5, .ref q9), (0, .ref (kL w 0)), (1, .int x1), (2, .int x2), (3, .int x3), (4, .ref (kL w 138))]) K dL_put_15 (by decide) rfl ?_
      refine k_iconst (v := 1) K dL_put_17 (by decide) ?_
      exact k_iret (v := 1) K hret dL_put_18 (by decide) (by decide)
    replace h := k_br h
    rcases h with ⟨b1, h⟩ | ⟨b1, h⟩
    · subst b1
      cases h
      refine k_catch K KX [⟨0, 12, 15, 28⟩] ⟨0, 12, 19, 13⟩ [] (htab.trans rfl) (fun z hz => by
        simp only [List.mem_cons, List.not_mem_nil, or_false] at hz
        obtain rfl := hz
        exact ⟨by decide, by decide, "java/util/NoSuchElementException", tw_298, KN.2.2⟩) (by decide) (by decide) tw_165 (by decide +kernel) (fun q9 => ?_)
      refine k_astore (lv' := [(5, .ref q9), (0, .ref (kL w 0)), (1, .int x1), (2, .int x2), (3, .int x3), (4, .ref (kL w 138))]) K dL_put_19 (by decide) rfl ?_
      refine k_iconst (v := 2) K dL_put_21 (by decide) ?_
      exact k_iret (v := 2) K hret dL_put_22 (by decide) (by decide)
    cases h
  · rw [hv] at h
    dsimp only [ksm] at h
    cases h
    refine k_i2l K dL_put_10 ?_
    refine k_last K dL_put_11 kd_138 (show vpi 0 1 by decide) ?_
    refine k_goto K 23 dL_put_12 (by decide) ?_
    refine k_iconst (v := 0) K dL_put_23 (by decide) ?_
    exact k_iret (v := 0) K hret dL_put_24 (by decide) (by decide)
def fL_get (σ : kS) (x1 : Int32) (x2 : Int32) : Option (Int32 × kS) :=
  (fX1_get σ x1 x2).bind fun r =>
  ksm r.1 (fun E => if E = "java/util/NoSuchElementException" then some (1, r.2) else none) fun v => some (0, sJ r.2 138 (0 : Int32).toNatClampNeg v.toInt64)
def rmL_get : Room := { frames := 8, cells := 2, slots := 12, locals := 137 }
theorem mL_get (l : Launch) (w : kW) (σ : kS) (x1 : Int32) (x2 : Int32) {o : Int32 × kS} (h : fL_get σ x1 x2 = some o) : Met l yL_get (Cond.codeWith yL_get cL_get 5 (some .int) [(0, 10, 13, 28)] :: TB) rmL_get (va_Pc [.ref (kL w 0), .int x1, .int x2, .ref (kL w 138)] (kPL w l σ)) (kQi w o.1 o.2) 2 12 (kA w) := by
  refine k_metL (by decide) [.ref (kL w 0), .int x1, .int x2, .ref (kL w 138)] (Nat.le_of_ble_eq_true rfl) (by simp [lv_args, Value.category]) ?_
  intro p e s m args below meth c K KX KN hret htab
  have K : kC w p s m args meth c cL_get 5 RL := K
  unfold fL_get at h
  replace h := k_bd h
  obtain ⟨r, hr, h⟩ := h
  refine k_aload_n K dL_get_0 3 rfl ?_
  refine k_iconst (v := 0) K dL_get_1 (by decide) ?_
  refine k_aload_n K dL_get_2 0 rfl ?_
  refine k_iload_n K dL_get_3 1 rfl ?_
  refine k_iload_n K dL_get_4 2 rfl ?_
  refine k_callViX (As := [.int x1, .int x2]) (rest := [.int 0, .ref (kL w 138)]) (n := 2) (C := RX1) (T := TX1) K KX dL_get_5 kd_0 rfl (kg_V tw_484 tw_485 tw_486 tw_48 tw_487) rfl (by decide +kernel) rfl (by decide) (Nat.le_of_ble_eq_true rfl) rfl (by decide) (mX1_get l w σ x1 x2 hr) ⟨rfl, rfl⟩ (fun E hE => ?_) (fun v hv => ?_)
  · rw [hE] at h
    dsimp only [ksm] at h
    replace h := k_br h
    rcases h with ⟨b0, h⟩ | ⟨b0, h⟩
    · subst b0
      cases h
      refine k_catch K KX [] ⟨0, 10, 13, 28⟩ [] (htab.trans rfl) (fun z hz => nomatch hz) (by decide) (by decide) tw_298 (by decide +kernel) (fun q9 => ?_)
      refine k_astore (lv' := [(4, .ref q9), (0, .ref (kL w 0)), (1, .int x1), (2, .int x2), (3, .ref (kL w 138))]) K dL_get_13 (by decide) rfl ?_
      refine k_iconst (v := 1) K dL_get_15 (by decide) ?_
      exact k_iret (v := 1) K hret dL_get_16 (by decide) (by decide)
    cases h
  · rw [hv] at h
    dsimp only [ksm] at h
    cases h
    refine k_i2l K dL_get_8 ?_
    refine k_last K dL_get_9 kd_138 (show vpi 0 1 by decide) ?_
    refine k_goto K 17 dL_get_10 (by decide) ?_
    refine k_iconst (v := 0) K dL_get_17 (by decide) ?_
    exact k_iret (v := 0) K hret dL_get_18 (by decide) (by decide)
def fL_held (σ : kS) (x1 : Int32) (x2 : Int32) (x3 : Int32) : Option (Int32 × kS) :=
  (fX1_held σ x1 x2 x3).bind fun r =>
  ksm r (fun E => if E = "java/util/NoSuchElementException" then some (1, σ) else if E = "java/lang/IllegalArgumentException" then some (2, σ) else none) fun v => some (0, sJ σ 138 (0 : Int32).toNatClampNeg v.toInt64)
def rmL_held : Room := { frames := 8, cells := 3, slots := 18, locals := 136 }
theorem mL_held (l : Launch) (w : kW) (σ : kS) (x1 : Int32) (x2 : Int32) (x3 : Int32) {o : Int32 × kS} (h : fL_held σ x1 x2 x3 = some o) : Met l yL_held (Cond.codeWith yL_held cL_held 6 (some .int) [(0, 12, 15, 28), (0, 12, 19, 13)] :: TB) rmL_held (va_Pc [.ref (kL w 0), .int x1, .int x2, .int x3, .ref (kL w 138)] (kPL w l σ)) (kQi w o.1 o.2) 3 18 (kA w) := by
  refine k_metL (by decide) [.ref (kL w 0), .int x1, .int x2, .int x3, .ref (kL w 138)] (Nat.le_of_ble_eq_true rfl) (by simp [lv_args, Value.category]) ?_
  intro p e s m args below meth c K KX KN hret htab
  have K : kC w p s m args meth c cL_held 6 RL := K
  unfold fL_held at h
  replace h := k_bd h
  obtain ⟨r, hr, h⟩ := h
  refine k_aload K dL_held_0 4 rfl ?_
  refine k_iconst (v := 0) K dL_held_2 (by decide) ?_
  refine k_aload_n K dL_held_3 0 rfl ?_
  refine k_iload_n K dL_held_4 1 rfl ?_
  refine k_iload_n K dL_held_5 2 rfl ?_
  refine k_iload_n K dL_held_6 3 rfl ?_
  refine k_callViX (As := [.int x1, .int x2, .int x3]) (rest := [.int 0, .ref (kL w 138)]) (n := 3) (C := RX1) (T := TX1) K KX dL_held_7 kd_0 rfl (kg_V tw_495 tw_496 tw_497 tw_48 tw_498) rfl (by decide +kernel) rfl (by decide) (Nat.le_of_ble_eq_true rfl) rfl (by decide) (mX1_held l w σ x1 x2 x3 hr) ⟨rfl, rfl⟩ (fun E hE => ?_) (fun v hv => ?_)
  · rw [hE] at h
    dsimp only [ksm] at h
    replace h := k_br h
    rcases h with ⟨b0, h⟩ | ⟨b0, h⟩
    · subst b0
      cases h
      refine k_catch K KX [] ⟨0, 12, 15, 28⟩ [⟨0, 12, 19, 13⟩] (htab.trans rfl) (fun z hz => nomatch hz) (by decide) (by decide) tw_298 (by decide +kernel) (fun q9 => ?_)
      refine k_astore (lv' := [(5, .ref q9), (0, .ref (kL w 0)), (1, .int x1), (2, .int x2), (3, .int x3), (4, .ref (kL w 138))]) K dL_held_15 (by decide) rfl ?_
      refine k_iconst (v := 1) K dL_held_17 (by decide) ?_
      exact k_iret (v := 1) K hret dL_held_18 (by decide) (by decide)
    replace h := k_br h
    rcases h with ⟨b1, h⟩ | ⟨b1, h⟩
    · subst b1
      cases h
      refine k_catch K KX [⟨0, 12, 15, 28⟩] ⟨0, 12, 19, 13⟩ [] (htab.trans rfl) (fun z hz => by
        simp only [List.mem_cons, List.not_mem_nil, or_false] at hz
        obtain rfl := hz
        exact ⟨by decide, by decide, "java/util/NoSuchElementException", tw_298, KN.2.2⟩) (by decide) (by decide) tw_165 (by decide +kernel) (fun q9 => ?_)
      refine k_astore (lv' := [(5, .ref q9), (0, .ref (kL w 0)), (1, .int x1), (2, .int x2), (3, .int x3), (4, .ref (kL w 138))]) K dL_held_19 (by decide) rfl ?_
      refine k_iconst (v := 2) K dL_held_21 (by decide) ?_
      exact k_iret (v := 2) K hret dL_held_22 (by decide) (by decide)
    cases h
  · rw [hv] at h
    dsimp only [ksm] at h
    cases h
    refine k_i2l K dL_held_10 ?_
    refine k_last K dL_held_11 kd_138 (show vpi 0 1 by decide) ?_
    refine k_goto K 23 dL_held_12 (by decide) ?_
    refine k_iconst (v := 0) K dL_held_23 (by decide) ?_
    exact k_iret (v := 0) K hret dL_held_24 (by decide) (by decide)
def fL_known (σ : kS) (x1 : Int32) (x2 : Int32) : Option (Int32 × kS) :=
  (fX1_known σ x1 x2).bind fun r =>
  ksm r (fun E => if E = "java/util/NoSuchElementException" then some (1, σ) else none) fun v => some (0, sJ σ 138 (0 : Int32).toNatClampNeg v.toInt64)
def rmL_known : Room := { frames := 8, cells := 2, slots := 12, locals := 135 }
theorem mL_known (l : Launch) (w : kW) (σ : kS) (x1 : Int32) (x2 : Int32) {o : Int32 × kS} (h : fL_known σ x1 x2 = some o) : Met l yL_known (Cond.codeWith yL_known cL_known 5 (some .int) [(0, 10, 13, 28)] :: TB) rmL_known (va_Pc [.ref (kL w 0), .int x1, .int x2, .ref (kL w 138)] (kPL w l σ)) (kQi w o.1 o.2) 2 12 (kA w) := by
  refine k_metL (by decide) [.ref (kL w 0), .int x1, .int x2, .ref (kL w 138)] (Nat.le_of_ble_eq_true rfl) (by simp [lv_args, Value.category]) ?_
  intro p e s m args below meth c K KX KN hret htab
  have K : kC w p s m args meth c cL_known 5 RL := K
  unfold fL_known at h
  replace h := k_bd h
  obtain ⟨r, hr, h⟩ := h
  refine k_aload_n K dL_known_0 3 rfl ?_
  refine k_iconst (v := 0) K dL_known_1 (by decide) ?_
  refine k_aload_n K dL_known_2 0 rfl ?_
  refine k_iload_n K dL_known_3 1 rfl ?_
  refine k_iload_n K dL_known_4 2 rfl ?_
  refine k_callViX (As := [.int x1, .int x2]) (rest := [.int 0, .ref (kL w 138)]) (n := 2) (C := RX1) (T := TX1) K KX dL_known_5 kd_0 rfl (kg_V tw_503 tw_504 tw_505 tw_48 tw_506) rfl (by decide +kernel) rfl (by decide) (Nat.le_of_ble_eq_true rfl) rfl (by decide) (mX1_known l w σ x1 x2 hr) ⟨rfl, rfl⟩ (fun E hE => ?_) (fun v hv => ?_)
  · rw [hE] at h
    dsimp only [ksm] at h
    replace h := k_br h
    rcases h with ⟨b0, h⟩ | ⟨b0, h⟩
    · subst b0
      cases h
      refine k_catch K KX [] ⟨0, 10, 13, 28⟩ [] (htab.trans rfl) (fun z hz => nomatch hz) (by decide) (by decide) tw_298 (by decide +kernel) (fun q9 => ?_)
      refine k_astore (lv' := [(4, .ref q9), (0, .ref (kL w 0)), (1, .int x1), (2, .int x2), (3, .ref (kL w 138))]) K dL_known_13 (by decide) rfl ?_
      refine k_iconst (v := 1) K dL_known_15 (by decide) ?_
      exact k_iret (v := 1) K hret dL_known_16 (by decide) (by decide)
    cases h
  · rw [hv] at h
    dsimp only [ksm] at h
    cases h
    refine k_i2l K dL_known_8 ?_
    refine k_last K dL_known_9 kd_138 (show vpi 0 1 by decide) ?_
    refine k_goto K 17 dL_known_10 (by decide) ?_
    refine k_iconst (v := 0) K dL_known_17 (by decide) ?_
    exact k_iret (v := 0) K hret dL_known_18 (by decide) (by decide)
def fL_owner (σ : kS) (x1 : Int32) : Option (Int32 × kS) :=
  (fX1_owner σ x1).bind fun r =>
  ksm r (fun E => if E = "java/lang/IllegalArgumentException" then some (1, σ) else none) fun v => some (0, sJ σ 138 (0 : Int32).toNatClampNeg v.toInt64)
def rmL_owner : Room := { frames := 8, cells := 1, slots := 6, locals := 131 }
theorem mL_owner (l : Launch) (w : kW) (σ : kS) (x1 : Int32) {o : Int32 × kS} (h : fL_owner σ x1 = some o) : Met l yL_owner (Cond.codeWith yL_owner cL_owner 4 (some .int) [(0, 9, 12, 13)] :: TB) rmL_owner (va_Pc [.ref (kL w 0), .int x1, .ref (kL w 138)] (kPL w l σ)) (kQi w o.1 o.2) 1 6 (kA w) := by
  refine k_metL (by decide) [.ref (kL w 0), .int x1, .ref (kL w 138)] (Nat.le_of_ble_eq_true rfl) (by simp [lv_args, Value.category]) ?_
  intro p e s m args below meth c K KX KN hret htab
  have K : kC w p s m args meth c cL_owner 4 RL := K
  unfold fL_owner at h
  replace h := k_bd h
  obtain ⟨r, hr, h⟩ := h
  refine k_aload_n K dL_owner_0 2 rfl ?_
  refine k_iconst (v := 0) K dL_owner_1 (by decide) ?_
  refine k_aload_n K dL_owner_2 0 rfl ?_
  refine k_iload_n K dL_owner_3 1 rfl ?_
  refine k_callViX (As := [.int x1]) (rest := [.int 0, .ref (kL w 138)]) (n := 1) (C := RX1) (T := TX1) K KX dL_owner_4 kd_0 rfl (kg_V tw_511 tw_512 tw_513 tw_48 tw_514) rfl (by decide +kernel) rfl (by decide) (Nat.le_of_ble_eq_true rfl) rfl (by decide) (mX1_owner l w σ x1 hr) ⟨rfl, rfl⟩ (fun E hE => ?_) (fun v hv => ?_)
  · rw [hE] at h
    dsimp only [ksm] at h
    replace h := k_br h
    rcases h with ⟨b0, h⟩ | ⟨b0, h⟩
    · subst b0
      cases h
      refine k_catch K KX [] ⟨0, 9, 12, 13⟩ [] (htab.trans rfl) (fun z hz => nomatch hz) (by decide) (by decide) tw_165 (by decide +kernel) (fun q9 => ?_)
      refine k_astore_n (lv' := [(3, .ref q9), (0, .ref (kL w 0)), (1, .int x1), (2, .ref (kL w 138))]) K dL_owner_12 (by decide) rfl ?_
      refine k_iconst (v := 1) K dL_owner_13 (by decide) ?_
      exact k_iret (v := 1) K hret dL_owner_14 (by decide) (by decide)
    cases h
  · rw [hv] at h
    dsimp only [ksm] at h
    cases h
    refine k_i2l K dL_owner_7 ?_
    refine k_last K dL_owner_8 kd_138 (show vpi 0 1 by decide) ?_
    refine k_goto K 15 dL_owner_9 (by decide) ?_
    refine k_iconst (v := 0) K dL_owner_15 (by decide) ?_
    exact k_iret (v := 0) K hret dL_owner_16 (by decide) (by decide)
def fL_count (σ : kS) (x1 : Int32) : Option (Int32 × kS) :=
  (fX1_count σ x1).bind fun r =>
  ksm r (fun E => if E = "java/lang/IllegalArgumentException" then some (1, σ) else none) fun v => some (0, sJ σ 138 (0 : Int32).toNatClampNeg v.toInt64)
def rmL_count : Room := { frames := 7, cells := 1, slots := 6, locals := 111 }
theorem mL_count (l : Launch) (w : kW) (σ : kS) (x1 : Int32) {o : Int32 × kS} (h : fL_count σ x1 = some o) : Met l yL_count (Cond.codeWith yL_count cL_count 4 (some .int) [(0, 9, 12, 13)] :: TB) rmL_count (va_Pc [.ref (kL w 0), .int x1, .ref (kL w 138)] (kPL w l σ)) (kQi w o.1 o.2) 1 6 (kA w) := by
  refine k_metL (by decide) [.ref (kL w 0), .int x1, .ref (kL w 138)] (Nat.le_of_ble_eq_true rfl) (by simp [lv_args, Value.category]) ?_
  intro p e s m args below meth c K KX KN hret htab
  have K : kC w p s m args meth c cL_count 4 RL := K
  unfold fL_count at h
  replace h := k_bd h
  obtain ⟨r, hr, h⟩ := h
  refine k_aload_n K dL_count_0 2 rfl ?_
  refine k_iconst (v := 0) K dL_count_1 (by decide) ?_
  refine k_aload_n K dL_count_2 0 rfl ?_
  refine k_iload_n K dL_count_3 1 rfl ?_
  refine k_callViX (As := [.int x1]) (rest := [.int 0, .ref (kL w 138)]) (n := 1) (C := RX1) (T := TX1) K KX dL_count_4 kd_0 rfl (kg_V tw_522 tw_523 tw_524 tw_48 tw_525) rfl (by decide +kernel) rfl (by decide) (Nat.le_of_ble_eq_true rfl) rfl (by decide) (mX1_count l w σ x1 hr) ⟨rfl, rfl⟩ (fun E hE => ?_) (fun v hv => ?_)
  · rw [hE] at h
    dsimp only [ksm] at h
    replace h := k_br h
    rcases h with ⟨b0, h⟩ | ⟨b0, h⟩
    · subst b0
      cases h
      refine k_catch K KX [] ⟨0, 9, 12, 13⟩ [] (htab.trans rfl) (fun z hz => nomatch hz) (by decide) (by decide) tw_165 (by decide +kernel) (fun q9 => ?_)
      refine k_astore_n (lv' := [(3, .ref q9), (0, .ref (kL w 0)), (1, .int x1), (2, .ref (kL w 138))]) K dL_count_12 (by decide) rfl ?_
      refine k_iconst (v := 1) K dL_count_13 (by decide) ?_
      exact k_iret (v := 1) K hret dL_count_14 (by decide) (by decide)
    cases h
  · rw [hv] at h
    dsimp only [ksm] at h
    cases h
    refine k_i2l K dL_count_7 ?_
    refine k_last K dL_count_8 kd_138 (show vpi 0 1 by decide) ?_
    refine k_goto K 15 dL_count_9 (by decide) ?_
    refine k_iconst (v := 0) K dL_count_15 (by decide) ?_
    exact k_iret (v := 0) K hret dL_count_16 (by decide) (by decide)
