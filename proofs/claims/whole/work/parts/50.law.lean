theorem tw_47 : (.initialized RL : Cond) ∈ TB := tb_in (i := 47) (by decide +kernel) (by decide +kernel)
theorem tw_147 : (.methodLink RL 137 yX1_ideal : Cond) ∈ TB := tb_in (i := 147) (by decide +kernel) (by decide +kernel)
theorem tw_148 : (.instanceMethod yX1_ideal : Cond) ∈ TB := tb_in (i := 148) (by decide +kernel) (by decide +kernel)
theorem tw_149 : (.selects RX1 yX1_ideal yX1_ideal : Cond) ∈ TB := tb_in (i := 149) (by decide +kernel) (by decide +kernel)
theorem tw_150 : (.code yX1_ideal cX1_ideal 2 (some .boolean) : Cond) ∈ TB := tb_in (i := 150) (by decide +kernel) (by decide +kernel)
theorem tw_162 : (.methodLink RL 77 yL_depth : Cond) ∈ TB := tb_in (i := 162) (by decide +kernel) (by decide +kernel)
theorem tw_163 : (.static yL_depth : Cond) ∈ TB := tb_in (i := 163) (by decide +kernel) (by decide +kernel)
theorem tw_164 : (.codeWith yL_depth cL_depth 4 (some .int) [(0, 9, 12, 13), (0, 9, 15, 15)] : Cond) ∈ TB := tb_in (i := 164) (by decide +kernel) (by decide +kernel)
theorem tw_255 : (.methodLink RL 86 yL_found : Cond) ∈ TB := tb_in (i := 255) (by decide +kernel) (by decide +kernel)
theorem tw_256 : (.static yL_found : Cond) ∈ TB := tb_in (i := 256) (by decide +kernel) (by decide +kernel)
theorem tw_257 : (.codeWith yL_found cL_found 4 (some .int) [(0, 9, 12, 13), (0, 9, 15, 15)] : Cond) ∈ TB := tb_in (i := 257) (by decide +kernel) (by decide +kernel)
theorem tw_287 : (.methodLink RL 89 yL_open : Cond) ∈ TB := tb_in (i := 287) (by decide +kernel) (by decide +kernel)
theorem tw_288 : (.static yL_open : Cond) ∈ TB := tb_in (i := 288) (by decide +kernel) (by decide +kernel)
theorem tw_289 : (.codeWith yL_open cL_open 3 (some .int) [(0, 8, 11, 15)] : Cond) ∈ TB := tb_in (i := 289) (by decide +kernel) (by decide +kernel)
theorem tw_295 : (.methodLink RL 93 yL_join : Cond) ∈ TB := tb_in (i := 295) (by decide +kernel) (by decide +kernel)
theorem tw_296 : (.static yL_join : Cond) ∈ TB := tb_in (i := 296) (by decide +kernel) (by decide +kernel)
theorem tw_297 : (.codeWith yL_join cL_join 5 (some .int) [(0, 10, 13, 28), (0, 10, 17, 13), (0, 10, 21, 15)] : Cond) ∈ TB := tb_in (i := 297) (by decide +kernel) (by decide +kernel)
theorem tw_353 : (.methodLink RL 97 yL_fail : Cond) ∈ TB := tb_in (i := 353) (by decide +kernel) (by decide +kernel)
theorem tw_354 : (.static yL_fail : Cond) ∈ TB := tb_in (i := 354) (by decide +kernel) (by decide +kernel)
theorem tw_355 : (.codeWith yL_fail cL_fail 4 (some .int) [(0, 9, 12, 28), (0, 9, 15, 15)] : Cond) ∈ TB := tb_in (i := 355) (by decide +kernel) (by decide +kernel)
theorem tw_370 : (.methodLink RL 100 yL_stabilise : Cond) ∈ TB := tb_in (i := 370) (by decide +kernel) (by decide +kernel)
theorem tw_371 : (.static yL_stabilise : Cond) ∈ TB := tb_in (i := 371) (by decide +kernel) (by decide +kernel)
theorem tw_372 : (.codeWith yL_stabilise cL_stabilise 4 (some .int) [(0, 9, 12, 28)] : Cond) ∈ TB := tb_in (i := 372) (by decide +kernel) (by decide +kernel)
theorem tw_385 : (.methodLink RL 103 yL_mend : Cond) ∈ TB := tb_in (i := 385) (by decide +kernel) (by decide +kernel)
theorem tw_386 : (.static yL_mend : Cond) ∈ TB := tb_in (i := 386) (by decide +kernel) (by decide +kernel)
theorem tw_387 : (.codeWith yL_mend cL_mend 5 (some .int) [(0, 10, 13, 28)] : Cond) ∈ TB := tb_in (i := 387) (by decide +kernel) (by decide +kernel)
theorem tw_400 : (.methodLink RL 106 yL_handOver : Cond) ∈ TB := tb_in (i := 400) (by decide +kernel) (by decide +kernel)
theorem tw_401 : (.static yL_handOver : Cond) ∈ TB := tb_in (i := 401) (by decide +kernel) (by decide +kernel)
theorem tw_402 : (.codeWith yL_handOver cL_handOver 4 (some .int) [(0, 9, 12, 28)] : Cond) ∈ TB := tb_in (i := 402) (by decide +kernel) (by decide +kernel)
theorem tw_423 : (.methodLink RL 109 yL_spread : Cond) ∈ TB := tb_in (i := 423) (by decide +kernel) (by decide +kernel)
theorem tw_424 : (.static yL_spread : Cond) ∈ TB := tb_in (i := 424) (by decide +kernel) (by decide +kernel)
theorem tw_425 : (.codeWith yL_spread cL_spread 4 (some .int) [(0, 9, 12, 28)] : Cond) ∈ TB := tb_in (i := 425) (by decide +kernel) (by decide +kernel)
theorem tw_438 : (.methodLink RL 112 yL_rounds : Cond) ∈ TB := tb_in (i := 438) (by decide +kernel) (by decide +kernel)
theorem tw_439 : (.static yL_rounds : Cond) ∈ TB := tb_in (i := 439) (by decide +kernel) (by decide +kernel)
theorem tw_440 : (.codeWith yL_rounds cL_rounds 4 (some .int) [(0, 9, 12, 13), (0, 9, 15, 15)] : Cond) ∈ TB := tb_in (i := 440) (by decide +kernel) (by decide +kernel)
theorem tw_451 : (.methodLink RL 115 yL_look : Cond) ∈ TB := tb_in (i := 451) (by decide +kernel) (by decide +kernel)
theorem tw_452 : (.static yL_look : Cond) ∈ TB := tb_in (i := 452) (by decide +kernel) (by decide +kernel)
theorem tw_453 : (.codeWith yL_look cL_look 5 (some .int) [(0, 10, 13, 28), (0, 10, 17, 13)] : Cond) ∈ TB := tb_in (i := 453) (by decide +kernel) (by decide +kernel)
theorem tw_461 : (.methodLink RL 118 yL_hop : Cond) ∈ TB := tb_in (i := 461) (by decide +kernel) (by decide +kernel)
theorem tw_462 : (.static yL_hop : Cond) ∈ TB := tb_in (i := 462) (by decide +kernel) (by decide +kernel)
theorem tw_463 : (.codeWith yL_hop cL_hop 4 (some .int) [(0, 9, 12, 28)] : Cond) ∈ TB := tb_in (i := 463) (by decide +kernel) (by decide +kernel)
theorem tw_469 : (.methodLink RL 121 yL_put : Cond) ∈ TB := tb_in (i := 469) (by decide +kernel) (by decide +kernel)
theorem tw_470 : (.static yL_put : Cond) ∈ TB := tb_in (i := 470) (by decide +kernel) (by decide +kernel)
theorem tw_471 : (.codeWith yL_put cL_put 6 (some .int) [(0, 12, 15, 28), (0, 12, 19, 13)] : Cond) ∈ TB := tb_in (i := 471) (by decide +kernel) (by decide +kernel)
theorem tw_481 : (.methodLink RL 125 yL_get : Cond) ∈ TB := tb_in (i := 481) (by decide +kernel) (by decide +kernel)
theorem tw_482 : (.static yL_get : Cond) ∈ TB := tb_in (i := 482) (by decide +kernel) (by decide +kernel)
theorem tw_483 : (.codeWith yL_get cL_get 5 (some .int) [(0, 10, 13, 28)] : Cond) ∈ TB := tb_in (i := 483) (by decide +kernel) (by decide +kernel)
theorem tw_492 : (.methodLink RL 128 yL_held : Cond) ∈ TB := tb_in (i := 492) (by decide +kernel) (by decide +kernel)
theorem tw_493 : (.static yL_held : Cond) ∈ TB := tb_in (i := 493) (by decide +kernel) (by decide +kernel)
theorem tw_494 : (.codeWith yL_held cL_held 6 (some .int) [(0, 12, 15, 28), (0, 12, 19, 13)] : Cond) ∈ TB := tb_in (i := 494) (by decide +kernel) (by decide +kernel)
theorem tw_500 : (.methodLink RL 131 yL_known : Cond) ∈ TB := tb_in (i := 500) (by decide +kernel) (by decide +kernel)
theorem tw_501 : (.static yL_known : Cond) ∈ TB := tb_in (i := 501) (by decide +kernel) (by decide +kernel)
theorem tw_502 : (.codeWith yL_known cL_known 5 (some .int) [(0, 10, 13, 28)] : Cond) ∈ TB := tb_in (i := 502) (by decide +kernel) (by decide +kernel)
theorem tw_508 : (.methodLink RL 134 yL_owner : Cond) ∈ TB := tb_in (i := 508) (by decide +kernel) (by decide +kernel)
theorem tw_509 : (.static yL_owner : Cond) ∈ TB := tb_in (i := 509) (by decide +kernel) (by decide +kernel)
theorem tw_510 : (.codeWith yL_owner cL_owner 4 (some .int) [(0, 9, 12, 13)] : Cond) ∈ TB := tb_in (i := 510) (by decide +kernel) (by decide +kernel)
theorem tw_519 : (.methodLink RL 142 yL_count : Cond) ∈ TB := tb_in (i := 519) (by decide +kernel) (by decide +kernel)
theorem tw_520 : (.static yL_count : Cond) ∈ TB := tb_in (i := 520) (by decide +kernel) (by decide +kernel)
theorem tw_521 : (.codeWith yL_count cL_count 4 (some .int) [(0, 9, 12, 13)] : Cond) ∈ TB := tb_in (i := 521) (by decide +kernel) (by decide +kernel)
theorem tw_597 : (.methodLink RL 83 yX2_thrown : Cond) ∈ TB := tb_in (i := 597) (by decide +kernel) (by decide +kernel)
theorem tw_598 : (.instanceMethod yX2_thrown : Cond) ∈ TB := tb_in (i := 598) (by decide +kernel) (by decide +kernel)
theorem tw_599 : (.selects RX2 yX2_thrown yX2_thrown : Cond) ∈ TB := tb_in (i := 599) (by decide +kernel) (by decide +kernel)
theorem tw_600 : (.code yX2_thrown cX2_thrown 1 (some .int) : Cond) ∈ TB := tb_in (i := 600) (by decide +kernel) (by decide +kernel)
theorem tw_601 : (.methodLink RL 82 yX2_depth : Cond) ∈ TB := tb_in (i := 601) (by decide +kernel) (by decide +kernel)
theorem tw_602 : (.instanceMethod yX2_depth : Cond) ∈ TB := tb_in (i := 602) (by decide +kernel) (by decide +kernel)
theorem tw_603 : (.selects RX2 yX2_depth yX2_depth : Cond) ∈ TB := tb_in (i := 603) (by decide +kernel) (by decide +kernel)
theorem tw_604 : (.code yX2_depth cX2_depth 3 (some .int) : Cond) ∈ TB := tb_in (i := 604) (by decide +kernel) (by decide +kernel)
theorem tw_613 : (.methodLink RL 88 yX2_found : Cond) ∈ TB := tb_in (i := 613) (by decide +kernel) (by decide +kernel)
theorem tw_614 : (.instanceMethod yX2_found : Cond) ∈ TB := tb_in (i := 614) (by decide +kernel) (by decide +kernel)
theorem tw_615 : (.selects RX2 yX2_found yX2_found : Cond) ∈ TB := tb_in (i := 615) (by decide +kernel) (by decide +kernel)
theorem tw_616 : (.code yX2_found cX2_found 2 (some .int) : Cond) ∈ TB := tb_in (i := 616) (by decide +kernel) (by decide +kernel)
theorem tw_620 : (.methodLink RL 92 yX2_open : Cond) ∈ TB := tb_in (i := 620) (by decide +kernel) (by decide +kernel)
theorem tw_621 : (.instanceMethod yX2_open : Cond) ∈ TB := tb_in (i := 621) (by decide +kernel) (by decide +kernel)
theorem tw_622 : (.selects RX2 yX2_open yX2_open : Cond) ∈ TB := tb_in (i := 622) (by decide +kernel) (by decide +kernel)
theorem tw_623 : (.code yX2_open cX2_open 4 (some .int) : Cond) ∈ TB := tb_in (i := 623) (by decide +kernel) (by decide +kernel)
theorem tw_636 : (.methodLink RL 96 yX2_join : Cond) ∈ TB := tb_in (i := 636) (by decide +kernel) (by decide +kernel)
theorem tw_637 : (.instanceMethod yX2_join : Cond) ∈ TB := tb_in (i := 637) (by decide +kernel) (by decide +kernel)
theorem tw_638 : (.selects RX2 yX2_join yX2_join : Cond) ∈ TB := tb_in (i := 638) (by decide +kernel) (by decide +kernel)
theorem tw_639 : (.code yX2_join cX2_join 4 (some .int) : Cond) ∈ TB := tb_in (i := 639) (by decide +kernel) (by decide +kernel)
theorem tw_670 : (.methodLink RL 99 yX2_fail : Cond) ∈ TB := tb_in (i := 670) (by decide +kernel) (by decide +kernel)
theorem tw_671 : (.instanceMethod yX2_fail : Cond) ∈ TB := tb_in (i := 671) (by decide +kernel) (by decide +kernel)
theorem tw_672 : (.selects RX2 yX2_fail yX2_fail : Cond) ∈ TB := tb_in (i := 672) (by decide +kernel) (by decide +kernel)
theorem tw_673 : (.code yX2_fail cX2_fail 3 (some .int) : Cond) ∈ TB := tb_in (i := 673) (by decide +kernel) (by decide +kernel)
theorem tw_678 : (.methodLink RL 102 yX2_stabilise : Cond) ∈ TB := tb_in (i := 678) (by decide +kernel) (by decide +kernel)
theorem tw_679 : (.instanceMethod yX2_stabilise : Cond) ∈ TB := tb_in (i := 679) (by decide +kernel) (by decide +kernel)
theorem tw_680 : (.selects RX2 yX2_stabilise yX2_stabilise : Cond) ∈ TB := tb_in (i := 680) (by decide +kernel) (by decide +kernel)
theorem tw_681 : (.code yX2_stabilise cX2_stabilise 2 (some .int) : Cond) ∈ TB := tb_in (i := 681) (by decide +kernel) (by decide +kernel)
theorem tw_686 : (.methodLink RL 105 yX2_mend : Cond) ∈ TB := tb_in (i := 686) (by decide +kernel) (by decide +kernel)
theorem tw_687 : (.instanceMethod yX2_mend : Cond) ∈ TB := tb_in (i := 687) (by decide +kernel) (by decide +kernel)
theorem tw_688 : (.selects RX2 yX2_mend yX2_mend : Cond) ∈ TB := tb_in (i := 688) (by decide +kernel) (by decide +kernel)
theorem tw_689 : (.code yX2_mend cX2_mend 3 (some .int) : Cond) ∈ TB := tb_in (i := 689) (by decide +kernel) (by decide +kernel)
theorem tw_694 : (.methodLink RL 108 yX2_handOver : Cond) ∈ TB := tb_in (i := 694) (by decide +kernel) (by decide +kernel)
theorem tw_695 : (.instanceMethod yX2_handOver : Cond) ∈ TB := tb_in (i := 695) (by decide +kernel) (by decide +kernel)
theorem tw_696 : (.selects RX2 yX2_handOver yX2_handOver : Cond) ∈ TB := tb_in (i := 696) (by decide +kernel) (by decide +kernel)
theorem tw_697 : (.code yX2_handOver cX2_handOver 2 (some .int) : Cond) ∈ TB := tb_in (i := 697) (by decide +kernel) (by decide +kernel)
theorem tw_717 : (.methodLink RL 111 yX2_spread : Cond) ∈ TB := tb_in (i := 717) (by decide +kernel) (by decide +kernel)
theorem tw_718 : (.instanceMethod yX2_spread : Cond) ∈ TB := tb_in (i := 718) (by decide +kernel) (by decide +kernel)
theorem tw_719 : (.selects RX2 yX2_spread yX2_spread : Cond) ∈ TB := tb_in (i := 719) (by decide +kernel) (by decide +kernel)
theorem tw_720 : (.code yX2_spread cX2_spread 2 (some .int) : Cond) ∈ TB := tb_in (i := 720) (by decide +kernel) (by decide +kernel)
theorem tw_729 : (.methodLink RL 114 yX2_rounds : Cond) ∈ TB := tb_in (i := 729) (by decide +kernel) (by decide +kernel)
theorem tw_730 : (.instanceMethod yX2_rounds : Cond) ∈ TB := tb_in (i := 730) (by decide +kernel) (by decide +kernel)
theorem tw_731 : (.selects RX2 yX2_rounds yX2_rounds : Cond) ∈ TB := tb_in (i := 731) (by decide +kernel) (by decide +kernel)
theorem tw_732 : (.code yX2_rounds cX2_rounds 7 (some .int) : Cond) ∈ TB := tb_in (i := 732) (by decide +kernel) (by decide +kernel)
theorem tw_733 : (.methodLink RL 117 yX2_look : Cond) ∈ TB := tb_in (i := 733) (by decide +kernel) (by decide +kernel)
theorem tw_734 : (.instanceMethod yX2_look : Cond) ∈ TB := tb_in (i := 734) (by decide +kernel) (by decide +kernel)
theorem tw_735 : (.selects RX2 yX2_look yX2_look : Cond) ∈ TB := tb_in (i := 735) (by decide +kernel) (by decide +kernel)
theorem tw_736 : (.code yX2_look cX2_look 5 (some .int) : Cond) ∈ TB := tb_in (i := 736) (by decide +kernel) (by decide +kernel)
theorem tw_737 : (.methodLink RL 120 yX2_hop : Cond) ∈ TB := tb_in (i := 737) (by decide +kernel) (by decide +kernel)
theorem tw_738 : (.instanceMethod yX2_hop : Cond) ∈ TB := tb_in (i := 738) (by decide +kernel) (by decide +kernel)
theorem tw_739 : (.selects RX2 yX2_hop yX2_hop : Cond) ∈ TB := tb_in (i := 739) (by decide +kernel) (by decide +kernel)
theorem tw_740 : (.code yX2_hop cX2_hop 2 (some .int) : Cond) ∈ TB := tb_in (i := 740) (by decide +kernel) (by decide +kernel)
theorem tw_741 : (.methodLink RL 124 yX2_put : Cond) ∈ TB := tb_in (i := 741) (by decide +kernel) (by decide +kernel)
theorem tw_742 : (.instanceMethod yX2_put : Cond) ∈ TB := tb_in (i := 742) (by decide +kernel) (by decide +kernel)
theorem tw_743 : (.selects RX2 yX2_put yX2_put : Cond) ∈ TB := tb_in (i := 743) (by decide +kernel) (by decide +kernel)
theorem tw_744 : (.code yX2_put cX2_put 7 (some .int) : Cond) ∈ TB := tb_in (i := 744) (by decide +kernel) (by decide +kernel)
theorem tw_748 : (.methodLink RL 127 yX2_get : Cond) ∈ TB := tb_in (i := 748) (by decide +kernel) (by decide +kernel)
theorem tw_749 : (.instanceMethod yX2_get : Cond) ∈ TB := tb_in (i := 749) (by decide +kernel) (by decide +kernel)
theorem tw_750 : (.selects RX2 yX2_get yX2_get : Cond) ∈ TB := tb_in (i := 750) (by decide +kernel) (by decide +kernel)
theorem tw_751 : (.code yX2_get cX2_get 8 (some .int) : Cond) ∈ TB := tb_in (i := 751) (by decide +kernel) (by decide +kernel)
theorem tw_752 : (.methodLink RL 130 yX2_held : Cond) ∈ TB := tb_in (i := 752) (by decide +kernel) (by decide +kernel)
theorem tw_753 : (.instanceMethod yX2_held : Cond) ∈ TB := tb_in (i := 753) (by decide +kernel) (by decide +kernel)
theorem tw_754 : (.selects RX2 yX2_held yX2_held : Cond) ∈ TB := tb_in (i := 754) (by decide +kernel) (by decide +kernel)
theorem tw_755 : (.code yX2_held cX2_held 5 (some .int) : Cond) ∈ TB := tb_in (i := 755) (by decide +kernel) (by decide +kernel)
theorem tw_756 : (.methodLink RL 133 yX2_known : Cond) ∈ TB := tb_in (i := 756) (by decide +kernel) (by decide +kernel)
theorem tw_757 : (.instanceMethod yX2_known : Cond) ∈ TB := tb_in (i := 757) (by decide +kernel) (by decide +kernel)
theorem tw_758 : (.selects RX2 yX2_known yX2_known : Cond) ∈ TB := tb_in (i := 758) (by decide +kernel) (by decide +kernel)
theorem tw_759 : (.code yX2_known cX2_known 3 (some .int) : Cond) ∈ TB := tb_in (i := 759) (by decide +kernel) (by decide +kernel)
theorem tw_760 : (.methodLink RL 136 yX2_owner : Cond) ∈ TB := tb_in (i := 760) (by decide +kernel) (by decide +kernel)
theorem tw_761 : (.instanceMethod yX2_owner : Cond) ∈ TB := tb_in (i := 761) (by decide +kernel) (by decide +kernel)
theorem tw_762 : (.selects RX2 yX2_owner yX2_owner : Cond) ∈ TB := tb_in (i := 762) (by decide +kernel) (by decide +kernel)
theorem tw_763 : (.code yX2_owner cX2_owner 2 (some .int) : Cond) ∈ TB := tb_in (i := 763) (by decide +kernel) (by decide +kernel)
theorem tw_764 : (.methodLink RL 141 yX2_ideal : Cond) ∈ TB := tb_in (i := 764) (by decide +kernel) (by decide +kernel)
theorem tw_765 : (.instanceMethod yX2_ideal : Cond) ∈ TB := tb_in (i := 765) (by decide +kernel) (by decide +kernel)
theorem tw_766 : (.selects RX2 yX2_ideal yX2_ideal : Cond) ∈ TB := tb_in (i := 766) (by decide +kernel) (by decide +kernel)
theorem tw_767 : (.code yX2_ideal cX2_ideal 5 (some .boolean) : Cond) ∈ TB := tb_in (i := 767) (by decide +kernel) (by decide +kernel)
theorem tw_768 : (.methodLink RL 144 yX2_count : Cond) ∈ TB := tb_in (i := 768) (by decide +kernel) (by decide +kernel)
theorem tw_769 : (.instanceMethod yX2_count : Cond) ∈ TB := tb_in (i := 769) (by decide +kernel) (by decide +kernel)
theorem tw_770 : (.selects RX2 yX2_count yX2_count : Cond) ∈ TB := tb_in (i := 770) (by decide +kernel) (by decide +kernel)
theorem tw_771 : (.code yX2_count cX2_count 2 (some .int) : Cond) ∈ TB := tb_in (i := 771) (by decide +kernel) (by decide +kernel)
theorem k_gt4 {i L : Nat} (hL : L ≤ 2048) (hi : i ≤ 2048) (h : L < i + 4) : nI L - 4 < nI i := by
  apply Int32.lt_iff_toInt_lt.mpr
  have e : (nI L - 4).toInt = (L : Int) - 4 := pk_sub_toInt (a := L) (b := 4) (by omega) (by decide)
  rw [e, nI_toInt (by omega)]
  omega
theorem k_ngt4 {i L : Nat} (hL : L ≤ 2048) (h : i + 4 ≤ L) : ¬ nI L - 4 < nI i := by
  intro q
  have q := Int32.lt_iff_toInt_lt.mp q
  have e : (nI L - 4).toInt = (L : Int) - 4 := pk_sub_toInt (a := L) (b := 4) (by omega) (by decide)
  rw [e, nI_toInt (by omega)] at q
  omega
/-! ===== the law's loop ===== -/
section KLs
variable {w : kW} {p : Program} {l : Launch} {e : Env} {R : Room} {s : State} {m : MethodId} {args : Array Value} {below : List Frame} {meth : Method} {c : Code} {Q : State → Prop} {cc : ByteArray} {nL : Nat} {own : String} {σ : kS} {pc : Nat} {lv : List (Nat × Value)} {st rest : List Value} {cells slots : Nat} {b L : Nat} {xs : Nat → Int32}
/-- the script: L whole numbers at the cell b, which is older than the system -/
def kScr (w : kW) (s : State) (b L : Nat) (xs : Nat → Int32) : Prop := va_X b L xs s s.heap ∧ b < s.heap.size ∧ ¬ kA w b ∧ L ≤ 2048
theorem k_sld (K : kC w p s m args meth c cc nL own) (hX : kScr w s b L xs) {j : Nat} {i9 : Int32} (d : decode cc pc = .ok (.iaload, 1)) (hi : i9 = nI j) (hj : j < L) (kk : kG w p l e R s m args below meth c Q nL σ (pc + 1) lv (.int (xs j) :: st) cells slots) : kG w p l e R s m args below meth c Q nL σ pc lv (.int i9 :: .ref b :: st) cells slots := by
  intro H locs ls hH hS hl
  subst hi
  have h31 : L < 2 ^ 31 := Nat.lt_of_le_of_lt hX.2.2.2 (by decide)
  refine va_sld K.ex K.by hX.1 hX.2.1 hX.2.2.1 hS (vp_in_nI hj h31) d ?_
  rw [nI_clamp (Nat.lt_trans hj h31)]
  exact kk H locs ls hH hS hl
theorem k_slen (K : kC w p s m args meth c cc nL own) (hX : kScr w s b L xs) (d : decode cc pc = .ok (.arraylength, 1)) (kk : kG w p l e R s m args below meth c Q nL σ (pc + 1) lv (.int (nI L) :: st) cells slots) : kG w p l e R s m args below meth c Q nL σ pc lv (.ref b :: st) cells slots :=
  fun H locs ls hH hS hl => va_slen K.ex K.by hX.1 hX.2.1 hX.2.2.1 hS d (kk H locs ls hH hS hl)
theorem k_lcmp (K : kC w p s m args meth c cc nL own) {x y : Int64} (d : decode cc pc = .ok (.lcmp, 1)) (kk : kG w p l e R s m args below meth c Q nL σ (pc + 1) lv (.int (lg_cmp x y) :: st) cells slots) : kG w p l e R s m args below meth c Q nL σ pc lv (.long y :: .long x :: st) cells slots :=
  fun H locs ls hH hS hl => W.lcmp K.ex K.by d (kk H locs ls hH hS hl)
theorem cw_L_77 (K : kC w p s m args meth c cc nL RL) (KX : kX w l s) (KN : kNo s) {a1 : Int32} {r : Int32 × kS} (d : decode cc pc = .ok (.invokestatic 77, 3)) (h : fL_depth σ a1 = some r) (hR : rmL_depth.frames + 1 ≤ R.frames ∧ 8 + (4 + 11) + rmL_depth.locals ≤ R.locals) (hr : (rest.map fun v => v.category).sum ≤ 8) (hf : cells + 1 ≤ R.cells ∧ slots + 6 ≤ R.slots) (kk : kG w p l e R s m args below meth c Q nL r.2 (pc + 3) lv (.int r.1 :: rest) (cells + 1) (slots + 6)) : kG w p l e R s m args below meth c Q nL σ pc lv (.ref (kL w 138) :: .int a1 :: .ref (kL w 0) :: rest) cells slots :=
  k_callLi (As := [.ref (kL w 0), .int a1, .ref (kL w 138)]) (rest := rest) (n := 3) K KX KN d (kg_SW tw_162 tw_163 tw_47 tw_164) (by decide +kernel) rfl hR hr rfl hf (mL_depth l w σ a1 h) ⟨rfl, rfl⟩ kk
theorem cl_L_82 (K : kC w p s m args meth c cc nL RL) {a1 : Int32} {r : (Int32 × kS)} (d : decode cc pc = .ok (.invokevirtual 82, 3)) (h : fX2_depth σ a1 = some r) (hR : rmX2_depth.frames + 1 ≤ R.frames ∧ 8 + (3 + 11) + rmX2_depth.locals ≤ R.locals) (hr : (rest.map fun v => v.category).sum ≤ 8) (hf : cells + 0 ≤ R.cells ∧ slots + 0 ≤ R.slots) (kk : kG w p l e R s m args below meth c Q nL r.2 (pc + 3) lv (.int r.1 :: rest) (cells + 0) (slots + 0)) : kG w p l e R s m args below meth c Q nL σ pc lv (.int a1 :: .ref (kL w 126) :: rest) cells slots :=
  k_callVi (As := [.int a1]) (rest := rest) (n := 1) (C := RX2) (T := TX2) K d kd_126 rfl (kg_V tw_601 tw_602 tw_603 tw_50 tw_604) rfl (by decide +kernel) rfl hR hr rfl hf (mX2_depth l w σ a1 h) ⟨rfl, rfl⟩ kk
theorem cl_L_83 (K : kC w p s m args meth c cc nL RL) {r : Int32} (d : decode cc pc = .ok (.invokevirtual 83, 3)) (h : fX2_thrown σ = some r) (hR : rmX2_thrown.frames + 1 ≤ R.frames ∧ 8 + (1 + 11) + rmX2_thrown.locals ≤ R.locals) (hr : (rest.map fun v => v.category).sum ≤ 8) (hf : cells + 0 ≤ R.cells ∧ slots + 0 ≤ R.slots) (kk : kG w p l e R s m args below meth c Q nL σ (pc + 3) lv (.int r :: rest) (cells + 0) (slots + 0)) : kG w p l e R s m args below meth c Q nL σ pc lv (.ref (kL w 126) :: rest) cells slots :=
  k_callVi (As := []) (rest := rest) (n := 0) (C := RX2) (T := TX2) K d kd_126 rfl (kg_V tw_597 tw_598 tw_599 tw_50 tw_600) rfl (by decide +kernel) rfl hR hr rfl hf (mX2_thrown l w σ h) ⟨rfl, rfl⟩ kk
theorem cw_L_86 (K : kC w p s m args meth c cc nL RL) (KX : kX w l s) (KN : kNo s) {a1 : Int32} {r : Int32 × kS} (d : decode cc pc = .ok (.invokestatic 86, 3)) (h : fL_found σ a1 = some r) (hR : rmL_found.frames + 1 ≤ R.frames ∧ 8 + (4 + 11) + rmL_found.locals ≤ R.locals) (hr : (rest.map fun v => v.category).sum ≤ 8) (hf : cells + 3 ≤ R.cells ∧ slots + 18 ≤ R.slots) (kk : kG w p l e R s m args below meth c Q nL r.2 (pc + 3) lv (.int r.1 :: rest) (cells + 3) (slots + 18)) : kG w p l e R s m args below meth c Q nL σ pc lv (.ref (kL w 138) :: .int a1 :: .ref (kL w 0) :: rest) cells slots :=
  k_callLi (As := [.ref (kL w 0), .int a1, .ref (kL w 138)]) (rest := rest) (n := 3) K KX KN d (kg_SW tw_255 tw_256 tw_47 tw_257) (by decide +kernel) rfl hR hr rfl hf (mL_found l w σ a1 h) ⟨rfl, rfl⟩ kk
theorem cl_L_88 (K : kC w p s m args meth c cc nL RL) {a1 : Int32} {r : (Int32 × kS)} (d : decode cc pc = .ok (.invokevirtual 88, 3)) (h : fX2_found σ a1 = some r) (hR : rmX2_found.frames + 1 ≤ R.frames ∧ 8 + (2 + 11) + rmX2_found.locals ≤ R.locals) (hr : (rest.map fun v => v.category).sum ≤ 8) (hf : cells + 0 ≤ R.cells ∧ slots + 0 ≤ R.slots) (kk : kG w p l e R s m args below meth c Q nL r.2 (pc + 3) lv (.int r.1 :: rest) (cells + 0) (slots + 0)) : kG w p l e R s m args below meth c Q nL σ pc lv (.int a1 :: .ref (kL w 126) :: rest) cells slots :=
  k_callVi (As := [.int a1]) (rest := rest) (n := 1) (C := RX2) (T := TX2) K d kd_126 rfl (kg_V tw_613 tw_614 tw_615 tw_50 tw_616) rfl (by decide +kernel) rfl hR hr rfl hf (mX2_found l w σ a1 h) ⟨rfl, rfl⟩ kk
theorem cw_L_89 (K : kC w p s m args meth c cc nL RL) (KX : kX w l s) (KN : kNo s) {r : Int32 × kS} (d : decode cc pc = .ok (.invokestatic 89, 3)) (h : fL_open σ = some r) (hR : rmL_open.frames + 1 ≤ R.frames ∧ 8 + (3 + 11) + rmL_open.locals ≤ R.locals) (hr : (rest.map fun v => v.category).sum ≤ 8) (hf : cells + 1 ≤ R.cells ∧ slots + 6 ≤ R.slots) (kk : kG w p l e R s m args below meth c Q nL r.2 (pc + 3) lv (.int r.1 :: rest) (cells + 1) (slots + 6)) : kG w p l e R s m args below meth c Q nL σ pc lv (.ref (kL w 138) :: .ref (kL w 0) :: rest) cells slots :=
  k_callLi (As := [.ref (kL w 0), .ref (kL w 138)]) (rest := rest) (n := 2) K KX KN d (kg_SW tw_287 tw_288 tw_47 tw_289) (by decide +kernel) rfl hR hr rfl hf (mL_open l w σ h) ⟨rfl, rfl⟩ kk
theorem cl_L_92 (K : kC w p s m args meth c cc nL RL) {r : (Int32 × kS)} (d : decode cc pc = .ok (.invokevirtual 92, 3)) (h : fX2_open σ = some r) (hR : rmX2_open.frames + 1 ≤ R.frames ∧ 8 + (4 + 11) + rmX2_open.locals ≤ R.locals) (hr : (rest.map fun v => v.category).sum ≤ 8) (hf : cells + 0 ≤ R.cells ∧ slots + 0 ≤ R.slots) (kk : kG w p l e R s m args below meth c Q nL r.2 (pc + 3) lv (.int r.1 :: rest) (cells + 0) (slots + 0)) : kG w p l e R s m args below meth c Q nL σ pc lv (.ref (kL w 126) :: rest) cells slots :=
  k_callVi (As := []) (rest := rest) (n := 0) (C := RX2) (T := TX2) K d kd_126 rfl (kg_V tw_620 tw_621 tw_622 tw_50 tw_623) rfl (by decide +kernel) rfl hR hr rfl hf (mX2_open l w σ h) ⟨rfl, rfl⟩ kk
theorem cw_L_93 (K : kC w p s m args meth c cc nL RL) (KX : kX w l s) (KN : kNo s) {a1 : Int32} {a2 : Int32} {r : Int32 × kS} (d : decode cc pc = .ok (.invokestatic 93, 3)) (h : fL_join σ a1 a2 = some r) (hR : rmL_join.frames + 1 ≤ R.frames ∧ 8 + (5 + 11) + rmL_join.locals ≤ R.locals) (hr : (rest.map fun v => v.category).sum ≤ 8) (hf : cells + 3 ≤ R.cells ∧ slots + 18 ≤ R.slots) (kk : kG w p l e R s m args below meth c Q nL r.2 (pc + 3) lv (.int r.1 :: rest) (cells + 3) (slots + 18)) : kG w p l e R s m args below meth c Q nL σ pc lv (.ref (kL w 138) :: .int a2 :: .int a1 :: .ref (kL w 0) :: rest) cells slots :=
  k_callLi (As := [.ref (kL w 0), .int a1, .int a2, .ref (kL w 138)]) (rest := rest) (n := 4) K KX KN d (kg_SW tw_295 tw_296 tw_47 tw_297) (by decide +kernel) rfl hR hr rfl hf (mL_join l w σ a1 a2 h) ⟨rfl, rfl⟩ kk
theorem cl_L_96 (K : kC w p s m args meth c cc nL RL) {a1 : Int32} {a2 : Int32} {r : (Int32 × kS)} (d : decode cc pc = .ok (.invokevirtual 96, 3)) (h : fX2_join σ a1 a2 = some r) (hR : rmX2_join.frames + 1 ≤ R.frames ∧ 8 + (4 + 11) + rmX2_join.locals ≤ R.locals) (hr : (rest.map fun v => v.category).sum ≤ 8) (hf : cells + 0 ≤ R.cells ∧ slots + 0 ≤ R.slots) (kk : kG w p l e R s m args below meth c Q nL r.2 (pc + 3) lv (.int r.1 :: rest) (cells + 0) (slots + 0)) : kG w p l e R s m args below meth c Q nL σ pc lv (.int a2 :: .int a1 :: .ref (kL w 126) :: rest) cells slots :=
  k_callVi (As := [.int a1, .int a2]) (rest := rest) (n := 2) (C := RX2) (T := TX2) K d kd_126 rfl (kg_V tw_636 tw_637 tw_638 tw_50 tw_639) rfl (by decide +kernel) rfl hR hr rfl hf (mX2_join l w σ a1 a2 h) ⟨rfl, rfl⟩ kk
theorem cw_L_97 (K : kC w p s m args meth c cc nL RL) (KX : kX w l s) (KN : kNo s) {a1 : Int32} {r : Int32 × kS} (d : decode cc pc = .ok (.invokestatic 97, 3)) (h : fL_fail σ a1 = some r) (hR : rmL_fail.frames + 1 ≤ R.frames ∧ 8 + (4 + 11) + rmL_fail.locals ≤ R.locals) (hr : (rest.map fun v => v.category).sum ≤ 8) (hf : cells + 2 ≤ R.cells ∧ slots + 12 ≤ R.slots) (kk : kG w p l e R s m args below meth c Q nL r.2 (pc + 3) lv (.int r.1 :: rest) (cells + 2) (slots + 12)) : kG w p l e R s m args below meth c Q nL σ pc lv (.ref (kL w 138) :: .int a1 :: .ref (kL w 0) :: rest) cells slots :=
  k_callLi (As := [.ref (kL w 0), .int a1, .ref (kL w 138)]) (rest := rest) (n := 3) K KX KN d (kg_SW tw_353 tw_354 tw_47 tw_355) (by decide +kernel) rfl hR hr rfl hf (mL_fail l w σ a1 h) ⟨rfl, rfl⟩ kk
theorem cl_L_99 (K : kC w p s m args meth c cc nL RL) {a1 : Int32} {r : (Int32 × kS)} (d : decode cc pc = .ok (.invokevirtual 99, 3)) (h : fX2_fail σ a1 = some r) (hR : rmX2_fail.frames + 1 ≤ R.frames ∧ 8 + (3 + 11) + rmX2_fail.locals ≤ R.locals) (hr : (rest.map fun v => v.category).sum ≤ 8) (hf : cells + 0 ≤ R.cells ∧ slots + 0 ≤ R.slots) (kk : kG w p l e R s m args below meth c Q nL r.2 (pc + 3) lv (.int r.1 :: rest) (cells + 0) (slots + 0)) : kG w p l e R s m args below meth c Q nL σ pc lv (.int a1 :: .ref (kL w 126) :: rest) cells slots :=
  k_callVi (As := [.int a1]) (rest := rest) (n := 1) (C := RX2) (T := TX2) K d kd_126 rfl (kg_V tw_670 tw_671 tw_672 tw_50 tw_673) rfl (by decide +kernel) rfl hR hr rfl hf (mX2_fail l w σ a1 h) ⟨rfl, rfl⟩ kk
theorem cw_L_100 (K : kC w p s m args meth c cc nL RL) (KX : kX w l s) (KN : kNo s) {a1 : Int32} {r : Int32 × kS} (d : decode cc pc = .ok (.invokestatic 100, 3)) (h : fL_stabilise σ a1 = some r) (hR : rmL_stabilise.frames + 1 ≤ R.frames ∧ 8 + (4 + 11) + rmL_stabilise.locals ≤ R.locals) (hr : (rest.map fun v => v.category).sum ≤ 8) (hf : cells + 1 ≤ R.cells ∧ slots + 6 ≤ R.slots) (kk : kG w p l e R s m args below meth c Q nL r.2 (pc + 3) lv (.int r.1 :: rest) (cells + 1) (slots + 6)) : kG w p l e R s m args below meth c Q nL σ pc lv (.ref (kL w 138) :: .int a1 :: .ref (kL w 0) :: rest) cells slots :=
  k_callLi (As := [.ref (kL w 0), .int a1, .ref (kL w 138)]) (rest := rest) (n := 3) K KX KN d (kg_SW tw_370 tw_371 tw_47 tw_372) (by decide +kernel) rfl hR hr rfl hf (mL_stabilise l w σ a1 h) ⟨rfl, rfl⟩ kk
theorem cl_L_102 (K : kC w p s m args meth c cc nL RL) {a1 : Int32} {r : (Int32 × kS)} (d : decode cc pc = .ok (.invokevirtual 102, 3)) (h : fX2_stabilise σ a1 = some r) (hR : rmX2_stabilise.frames + 1 ≤ R.frames ∧ 8 + (2 + 11) + rmX2_stabilise.locals ≤ R.locals) (hr : (rest.map fun v => v.category).sum ≤ 8) (hf : cells + 0 ≤ R.cells ∧ slots + 0 ≤ R.slots) (kk : kG w p l e R s m args below meth c Q nL r.2 (pc + 3) lv (.int r.1 :: rest) (cells + 0) (slots + 0)) : kG w p l e R s m args below meth c Q nL σ pc lv (.int a1 :: .ref (kL w 126) :: rest) cells slots :=
  k_callVi (As := [.int a1]) (rest := rest) (n := 1) (C := RX2) (T := TX2) K d kd_126 rfl (kg_V tw_678 tw_679 tw_680 tw_50 tw_681) rfl (by decide +kernel) rfl hR hr rfl hf (mX2_stabilise l w σ a1 h) ⟨rfl, rfl⟩ kk
theorem cw_L_103 (K : kC w p s m args meth c cc nL RL) (KX : kX w l s) (KN : kNo s) {a1 : Int32} {a2 : Int32} {r : Int32 × kS} (d : decode cc pc = .ok (.invokestatic 103, 3)) (h : fL_mend σ a1 a2 = some r) (hR : rmL_mend.frames + 1 ≤ R.frames ∧ 8 + (5 + 11) + rmL_mend.locals ≤ R.locals) (hr : (rest.map fun v => v.category).sum ≤ 8) (hf : cells + 2 ≤ R.cells ∧ slots + 12 ≤ R.slots) (kk : kG w p l e R s m args below meth c Q nL r.2 (pc + 3) lv (.int r.1 :: rest) (cells + 2) (slots + 12)) : kG w p l e R s m args below meth c Q nL σ pc lv (.ref (kL w 138) :: .int a2 :: .int a1 :: .ref (kL w 0) :: rest) cells slots :=
  k_callLi (As := [.ref (kL w 0), .int a1, .int a2, .ref (kL w 138)]) (rest := rest) (n := 4) K KX KN d (kg_SW tw_385 tw_386 tw_47 tw_387) (by decide +kernel) rfl hR hr rfl hf (mL_mend l w σ a1 a2 h) ⟨rfl, rfl⟩ kk
theorem cl_L_105 (K : kC w p s m args meth c cc nL RL) {a1 : Int32} {a2 : Int32} {r : (Int32 × kS)} (d : decode cc pc = .ok (.invokevirtual 105, 3)) (h : fX2_mend σ a1 a2 = some r) (hR : rmX2_mend.frames + 1 ≤ R.frames ∧ 8 + (3 + 11) + rmX2_mend.locals ≤ R.locals) (hr : (rest.map fun v => v.category).sum ≤ 8) (hf : cells + 0 ≤ R.cells ∧ slots + 0 ≤ R.slots) (kk : kG w p l e R s m args below meth c Q nL r.2 (pc + 3) lv (.int r.1 :: rest) (cells + 0) (slots + 0)) : kG w p l e R s m args below meth c Q nL σ pc lv (.int a2 :: .int a1 :: .ref (kL w 126) :: rest) cells slots :=
  k_callVi (As := [.int a1, .int a2]) (rest := rest) (n := 2) (C := RX2) (T := TX2) K d kd_126 rfl (kg_V tw_686 tw_687 tw_688 tw_50 tw_689) rfl (by decide +kernel) rfl hR hr rfl hf (mX2_mend l w σ a1 a2 h) ⟨rfl, rfl⟩ kk
theorem cw_L_106 (K : kC w p s m args meth c cc nL RL) (KX : kX w l s) (KN : kNo s) {a1 : Int32} {r : Int32 × kS} (d : decode cc pc = .ok (.invokestatic 106, 3)) (h : fL_handOver σ a1 = some r) (hR : rmL_handOver.frames + 1 ≤ R.frames ∧ 8 + (4 + 11) + rmL_handOver.locals ≤ R.locals) (hr : (rest.map fun v => v.category).sum ≤ 8) (hf : cells + 1 ≤ R.cells ∧ slots + 6 ≤ R.slots) (kk : kG w p l e R s m args below meth c Q nL r.2 (pc + 3) lv (.int r.1 :: rest) (cells + 1) (slots + 6)) : kG w p l e R s m args below meth c Q nL σ pc lv (.ref (kL w 138) :: .int a1 :: .ref (kL w 0) :: rest) cells slots :=
  k_callLi (As := [.ref (kL w 0), .int a1, .ref (kL w 138)]) (rest := rest) (n := 3) K KX KN d (kg_SW tw_400 tw_401 tw_47 tw_402) (by decide +kernel) rfl hR hr rfl hf (mL_handOver l w σ a1 h) ⟨rfl, rfl⟩ kk
theorem cl_L_108 (K : kC w p s m args meth c cc nL RL) {a1 : Int32} {r : (Int32 × kS)} (d : decode cc pc = .ok (.invokevirtual 108, 3)) (h : fX2_handOver σ a1 = some r) (hR : rmX2_handOver.frames + 1 ≤ R.frames ∧ 8 + (2 + 11) + rmX2_handOver.locals ≤ R.locals) (hr : (rest.map fun v => v.category).sum ≤ 8) (hf : cells + 0 ≤ R.cells ∧ slots + 0 ≤ R.slots) (kk : kG w p l e R s m args below meth c Q nL r.2 (pc + 3) lv (.int r.1 :: rest) (cells + 0) (slots + 0)) : kG w p l e R s m args below meth c Q nL σ pc lv (.int a1 :: .ref (kL w 126) :: rest) cells slots :=
  k_callVi (As := [.int a1]) (rest := rest) (n := 1) (C := RX2) (T := TX2) K d kd_126 rfl (kg_V tw_694 tw_695 tw_696 tw_50 tw_697) rfl (by decide +kernel) rfl hR hr rfl hf (mX2_handOver l w σ a1 h) ⟨rfl, rfl⟩ kk
theorem cw_L_109 (K : kC w p s m args meth c cc nL RL) (KX : kX w l s) (KN : kNo s) {a1 : Int32} {r : Int32 × kS} (d : decode cc pc = .ok (.invokestatic 109, 3)) (h : fL_spread σ a1 = some r) (hR : rmL_spread.frames + 1 ≤ R.frames ∧ 8 + (4 + 11) + rmL_spread.locals ≤ R.locals) (hr : (rest.map fun v => v.category).sum ≤ 8) (hf : cells + 1 ≤ R.cells ∧ slots + 6 ≤ R.slots) (kk : kG w p l e R s m args below meth c Q nL r.2 (pc + 3) lv (.int r.1 :: rest) (cells + 1) (slots + 6)) : kG w p l e R s m args below meth c Q nL σ pc lv (.ref (kL w 138) :: .int a1 :: .ref (kL w 0) :: rest) cells slots :=
  k_callLi (As := [.ref (kL w 0), .int a1, .ref (kL w 138)]) (rest := rest) (n := 3) K KX KN d (kg_SW tw_423 tw_424 tw_47 tw_425) (by decide +kernel) rfl hR hr rfl hf (mL_spread l w σ a1 h) ⟨rfl, rfl⟩ kk
theorem cl_L_111 (K : kC w p s m args meth c cc nL RL) {a1 : Int32} {r : (Int32 × kS)} (d : decode cc pc = .ok (.invokevirtual 111, 3)) (h : fX2_spread σ a1 = some r) (hR : rmX2_spread.frames + 1 ≤ R.frames ∧ 8 + (2 + 11) + rmX2_spread.locals ≤ R.locals) (hr : (rest.map fun v => v.category).sum ≤ 8) (hf : cells + 0 ≤ R.cells ∧ slots + 0 ≤ R.slots) (kk : kG w p l e R s m args below meth c Q nL r.2 (pc + 3) lv (.int r.1 :: rest) (cells + 0) (slots + 0)) : kG w p l e R s m args below meth c Q nL σ pc lv (.int a1 :: .ref (kL w 126) :: rest) cells slots :=
  k_callVi (As := [.int a1]) (rest := rest) (n := 1) (C := RX2) (T := TX2) K d kd_126 rfl (kg_V tw_717 tw_718 tw_719 tw_50 tw_720) rfl (by decide +kernel) rfl hR hr rfl hf (mX2_spread l w σ a1 h) ⟨rfl, rfl⟩ kk
theorem cw_L_112 (K : kC w p s m args meth c cc nL RL) (KX : kX w l s) (KN : kNo s) {a1 : Int32} {r : Int32 × kS} (d : decode cc pc = .ok (.invokestatic 112, 3)) (h : fL_rounds σ a1 = some r) (hR : rmL_rounds.frames + 1 ≤ R.frames ∧ 8 + (4 + 11) + rmL_rounds.locals ≤ R.locals) (hr : (rest.map fun v => v.category).sum ≤ 8) (hf : cells + 1 ≤ R.cells ∧ slots + 6 ≤ R.slots) (kk : kG w p l e R s m args below meth c Q nL r.2 (pc + 3) lv (.int r.1 :: rest) (cells + 1) (slots + 6)) : kG w p l e R s m args below meth c Q nL σ pc lv (.ref (kL w 138) :: .int a1 :: .ref (kL w 0) :: rest) cells slots :=
  k_callLi (As := [.ref (kL w 0), .int a1, .ref (kL w 138)]) (rest := rest) (n := 3) K KX KN d (kg_SW tw_438 tw_439 tw_47 tw_440) (by decide +kernel) rfl hR hr rfl hf (mL_rounds l w σ a1 h) ⟨rfl, rfl⟩ kk
theorem cl_L_114 (K : kC w p s m args meth c cc nL RL) {a1 : Int32} {r : (Int32 × kS)} (d : decode cc pc = .ok (.invokevirtual 114, 3)) (h : fX2_rounds σ a1 = some r) (hR : rmX2_rounds.frames + 1 ≤ R.frames ∧ 8 + (7 + 11) + rmX2_rounds.locals ≤ R.locals) (hr : (rest.map fun v => v.category).sum ≤ 8) (hf : cells + 0 ≤ R.cells ∧ slots + 0 ≤ R.slots) (kk : kG w p l e R s m args below meth c Q nL r.2 (pc + 3) lv (.int r.1 :: rest) (cells + 0) (slots + 0)) : kG w p l e R s m args below meth c Q nL σ pc lv (.int a1 :: .ref (kL w 126) :: rest) cells slots :=
  k_callVi (As := [.int a1]) (rest := rest) (n := 1) (C := RX2) (T := TX2) K d kd_126 rfl (kg_V tw_729 tw_730 tw_731 tw_50 tw_732) rfl (by decide +kernel) rfl hR hr rfl hf (mX2_rounds l w σ a1 h) ⟨rfl, rfl⟩ kk
theorem cw_L_115 (K : kC w p s m args meth c cc nL RL) (KX : kX w l s) (KN : kNo s) {a1 : Int32} {a2 : Int32} {r : Int32 × kS} (d : decode cc pc = .ok (.invokestatic 115, 3)) (h : fL_look σ a1 a2 = some r) (hR : rmL_look.frames + 1 ≤ R.frames ∧ 8 + (5 + 11) + rmL_look.locals ≤ R.locals) (hr : (rest.map fun v => v.category).sum ≤ 8) (hf : cells + 2 ≤ R.cells ∧ slots + 12 ≤ R.slots) (kk : kG w p l e R s m args below meth c Q nL r.2 (pc + 3) lv (.int r.1 :: rest) (cells + 2) (slots + 12)) : kG w p l e R s m args below meth c Q nL σ pc lv (.ref (kL w 138) :: .int a2 :: .int a1 :: .ref (kL w 0) :: rest) cells slots :=
  k_callLi (As := [.ref (kL w 0), .int a1, .int a2, .ref (kL w 138)]) (rest := rest) (n := 4) K KX KN d (kg_SW tw_451 tw_452 tw_47 tw_453) (by decide +kernel) rfl hR hr rfl hf (mL_look l w σ a1 a2 h) ⟨rfl, rfl⟩ kk
theorem cl_L_117 (K : kC w p s m args meth c cc nL RL) {a1 : Int32} {a2 : Int32} {r : (Int32 × kS)} (d : decode cc pc = .ok (.invokevirtual 117, 3)) (h : fX2_look σ a1 a2 = some r) (hR : rmX2_look.frames + 1 ≤ R.frames ∧ 8 + (5 + 11) + rmX2_look.locals ≤ R.locals) (hr : (rest.map fun v => v.category).sum ≤ 8) (hf : cells + 0 ≤ R.cells ∧ slots + 0 ≤ R.slots) (kk : kG w p l e R s m args below meth c Q nL r.2 (pc + 3) lv (.int r.1 :: rest) (cells + 0) (slots + 0)) : kG w p l e R s m args below meth c Q nL σ pc lv (.int a2 :: .int a1 :: .ref (kL w 126) :: rest) cells slots :=
  k_callVi (As := [.int a1, .int a2]) (rest := rest) (n := 2) (C := RX2) (T := TX2) K d kd_126 rfl (kg_V tw_733 tw_734 tw_735 tw_50 tw_736) rfl (by decide +kernel) rfl hR hr rfl hf (mX2_look l w σ a1 a2 h) ⟨rfl, rfl⟩ kk
theorem cw_L_118 (K : kC w p s m args meth c cc nL RL) (KX : kX w l s) (KN : kNo s) {a1 : Int32} {r : Int32 × kS} (d : decode cc pc = .ok (.invokestatic 118, 3)) (h : fL_hop σ a1 = some r) (hR : rmL_hop.frames + 1 ≤ R.frames ∧ 8 + (4 + 11) + rmL_hop.locals ≤ R.locals) (hr : (rest.map fun v => v.category).sum ≤ 8) (hf : cells + 1 ≤ R.cells ∧ slots + 6 ≤ R.slots) (kk : kG w p l e R s m args below meth c Q nL r.2 (pc + 3) lv (.int r.1 :: rest) (cells + 1) (slots + 6)) : kG w p l e R s m args below meth c Q nL σ pc lv (.ref (kL w 138) :: .int a1 :: .ref (kL w 0) :: rest) cells slots :=
  k_callLi (As := [.ref (kL w 0), .int a1, .ref (kL w 138)]) (rest := rest) (n := 3) K KX KN d (kg_SW tw_461 tw_462 tw_47 tw_463) (by decide +kernel) rfl hR hr rfl hf (mL_hop l w σ a1 h) ⟨rfl, rfl⟩ kk
theorem cl_L_120 (K : kC w p s m args meth c cc nL RL) {a1 : Int32} {r : (Int32 × kS)} (d : decode cc pc = .ok (.invokevirtual 120, 3)) (h : fX2_hop σ a1 = some r) (hR : rmX2_hop.frames + 1 ≤ R.frames ∧ 8 + (2 + 11) + rmX2_hop.locals ≤ R.locals) (hr : (rest.map fun v => v.category).sum ≤ 8) (hf : cells + 0 ≤ R.cells ∧ slots + 0 ≤ R.slots) (kk : kG w p l e R s m args below meth c Q nL r.2 (pc + 3) lv (.int r.1 :: rest) (cells + 0) (slots + 0)) : kG w p l e R s m args below meth c Q nL σ pc lv (.int a1 :: .ref (kL w 126) :: rest) cells slots :=
  k_callVi (As := [.int a1]) (rest := rest) (n := 1) (C := RX2) (T := TX2) K d kd_126 rfl (kg_V tw_737 tw_738 tw_739 tw_50 tw_740) rfl (by decide +kernel) rfl hR hr rfl hf (mX2_hop l w σ a1 h) ⟨rfl, rfl⟩ kk
theorem cw_L_121 (K : kC w p s m args meth c cc nL RL) (KX : kX w l s) (KN : kNo s) {a1 : Int32} {a2 : Int32} {a3 : Int32} {r : Int32 × kS} (d : decode cc pc = .ok (.invokestatic 121, 3)) (h : fL_put σ a1 a2 a3 = some r) (hR : rmL_put.frames + 1 ≤ R.frames ∧ 8 + (6 + 11) + rmL_put.locals ≤ R.locals) (hr : (rest.map fun v => v.category).sum ≤ 8) (hf : cells + 3 ≤ R.cells ∧ slots + 18 ≤ R.slots) (kk : kG w p l e R s m args below meth c Q nL r.2 (pc + 3) lv (.int r.1 :: rest) (cells + 3) (slots + 18)) : kG w p l e R s m args below meth c Q nL σ pc lv (.ref (kL w 138) :: .int a3 :: .int a2 :: .int a1 :: .ref (kL w 0) :: rest) cells slots :=
  k_callLi (As := [.ref (kL w 0), .int a1, .int a2, .int a3, .ref (kL w 138)]) (rest := rest) (n := 5) K KX KN d (kg_SW tw_469 tw_470 tw_47 tw_471) (by decide +kernel) rfl hR hr rfl hf (mL_put l w σ a1 a2 a3 h) ⟨rfl, rfl⟩ kk
theorem cl_L_124 (K : kC w p s m args meth c cc nL RL) {a1 : Int32} {a2 : Int32} {a3 : Int32} {r : (Int32 × kS)} (d : decode cc pc = .ok (.invokevirtual 124, 3)) (h : fX2_put σ a1 a2 a3 = some r) (hR : rmX2_put.frames + 1 ≤ R.frames ∧ 8 + (7 + 11) + rmX2_put.locals ≤ R.locals) (hr : (rest.map fun v => v.category).sum ≤ 8) (hf : cells + 0 ≤ R.cells ∧ slots + 0 ≤ R.slots) (kk : kG w p l e R s m args below meth c Q nL r.2 (pc + 3) lv (.int r.1 :: rest) (cells + 0) (slots + 0)) : kG w p l e R s m args below meth c Q nL σ pc lv (.int a3 :: .int a2 :: .int a1 :: .ref (kL w 126) :: rest) cells slots :=
  k_callVi (As := [.int a1, .int a2, .int a3]) (rest := rest) (n := 3) (C := RX2) (T := TX2) K d kd_126 rfl (kg_V tw_741 tw_742 tw_743 tw_50 tw_744) rfl (by decide +kernel) rfl hR hr rfl hf (mX2_put l w σ a1 a2 a3 h) ⟨rfl, rfl⟩ kk
theorem cw_L_125 (K : kC w p s m args meth c cc nL RL) (KX : kX w l s) (KN : kNo s) {a1 : Int32} {a2 : Int32} {r : Int32 × kS} (d : decode cc pc = .ok (.invokestatic 125, 3)) (h : fL_get σ a1 a2 = some r) (hR : rmL_get.frames + 1 ≤ R.frames ∧ 8 + (5 + 11) + rmL_get.locals ≤ R.locals) (hr : (rest.map fun v => v.category).sum ≤ 8) (hf : cells + 2 ≤ R.cells ∧ slots + 12 ≤ R.slots) (kk : kG w p l e R s m args below meth c Q nL r.2 (pc + 3) lv (.int r.1 :: rest) (cells + 2) (slots + 12)) : kG w p l e R s m args below meth c Q nL σ pc lv (.ref (kL w 138) :: .int a2 :: .int a1 :: .ref (kL w 0) :: rest) cells slots :=
  k_callLi (As := [.ref (kL w 0), .int a1, .int a2, .ref (kL w 138)]) (rest := rest) (n := 4) K KX KN d (kg_SW tw_481 tw_482 tw_47 tw_483) (by decide +kernel) rfl hR hr rfl hf (mL_get l w σ a1 a2 h) ⟨rfl, rfl⟩ kk
theorem cl_L_127 (K : kC w p s m args meth c cc nL RL) {a1 : Int32} {a2 : Int32} {r : (Int32 × kS)} (d : decode cc pc = .ok (.invokevirtual 127, 3)) (h : fX2_get σ a1 a2 = some r) (hR : rmX2_get.frames + 1 ≤ R.frames ∧ 8 + (8 + 11) + rmX2_get.locals ≤ R.locals) (hr : (rest.map fun v => v.category).sum ≤ 8) (hf : cells + 0 ≤ R.cells ∧ slots + 0 ≤ R.slots) (kk : kG w p l e R s m args below meth c Q nL r.2 (pc + 3) lv (.int r.1 :: rest) (cells + 0) (slots + 0)) : kG w p l e R s m args below meth c Q nL σ pc lv (.int a2 :: .int a1 :: .ref (kL w 126) :: rest) cells slots :=
  k_callVi (As := [.int a1, .int a2]) (rest := rest) (n := 2) (C := RX2) (T := TX2) K d kd_126 rfl (kg_V tw_748 tw_749 tw_750 tw_50 tw_751) rfl (by decide +kernel) rfl hR hr rfl hf (mX2_get l w σ a1 a2 h) ⟨rfl, rfl⟩ kk
theorem cw_L_128 (K : kC w p s m args meth c cc nL RL) (KX : kX w l s) (KN : kNo s) {a1 : Int32} {a2 : Int32} {a3 : Int32} {r : Int32 × kS} (d : decode cc pc = .ok (.invokestatic 128, 3)) (h : fL_held σ a1 a2 a3 = some r) (hR : rmL_held.frames + 1 ≤ R.frames ∧ 8 + (6 + 11) + rmL_held.locals ≤ R.locals) (hr : (rest.map fun v => v.category).sum ≤ 8) (hf : cells + 3 ≤ R.cells ∧ slots + 18 ≤ R.slots) (kk : kG w p l e R s m args below meth c Q nL r.2 (pc + 3) lv (.int r.1 :: rest) (cells + 3) (slots + 18)) : kG w p l e R s m args below meth c Q nL σ pc lv (.ref (kL w 138) :: .int a3 :: .int a2 :: .int a1 :: .ref (kL w 0) :: rest) cells slots :=
  k_callLi (As := [.ref (kL w 0), .int a1, .int a2, .int a3, .ref (kL w 138)]) (rest := rest) (n := 5) K KX KN d (kg_SW tw_492 tw_493 tw_47 tw_494) (by decide +kernel) rfl hR hr rfl hf (mL_held l w σ a1 a2 a3 h) ⟨rfl, rfl⟩ kk
theorem cl_L_130 (K : kC w p s m args meth c cc nL RL) {a1 : Int32} {a2 : Int32} {a3 : Int32} {r : (Int32 × kS)} (d : decode cc pc = .ok (.invokevirtual 130, 3)) (h : fX2_held σ a1 a2 a3 = some r) (hR : rmX2_held.frames + 1 ≤ R.frames ∧ 8 + (5 + 11) + rmX2_held.locals ≤ R.locals) (hr : (rest.map fun v => v.category).sum ≤ 8) (hf : cells + 0 ≤ R.cells ∧ slots + 0 ≤ R.slots) (kk : kG w p l e R s m args below meth c Q nL r.2 (pc + 3) lv (.int r.1 :: rest) (cells + 0) (slots + 0)) : kG w p l e R s m args below meth c Q nL σ pc lv (.int a3 :: .int a2 :: .int a1 :: .ref (kL w 126) :: rest) cells slots :=
  k_callVi (As := [.int a1, .int a2, .int a3]) (rest := rest) (n := 3) (C := RX2) (T := TX2) K d kd_126 rfl (kg_V tw_752 tw_753 tw_754 tw_50 tw_755) rfl (by decide +kernel) rfl hR hr rfl hf (mX2_held l w σ a1 a2 a3 h) ⟨rfl, rfl⟩ kk
theorem cw_L_131 (K : kC w p s m args meth c cc nL RL) (KX : kX w l s) (KN : kNo s) {a1 : Int32} {a2 : Int32} {r : Int32 × kS} (d : decode cc pc = .ok (.invokestatic 131, 3)) (h : fL_known σ a1 a2 = some r) (hR : rmL_known.frames + 1 ≤ R.frames ∧ 8 + (5 + 11) + rmL_known.locals ≤ R.locals) (hr : (rest.map fun v => v.category).sum ≤ 8) (hf : cells + 2 ≤ R.cells ∧ slots + 12 ≤ R.slots) (kk : kG w p l e R s m args below meth c Q nL r.2 (pc + 3) lv (.int r.1 :: rest) (cells + 2) (slots + 12)) : kG w p l e R s m args below meth c Q nL σ pc lv (.ref (kL w 138) :: .int a2 :: .int a1 :: .ref (kL w 0) :: rest) cells slots :=
  k_callLi (As := [.ref (kL w 0), .int a1, .int a2, .ref (kL w 138)]) (rest := rest) (n := 4) K KX KN d (kg_SW tw_500 tw_501 tw_47 tw_502) (by decide +kernel) rfl hR hr rfl hf (mL_known l w σ a1 a2 h) ⟨rfl, rfl⟩ kk
theorem cl_L_133 (K : kC w p s m args meth c cc nL RL) {a1 : Int32} {a2 : Int32} {r : (Int32 × kS)} (d : decode cc pc = .ok (.invokevirtual 133, 3)) (h : fX2_known σ a1 a2 = some r) (hR : rmX2_known.frames + 1 ≤ R.frames ∧ 8 + (3 + 11) + rmX2_known.locals ≤ R.locals) (hr : (rest.map fun v => v.category).sum ≤ 8) (hf : cells + 0 ≤ R.cells ∧ slots + 0 ≤ R.slots) (kk : kG w p l e R s m args below meth c Q nL r.2 (pc + 3) lv (.int r.1 :: rest) (cells + 0) (slots + 0)) : kG w p l e R s m args below meth c Q nL σ pc lv (.int a2 :: .int a1 :: .ref (kL w 126) :: rest) cells slots :=
  k_callVi (As := [.int a1, .int a2]) (rest := rest) (n := 2) (C := RX2) (T := TX2) K d kd_126 rfl (kg_V tw_756 tw_757 tw_758 tw_50 tw_759) rfl (by decide +kernel) rfl hR hr rfl hf (mX2_known l w σ a1 a2 h) ⟨rfl, rfl⟩ kk
theorem cw_L_134 (K : kC w p s m args meth c cc nL RL) (KX : kX w l s) (KN : kNo s) {a1 : Int32} {r : Int32 × kS} (d : decode cc pc = .ok (.invokestatic 134, 3)) (h : fL_owner σ a1 = some r) (hR : rmL_owner.frames + 1 ≤ R.frames ∧ 8 + (4 + 11) + rmL_owner.locals ≤ R.locals) (hr : (rest.map fun v => v.category).sum ≤ 8) (hf : cells + 1 ≤ R.cells ∧ slots + 6 ≤ R.slots) (kk : kG w p l e R s m args below meth c Q nL r.2 (pc + 3) lv (.int r.1 :: rest) (cells + 1) (slots + 6)) : kG w p l e R s m args below meth c Q nL σ pc lv (.ref (kL w 138) :: .int a1 :: .ref (kL w 0) :: rest) cells slots :=
  k_callLi (As := [.ref (kL w 0), .int a1, .ref (kL w 138)]) (rest := rest) (n := 3) K KX KN d (kg_SW tw_508 tw_509 tw_47 tw_510) (by decide +kernel) rfl hR hr rfl hf (mL_owner l w σ a1 h) ⟨rfl, rfl⟩ kk
theorem cl_L_136 (K : kC w p s m args meth c cc nL RL) {a1 : Int32} {r : (Int32 × kS)} (d : decode cc pc = .ok (.invokevirtual 136, 3)) (h : fX2_owner σ a1 = some r) (hR : rmX2_owner.frames + 1 ≤ R.frames ∧ 8 + (2 + 11) + rmX2_owner.locals ≤ R.locals) (hr : (rest.map fun v => v.category).sum ≤ 8) (hf : cells + 0 ≤ R.cells ∧ slots + 0 ≤ R.slots) (kk : kG w p l e R s m args below meth c Q nL r.2 (pc + 3) lv (.int r.1 :: rest) (cells + 0) (slots + 0)) : kG w p l e R s m args below meth c Q nL σ pc lv (.int a1 :: .ref (kL w 126) :: rest) cells slots :=
  k_callVi (As := [.int a1]) (rest := rest) (n := 1) (C := RX2) (T := TX2) K d kd_126 rfl (kg_V tw_760 tw_761 tw_762 tw_50 tw_763) rfl (by decide +kernel) rfl hR hr rfl hf (mX2_owner l w σ a1 h) ⟨rfl, rfl⟩ kk
theorem cl_L_137 (K : kC w p s m args meth c cc nL RL) {r : Int32} (d : decode cc pc = .ok (.invokevirtual 137, 3)) (h : fX1_ideal σ = some r) (hR : rmX1_ideal.frames + 1 ≤ R.frames ∧ 8 + (2 + 11) + rmX1_ideal.locals ≤ R.locals) (hr : (rest.map fun v => v.category).sum ≤ 8) (hf : cells + 0 ≤ R.cells ∧ slots + 0 ≤ R.slots) (kk : kG w p l e R s m args below meth c Q nL σ (pc + 3) lv (.int r :: rest) (cells + 0) (slots + 0)) : kG w p l e R s m args below meth c Q nL σ pc lv (.ref (kL w 0) :: rest) cells slots :=
  k_callVi (As := []) (rest := rest) (n := 0) (C := RX1) (T := TX1) K d kd_0 rfl (kg_V tw_147 tw_148 tw_149 tw_48 tw_150) rfl (by decide +kernel) rfl hR hr rfl hf (mX1_ideal l w σ h) ⟨rfl, rfl⟩ kk
theorem cl_L_141 (K : kC w p s m args meth c cc nL RL) {r : (Int32 × kS)} (d : decode cc pc = .ok (.invokevirtual 141, 3)) (h : fX2_ideal σ = some r) (hR : rmX2_ideal.frames + 1 ≤ R.frames ∧ 8 + (5 + 11) + rmX2_ideal.locals ≤ R.locals) (hr : (rest.map fun v => v.category).sum ≤ 8) (hf : cells + 0 ≤ R.cells ∧ slots + 0 ≤ R.slots) (kk : kG w p l e R s m args below meth c Q nL r.2 (pc + 3) lv (.int r.1 :: rest) (cells + 0) (slots + 0)) : kG w p l e R s m args below meth c Q nL σ pc lv (.ref (kL w 126) :: rest) cells slots :=
  k_callVi (As := []) (rest := rest) (n := 0) (C := RX2) (T := TX2) K d kd_126 rfl (kg_V tw_764 tw_765 tw_766 tw_50 tw_767) rfl (by decide +kernel) rfl hR hr rfl hf (mX2_ideal l w σ h) ⟨rfl, rfl⟩ kk
theorem cw_L_142 (K : kC w p s m args meth c cc nL RL) (KX : kX w l s) (KN : kNo s) {a1 : Int32} {r : Int32 × kS} (d : decode cc pc = .ok (.invokestatic 142, 3)) (h : fL_count σ a1 = some r) (hR : rmL_count.frames + 1 ≤ R.frames ∧ 8 + (4 + 11) + rmL_count.locals ≤ R.locals) (hr : (rest.map fun v => v.category).sum ≤ 8) (hf : cells + 1 ≤ R.cells ∧ slots + 6 ≤ R.slots) (kk : kG w p l e R s m args below meth c Q nL r.2 (pc + 3) lv (.int r.1 :: rest) (cells + 1) (slots + 6)) : kG w p l e R s m args below meth c Q nL σ pc lv (.ref (kL w 138) :: .int a1 :: .ref (kL w 0) :: rest) cells slots :=
  k_callLi (As := [.ref (kL w 0), .int a1, .ref (kL w 138)]) (rest := rest) (n := 3) K KX KN d (kg_SW tw_519 tw_520 tw_47 tw_521) (by decide +kernel) rfl hR hr rfl hf (mL_count l w σ a1 h) ⟨rfl, rfl⟩ kk
theorem cl_L_144 (K : kC w p s m args meth c cc nL RL) {a1 : Int32} {r : (Int32 × kS)} (d : decode cc pc = .ok (.invokevirtual 144, 3)) (h : fX2_count σ a1 = some r) (hR : rmX2_count.frames + 1 ≤ R.frames ∧ 8 + (2 + 11) + rmX2_count.locals ≤ R.locals) (hr : (rest.map fun v => v.category).sum ≤ 8) (hf : cells + 0 ≤ R.cells ∧ slots + 0 ≤ R.slots) (kk : kG w p l e R s m args below meth c Q nL r.2 (pc + 3) lv (.int r.1 :: rest) (cells + 0) (slots + 0)) : kG w p l e R s m args below meth c Q nL σ pc lv (.int a1 :: .ref (kL w 126) :: rest) cells slots :=
  k_callVi (As := [.int a1]) (rest := rest) (n := 1) (C := RX2) (T := TX2) K d kd_126 rfl (kg_V tw_768 tw_769 tw_770 tw_50 tw_771) rfl (by decide +kernel) rfl hR hr rfl hf (mX2_count l w σ a1 h) ⟨rfl, rfl⟩ kk
def fc_0 (σ : kS) (a1 : Int32) : Option kS := (fL_depth σ a1).bind fun r => (fX2_depth r.2 a1).bind fun u => (fX2_thrown u.2).bind fun t => if t = r.1 then (if r.1 = 0 then (if lg_cmp (u.2.2.2 138 (0 : Int32).toNatClampNeg) u.1.toInt64 = 0 then some u.2 else none) else some u.2) else none
set_option maxRecDepth 20000 in
theorem lc_0 (K : kC w p s m args meth c cL_law 7 RL) (KX : kX w l s) (KN : kNo s) (hX : kScr w s b L xs) {σ τ : kS} {i k n : Nat} (hi : i + 4 ≤ L) (hk : k + 3 ≤ 601024) (hn : n + 18 ≤ 7293034) (h : fc_0 σ (xs (i + 1)) = some τ) (go : kG w p l e room_1 s m args below meth c Q 7 τ 1245 [(0, .ref b), (1, .ref (kL w 0)), (2, .ref (kL w 126)), (3, .ref (kL w 138)), (4, .int (nI i))] [] (k + 3) (n + 18)) : kG w p l e room_1 s m args below meth c Q 7 σ 128 [(0, .ref b), (1, .ref (kL w 0)), (2, .ref (kL w 126)), (3, .ref (kL w 138)), (4, .int (nI i))] [] k n := by
  unfold fc_0 at h
  replace h := k_bd h
  obtain ⟨r, hr, h⟩ := h
  replace h := k_bd h
  obtain ⟨u, hu, h⟩ := h
  replace h := k_bd h
  obtain ⟨t, ht, h⟩ := h
  replace h := k_gd h
  obtain ⟨g1, h⟩ := h
  refine k_aload_n K dL_law_128 1 rfl ?_
  refine k_aload_n K dL_law_129 0 rfl ?_
  refine k_iload K dL_law_130 4 rfl ?_
  refine k_iconst (v := 1) K dL_law_132 (by decide) ?_
  refine k_iadd K dL_law_133 ?_
  refine k_sld K hX (j := i + 1) dL_law_134 (nI_add i 1) (by omega) ?_
  refine k_aload_n K dL_law_135 3 rfl ?_
  refine cw_L_77 K KX KN dL_law_136 hr (by decide) (Nat.le_of_ble_eq_true rfl) ⟨by show _ ≤ 601024; omega, by show _ ≤ 7293034; omega⟩ ?_
  refine k_istore (lv' := [(5, .int r.1), (0, .ref b), (1, .ref (kL w 0)), (2, .ref (kL w 126)), (3, .ref (kL w 138)), (4, .int (nI i))]) K dL_law_139 (by decide) rfl ?_
  refine k_aload_n K dL_law_141 3 rfl ?_
  refine k_aload_n K dL_law_142 1 rfl ?_
  refine k_iload K dL_law_143 5 rfl ?_
  refine k_iconst (v := 1) K dL_law_145 (by decide) ?_
  refine k_iadd K dL_law_146 ?_
  refine k_sld K hX (j := i + 1) dL_law_147 (nI_add i 1) (by omega) ?_
  refine cl_L_82 K dL_law_148 hu (by decide) (Nat.le_of_ble_eq_true rfl) ⟨by show _ ≤ 601024; omega, by show _ ≤ 7293034; omega⟩ ?_
  refine k_istore (lv' := [(6, .int u.1), (5, .int r.1), (0, .ref b), (1, .ref (kL w 0)), (2, .ref (kL w 126)), (3, .ref (kL w 138)), (4, .int (nI i))]) K dL_law_151 (by decide) rfl ?_
  refine k_aload_n K dL_law_153 4 rfl ?_
  refine cl_L_83 K dL_law_154 ht (by decide) (Nat.le_of_ble_eq_true rfl) ⟨by show _ ≤ 601024; omega, by show _ ≤ 7293034; omega⟩ ?_
  refine k_iload K dL_law_157 1 rfl ?_
  refine k_icmp_eq K 164 dL_law_159 (by decide) (fun _ => ?_) (fun q => absurd g1 q)
  refine k_iload K dL_law_164 1 rfl ?_
  replace h := k_br h
  rcases h with ⟨g2, h⟩ | ⟨g2, h⟩
  · refine k_if_ne K 181 dL_law_166 (by decide) (fun q => absurd g2 q) (fun _ => ?_)
    replace h := k_gd h
    obtain ⟨g3, h⟩ := h
    cases h
    refine k_aload_n K dL_law_169 5 rfl ?_
    refine k_iconst (v := 0) K dL_law_170 (by decide) ?_
    refine k_lald K dL_law_171 kd_138 (show vpi 0 1 by decide) ?_
    refine k_iload K dL_law_172 0 rfl ?_
    refine k_i2l K dL_law_174 ?_
    refine k_lcmp K dL_law_175 ?_
    refine k_if_eq K 181 dL_law_176 (by decide) (fun _ => ?_) (fun q => absurd g3 q)
    refine k_goto K 1245 dL_law_181 (by decide) ?_
    refine k_sub [2, 3, 4, 5, 6] rfl ?_
    refine k_widen (k := k + 3) (n := n + 18) (by omega) (by omega) ?_
    exact go
  · cases h
    refine k_if_ne K 181 dL_law_166 (by decide) (fun _ => ?_) (fun q => absurd q g2)
    refine k_goto K 1245 dL_law_181 (by decide) ?_
    refine k_sub [2, 3, 4, 5, 6] rfl ?_
    refine k_widen (k := k + 3) (n := n + 18) (by omega) (by omega) ?_
    exact go
def fc_1 (σ : kS) (a1 : Int32) : Option kS := (fL_found σ a1).bind fun r => (fX2_found r.2 a1).bind fun u => (fX2_thrown u.2).bind fun t => if t = r.1 then (if r.1 = 0 then (if lg_cmp (u.2.2.2 138 (0 : Int32).toNatClampNeg) u.1.toInt64 = 0 then some u.2 else none) else some u.2) else none
set_option maxRecDepth 20000 in
theorem lc_1 (K : kC w p s m args meth c cL_law 7 RL) (KX : kX w l s) (KN : kNo s) (hX : kScr w s b L xs) {σ τ : kS} {i k n : Nat} (hi : i + 4 ≤ L) (hk : k + 3 ≤ 601024) (hn : n + 18 ≤ 7293034) (h : fc_1 σ (xs (i + 1)) = some τ) (go : kG w p l e room_1 s m args below meth c Q 7 τ 1245 [(0, .ref b), (1, .ref (kL w 0)), (2, .ref (kL w 126)), (3, .ref (kL w 138)), (4, .int (nI i))] [] (k + 3) (n + 18)) : kG w p l e room_1 s m args below meth c Q 7 σ 184 [(0, .ref b), (1, .ref (kL w 0)), (2, .ref (kL w 126)), (3, .ref (kL w 138)), (4, .int (nI i))] [] k n := by
  unfold fc_1 at h
  replace h := k_bd h
  obtain ⟨r, hr, h⟩ := h
  replace h := k_bd h
  obtain ⟨u, hu, h⟩ := h
  replace h := k_bd h
  obtain ⟨t, ht, h⟩ := h
  replace h := k_gd h
  obtain ⟨g1, h⟩ := h
  refine k_aload_n K dL_law_184 1 rfl ?_
  refine k_aload_n K dL_law_185 0 rfl ?_
  refine k_iload K dL_law_186 4 rfl ?_
  refine k_iconst (v := 1) K dL_law_188 (by decide) ?_
  refine k_iadd K dL_law_189 ?_
  refine k_sld K hX (j := i + 1) dL_law_190 (nI_add i 1) (by omega) ?_
  refine k_aload_n K dL_law_191 3 rfl ?_
  refine cw_L_86 K KX KN dL_law_192 hr (by decide) (Nat.le_of_ble_eq_true rfl) ⟨by show _ ≤ 601024; omega, by show _ ≤ 7293034; omega⟩ ?_
  refine k_istore (lv' := [(5, .int r.1), (0, .ref b), (1, .ref (kL w 0)), (2, .ref (kL w 126)), (3, .ref (kL w 138)), (4, .int (nI i))]) K dL_law_195 (by decide) rfl ?_
  refine k_aload_n K dL_law_197 3 rfl ?_
  refine k_aload_n K dL_law_198 1 rfl ?_
  refine k_iload K dL_law_199 5 rfl ?_
  refine k_iconst (v := 1) K dL_law_201 (by decide) ?_
  refine k_iadd K dL_law_202 ?_
  refine k_sld K hX (j := i + 1) dL_law_203 (nI_add i 1) (by omega) ?_
  refine cl_L_88 K dL_law_204 hu (by decide) (Nat.le_of_ble_eq_true rfl) ⟨by show _ ≤ 601024; omega, by show _ ≤ 7293034; omega⟩ ?_
  refine k_istore (lv' := [(6, .int u.1), (5, .int r.1), (0, .ref b), (1, .ref (kL w 0)), (2, .ref (kL w 126)), (3, .ref (kL w 138)), (4, .int (nI i))]) K dL_law_207 (by decide) rfl ?_
  refine k_aload_n K dL_law_209 4 rfl ?_
  refine cl_L_83 K dL_law_210 ht (by decide) (Nat.le_of_ble_eq_true rfl) ⟨by show _ ≤ 601024; omega, by show _ ≤ 7293034; omega⟩ ?_
  refine k_iload K dL_law_213 1 rfl ?_
  refine k_icmp_eq K 220 dL_law_215 (by decide) (fun _ => ?_) (fun q => absurd g1 q)
  refine k_iload K dL_law_220 1 rfl ?_
  replace h := k_br h
  rcases h with ⟨g2, h⟩ | ⟨g2, h⟩
  · refine k_if_ne K 237 dL_law_222 (by decide) (fun q => absurd g2 q) (fun _ => ?_)
    replace h := k_gd h
    obtain ⟨g3, h⟩ := h
    cases h
    refine k_aload_n K dL_law_225 5 rfl ?_
    refine k_iconst (v := 0) K dL_law_226 (by decide) ?_
    refine k_lald K dL_law_227 kd_138 (show vpi 0 1 by decide) ?_
    refine k_iload K dL_law_228 0 rfl ?_
    refine k_i2l K dL_law_230 ?_
    refine k_lcmp K dL_law_231 ?_
    refine k_if_eq K 237 dL_law_232 (by decide) (fun _ => ?_) (fun q => absurd g3 q)
    refine k_goto K 1245 dL_law_237 (by decide) ?_
    refine k_sub [2, 3, 4, 5, 6] rfl ?_
    refine k_widen (k := k + 3) (n := n + 18) (by omega) (by omega) ?_
    exact go
  · cases h
    refine k_if_ne K 237 dL_law_222 (by decide) (fun _ => ?_) (fun q => absurd q g2)
    refine k_goto K 1245 dL_law_237 (by decide) ?_
    refine k_sub [2, 3, 4, 5, 6] rfl ?_
    refine k_widen (k := k + 3) (n := n + 18) (by omega) (by omega) ?_
    exact go
def fc_2 (σ : kS) : Option kS := (fL_open σ).bind fun r => (fX2_open r.2).bind fun u => (fX2_thrown u.2).bind fun t => if t = r.1 then (if r.1 = 0 then (if lg_cmp (u.2.2.2 138 (0 : Int32).toNatClampNeg) u.1.toInt64 = 0 then some u.2 else none) else some u.2) else none
set_option maxRecDepth 20000 in
theorem lc_2 (K : kC w p s m args meth c cL_law 7 RL) (KX : kX w l s) (KN : kNo s) (hX : kScr w s b L xs) {σ τ : kS} {i k n : Nat} (hi : i + 4 ≤ L) (hk : k + 3 ≤ 601024) (hn : n + 18 ≤ 7293034) (h : fc_2 σ = some τ) (go : kG w p l e room_1 s m args below meth c Q 7 τ 1245 [(0, .ref b), (1, .ref (kL w 0)), (2, .ref (kL w 126)), (3, .ref (kL w 138)), (4, .int (nI i))] [] (k + 3) (n + 18)) : kG w p l e room_1 s m args below meth c Q 7 σ 240 [(0, .ref b), (1, .ref (kL w 0)), (2, .ref (kL w 126)), (3, .ref (kL w 138)), (4, .int (nI i))] [] k n := by
  unfold fc_2 at h
  replace h := k_bd h
  obtain ⟨r, hr, h⟩ := h
  replace h := k_bd h
  obtain ⟨u, hu, h⟩ := h
  replace h := k_bd h
  obtain ⟨t, ht, h⟩ := h
  replace h := k_gd h
  obtain ⟨g1, h⟩ := h
  refine k_aload_n K dL_law_240 1 rfl ?_
  refine k_aload_n K dL_law_241 3 rfl ?_
  refine cw_L_89 K KX KN dL_law_242 hr (by decide) (Nat.le_of_ble_eq_true rfl) ⟨by show _ ≤ 601024; omega, by show _ ≤ 7293034; omega⟩ ?_
  refine k_istore (lv' := [(5, .int r.1), (0, .ref b), (1, .ref (kL w 0)), (2, .ref (kL w 126)), (3, .ref (kL w 138)), (4, .int (nI i))]) K dL_law_245 (by decide) rfl ?_
  refine k_aload_n K dL_law_247 3 rfl ?_
  refine cl_L_92 K dL_law_248 hu (by decide) (Nat.le_of_ble_eq_true rfl) ⟨by show _ ≤ 601024; omega, by show _ ≤ 7293034; omega⟩ ?_
  refine k_istore (lv' := [(6, .int u.1), (5, .int r.1), (0, .ref b), (1, .ref (kL w 0)), (2, .ref (kL w 126)), (3, .ref (kL w 138)), (4, .int (nI i))]) K dL_law_251 (by decide) rfl ?_
  refine k_aload_n K dL_law_253 4 rfl ?_
  refine cl_L_83 K dL_law_254 ht (by decide) (Nat.le_of_ble_eq_true rfl) ⟨by show _ ≤ 601024; omega, by show _ ≤ 7293034; omega⟩ ?_
  refine k_iload K dL_law_257 1 rfl ?_
  refine k_icmp_eq K 264 dL_law_259 (by decide) (fun _ => ?_) (fun q => absurd g1 q)
  refine k_iload K dL_law_264 1 rfl ?_
  replace h := k_br h
  rcases h with ⟨g2, h⟩ | ⟨g2, h⟩
  · refine k_if_ne K 281 dL_law_266 (by decide) (fun q => absurd g2 q) (fun _ => ?_)
    replace h := k_gd h
    obtain ⟨g3, h⟩ := h
    cases h
    refine k_aload_n K dL_law_269 5 rfl ?_
    refine k_iconst (v := 0) K dL_law_270 (by decide) ?_
    refine k_lald K dL_law_271 kd_138 (show vpi 0 1 by decide) ?_
    refine k_iload K dL_law_272 0 rfl ?_
    refine k_i2l K dL_law_274 ?_
    refine k_lcmp K dL_law_275 ?_
    refine k_if_eq K 281 dL_law_276 (by decide) (fun _ => ?_) (fun q => absurd g3 q)
    refine k_goto K 1245 dL_law_281 (by decide) ?_
    refine k_sub [2, 3, 4, 5, 6] rfl ?_
    refine k_widen (k := k + 3) (n := n + 18) (by omega) (by omega) ?_
    exact go
  · cases h
    refine k_if_ne K 281 dL_law_266 (by decide) (fun _ => ?_) (fun q => absurd q g2)
    refine k_goto K 1245 dL_law_281 (by decide) ?_
    refine k_sub [2, 3, 4, 5, 6] rfl ?_
    refine k_widen (k := k + 3) (n := n + 18) (by omega) (by omega) ?_
    exact go
def fc_3 (σ : kS) (a1 : Int32) (a2 : Int32) : Option kS := (fL_join σ a1 a2).bind fun r => (fX2_join r.2 a1 a2).bind fun u => (fX2_thrown u.2).bind fun t => if t = r.1 then (if r.1 = 0 then (if lg_cmp (u.2.2.2 138 (0 : Int32).toNatClampNeg) u.1.toInt64 = 0 then some u.2 else none) else some u.2) else none
set_option maxRecDepth 20000 in
theorem lc_3 (K : kC w p s m args meth c cL_law 7 RL) (KX : kX w l s) (KN : kNo s) (hX : kScr w s b L xs) {σ τ : kS} {i k n : Nat} (hi : i + 4 ≤ L) (hk : k + 3 ≤ 601024) (hn : n + 18 ≤ 7293034) (h : fc_3 σ (xs (i + 1)) (xs (i + 2)) = some τ) (go : kG w p l e room_1 s m args below meth c Q 7 τ 1245 [(0, .ref b), (1, .ref (kL w 0)), (2, .ref (kL w 126)), (3, .ref (kL w 138)), (4, .int (nI i))] [] (k + 3) (n + 18)) : kG w p l e room_1 s m args below meth c Q 7 σ 284 [(0, .ref b), (1, .ref (kL w 0)), (2, .ref (kL w 126)), (3, .ref (kL w 138)), (4, .int (nI i))] [] k n := by
  unfold fc_3 at h
  replace h := k_bd h
  obtain ⟨r, hr, h⟩ := h
  replace h := k_bd h
  obtain ⟨u, hu, h⟩ := h
  replace h := k_bd h
  obtain ⟨t, ht, h⟩ := h
  replace h := k_gd h
  obtain ⟨g1, h⟩ := h
  refine k_aload_n K dL_law_284 1 rfl ?_
  refine k_aload_n K dL_law_285 0 rfl ?_
  refine k_iload K dL_law_286 4 rfl ?_
  refine k_iconst (v := 1) K dL_law_288 (by decide) ?_
  refine k_iadd K dL_law_289 ?_
  refine k_sld K hX (j := i + 1) dL_law_290 (nI_add i 1) (by omega) ?_
  refine k_aload_n K dL_law_291 0 rfl ?_
  refine k_iload K dL_law_292 4 rfl ?_
  refine k_iconst (v := 2) K dL_law_294 (by decide) ?_
  refine k_iadd K dL_law_295 ?_
  refine k_sld K hX (j := i + 2) dL_law_296 (nI_add i 2) (by omega) ?_
  refine k_aload_n K dL_law_297 3 rfl ?_
  refine cw_L_93 K KX KN dL_law_298 hr (by decide) (Nat.le_of_ble_eq_true rfl) ⟨by show _ ≤ 601024; omega, by show _ ≤ 7293034; omega⟩ ?_
  refine k_istore (lv' := [(5, .int r.1), (0, .ref b), (1, .ref (kL w 0)), (2, .ref (kL w 126)), (3, .ref (kL w 138)), (4, .int (nI i))]) K dL_law_301 (by decide) rfl ?_
  refine k_aload_n K dL_law_303 3 rfl ?_
  refine k_aload_n K dL_law_304 1 rfl ?_
  refine k_iload K dL_law_305 5 rfl ?_
  refine k_iconst (v := 1) K dL_law_307 (by decide) ?_
  refine k_iadd K dL_law_308 ?_
  refine k_sld K hX (j := i + 1) dL_law_309 (nI_add i 1) (by omega) ?_
  refine k_aload_n K dL_law_310 1 rfl ?_
  refine k_iload K dL_law_311 5 rfl ?_
  refine k_iconst (v := 2) K dL_law_313 (by decide) ?_
  refine k_iadd K dL_law_314 ?_
  refine k_sld K hX (j := i + 2) dL_law_315 (nI_add i 2) (by omega) ?_
  refine cl_L_96 K dL_law_316 hu (by decide) (Nat.le_of_ble_eq_true rfl) ⟨by show _ ≤ 601024; omega, by show _ ≤ 7293034; omega⟩ ?_
  refine k_istore (lv' := [(6, .int u.1), (5, .int r.1), (0, .ref b), (1, .ref (kL w 0)), (2, .ref (kL w 126)), (3, .ref (kL w 138)), (4, .int (nI i))]) K dL_law_319 (by decide) rfl ?_
  refine k_aload_n K dL_law_321 4 rfl ?_
  refine cl_L_83 K dL_law_322 ht (by decide) (Nat.le_of_ble_eq_true rfl) ⟨by show _ ≤ 601024; omega, by show _ ≤ 7293034; omega⟩ ?_
  refine k_iload K dL_law_325 1 rfl ?_
  refine k_icmp_eq K 332 dL_law_327 (by decide) (fun _ => ?_) (fun q => absurd g1 q)
  refine k_iload K dL_law_332 1 rfl ?_
  replace h := k_br h
  rcases h with ⟨g2, h⟩ | ⟨g2, h⟩
  · refine k_if_ne K 349 dL_law_334 (by decide) (fun q => absurd g2 q) (fun _ => ?_)
    replace h := k_gd h
    obtain ⟨g3, h⟩ := h
    cases h
    refine k_aload_n K dL_law_337 5 rfl ?_
    refine k_iconst (v := 0) K dL_law_338 (by decide) ?_
    refine k_lald K dL_law_339 kd_138 (show vpi 0 1 by decide) ?_
    refine k_iload K dL_law_340 0 rfl ?_
    refine k_i2l K dL_law_342 ?_
    refine k_lcmp K dL_law_343 ?_
    refine k_if_eq K 349 dL_law_344 (by decide) (fun _ => ?_) (fun q => absurd g3 q)
    refine k_goto K 1245 dL_law_349 (by decide) ?_
    refine k_sub [2, 3, 4, 5, 6] rfl ?_
    refine k_widen (k := k + 3) (n := n + 18) (by omega) (by omega) ?_
    exact go
  · cases h
    refine k_if_ne K 349 dL_law_334 (by decide) (fun _ => ?_) (fun q => absurd q g2)
    refine k_goto K 1245 dL_law_349 (by decide) ?_
    refine k_sub [2, 3, 4, 5, 6] rfl ?_
    refine k_widen (k := k + 3) (n := n + 18) (by omega) (by omega) ?_
    exact go
def fc_4 (σ : kS) (a1 : Int32) : Option kS := (fL_fail σ a1).bind fun r => (fX2_fail r.2 a1).bind fun u => (fX2_thrown u.2).bind fun t => if t = r.1 then (if r.1 = 0 then (if lg_cmp (u.2.2.2 138 (0 : Int32).toNatClampNeg) u.1.toInt64 = 0 then some u.2 else none) else some u.2) else none
set_option maxRecDepth 20000 in
theorem lc_4 (K : kC w p s m args meth c cL_law 7 RL) (KX : kX w l s) (KN : kNo s) (hX : kScr w s b L xs) {σ τ : kS} {i k n : Nat} (hi : i + 4 ≤ L) (hk : k + 3 ≤ 601024) (hn : n + 18 ≤ 7293034) (h : fc_4 σ (xs (i + 1)) = some τ) (go : kG w p l e room_1 s m args below meth c Q 7 τ 1245 [(0, .ref b), (1, .ref (kL w 0)), (2, .ref (kL w 126)), (3, .ref (kL w 138)), (4, .int (nI i))] [] (k + 3) (n + 18)) : kG w p l e room_1 s m args below meth c Q 7 σ 352 [(0, .ref b), (1, .ref (kL w 0)), (2, .ref (kL w 126)), (3, .ref (kL w 138)), (4, .int (nI i))] [] k n := by
  unfold fc_4 at h
  replace h := k_bd h
  obtain ⟨r, hr, h⟩ := h
  replace h := k_bd h
  obtain ⟨u, hu, h⟩ := h
  replace h := k_bd h
  obtain ⟨t, ht, h⟩ := h
  replace h := k_gd h
  obtain ⟨g1, h⟩ := h
  refine k_aload_n K dL_law_352 1 rfl ?_
  refine k_aload_n K dL_law_353 0 rfl ?_
  refine k_iload K dL_law_354 4 rfl ?_
  refine k_iconst (v := 1) K dL_law_356 (by decide) ?_
  refine k_iadd K dL_law_357 ?_
  refine k_sld K hX (j := i + 1) dL_law_358 (nI_add i 1) (by omega) ?_
  refine k_aload_n K dL_law_359 3 rfl ?_
  refine cw_L_97 K KX KN dL_law_360 hr (by decide) (Nat.le_of_ble_eq_true rfl) ⟨by show _ ≤ 601024; omega, by show _ ≤ 7293034; omega⟩ ?_
  refine k_istore (lv' := [(5, .int r.1), (0, .ref b), (1, .ref (kL w 0)), (2, .ref (kL w 126)), (3, .ref (kL w 138)), (4, .int (nI i))]) K dL_law_363 (by decide) rfl ?_
  refine k_aload_n K dL_law_365 3 rfl ?_
  refine k_aload_n K dL_law_366 1 rfl ?_
  refine k_iload K dL_law_367 5 rfl ?_
  refine k_iconst (v := 1) K dL_law_369 (by decide) ?_
  refine k_iadd K dL_law_370 ?_
  refine k_sld K hX (j := i + 1) dL_law_371 (nI_add i 1) (by omega) ?_
  refine cl_L_99 K dL_law_372 hu (by decide) (Nat.le_of_ble_eq_true rfl) ⟨by show _ ≤ 601024; omega, by show _ ≤ 7293034; omega⟩ ?_
  refine k_istore (lv' := [(6, .int u.1), (5, .int r.1), (0, .ref b), (1, .ref (kL w 0)), (2, .ref (kL w 126)), (3, .ref (kL w 138)), (4, .int (nI i))]) K dL_law_375 (by decide) rfl ?_
  refine k_aload_n K dL_law_377 4 rfl ?_
  refine cl_L_83 K dL_law_378 ht (by decide) (Nat.le_of_ble_eq_true rfl) ⟨by show _ ≤ 601024; omega, by show _ ≤ 7293034; omega⟩ ?_
  refine k_iload K dL_law_381 1 rfl ?_
  refine k_icmp_eq K 388 dL_law_383 (by decide) (fun _ => ?_) (fun q => absurd g1 q)
  refine k_iload K dL_law_388 1 rfl ?_
  replace h := k_br h
  rcases h with ⟨g2, h⟩ | ⟨g2, h⟩
  · refine k_if_ne K 405 dL_law_390 (by decide) (fun q => absurd g2 q) (fun _ => ?_)
    replace h := k_gd h
    obtain ⟨g3, h⟩ := h
    cases h
    refine k_aload_n K dL_law_393 5 rfl ?_
    refine k_iconst (v := 0) K dL_law_394 (by decide) ?_
    refine k_lald K dL_law_395 kd_138 (show vpi 0 1 by decide) ?_
    refine k_iload K dL_law_396 0 rfl ?_
    refine k_i2l K dL_law_398 ?_
    refine k_lcmp K dL_law_399 ?_
    refine k_if_eq K 405 dL_law_400 (by decide) (fun _ => ?_) (fun q => absurd g3 q)
    refine k_goto K 1245 dL_law_405 (by decide) ?_
    refine k_sub [2, 3, 4, 5, 6] rfl ?_
    refine k_widen (k := k + 3) (n := n + 18) (by omega) (by omega) ?_
    exact go
  · cases h
    refine k_if_ne K 405 dL_law_390 (by decide) (fun _ => ?_) (fun q => absurd q g2)
    refine k_goto K 1245 dL_law_405 (by decide) ?_
    refine k_sub [2, 3, 4, 5, 6] rfl ?_
    refine k_widen (k := k + 3) (n := n + 18) (by omega) (by omega) ?_
    exact go
def fc_5 (σ : kS) (a1 : Int32) : Option kS := (fL_stabilise σ a1).bind fun r => (fX2_stabilise r.2 a1).bind fun u => (fX2_thrown u.2).bind fun t => if t = r.1 then (if r.1 = 0 then (if lg_cmp (u.2.2.2 138 (0 : Int32).toNatClampNeg) u.1.toInt64 = 0 then some u.2 else none) else some u.2) else none
set_option maxRecDepth 20000 in
theorem lc_5 (K : kC w p s m args meth c cL_law 7 RL) (KX : kX w l s) (KN : kNo s) (hX : kScr w s b L xs) {σ τ : kS} {i k n : Nat} (hi : i + 4 ≤ L) (hk : k + 3 ≤ 601024) (hn : n + 18 ≤ 7293034) (h : fc_5 σ (xs (i + 1)) = some τ) (go : kG w p l e room_1 s m args below meth c Q 7 τ 1245 [(0, .ref b), (1, .ref (kL w 0)), (2, .ref (kL w 126)), (3, .ref (kL w 138)), (4, .int (nI i))] [] (k + 3) (n + 18)) : kG w p l e room_1 s m args below meth c Q 7 σ 408 [(0, .ref b), (1, .ref (kL w 0)), (2, .ref (kL w 126)), (3, .ref (kL w 138)), (4, .int (nI i))] [] k n := by
  unfold fc_5 at h
  replace h := k_bd h
  obtain ⟨r, hr, h⟩ := h
  replace h := k_bd h
  obtain ⟨u, hu, h⟩ := h
  replace h := k_bd h
  obtain ⟨t, ht, h⟩ := h
  replace h := k_gd h
  obtain ⟨g1, h⟩ := h
  refine k_aload_n K dL_law_408 1 rfl ?_
  refine k_aload_n K dL_law_409 0 rfl ?_
  refine k_iload K dL_law_410 4 rfl ?_
  refine k_iconst (v := 1) K dL_law_412 (by decide) ?_
  refine k_iadd K dL_law_413 ?_
  refine k_sld K hX (j := i + 1) dL_law_414 (nI_add i 1) (by omega) ?_
  refine k_aload_n K dL_law_415 3 rfl ?_
  refine cw_L_100 K KX KN dL_law_416 hr (by decide) (Nat.le_of_ble_eq_true rfl) ⟨by show _ ≤ 601024; omega, by show _ ≤ 7293034; omega⟩ ?_
  refine k_istore (lv' := [(5, .int r.1), (0, .ref b), (1, .ref (kL w 0)), (2, .ref (kL w 126)), (3, .ref (kL w 138)), (4, .int (nI i))]) K dL_law_419 (by decide) rfl ?_
  refine k_aload_n K dL_law_421 3 rfl ?_
  refine k_aload_n K dL_law_422 1 rfl ?_
  refine k_iload K dL_law_423 5 rfl ?_
  refine k_iconst (v := 1) K dL_law_425 (by decide) ?_
  refine k_iadd K dL_law_426 ?_
  refine k_sld K hX (j := i + 1) dL_law_427 (nI_add i 1) (by omega) ?_
  refine cl_L_102 K dL_law_428 hu (by decide) (Nat.le_of_ble_eq_true rfl) ⟨by show _ ≤ 601024; omega, by show _ ≤ 7293034; omega⟩ ?_
  refine k_istore (lv' := [(6, .int u.1), (5, .int r.1), (0, .ref b), (1, .ref (kL w 0)), (2, .ref (kL w 126)), (3, .ref (kL w 138)), (4, .int (nI i))]) K dL_law_431 (by decide) rfl ?_
  refine k_aload_n K dL_law_433 4 rfl ?_
  refine cl_L_83 K dL_law_434 ht (by decide) (Nat.le_of_ble_eq_true rfl) ⟨by show _ ≤ 601024; omega, by show _ ≤ 7293034; omega⟩ ?_
  refine k_iload K dL_law_437 1 rfl ?_
  refine k_icmp_eq K 444 dL_law_439 (by decide) (fun _ => ?_) (fun q => absurd g1 q)
  refine k_iload K dL_law_444 1 rfl ?_
  replace h := k_br h
  rcases h with ⟨g2, h⟩ | ⟨g2, h⟩
  · refine k_if_ne K 461 dL_law_446 (by decide) (fun q => absurd g2 q) (fun _ => ?_)
    replace h := k_gd h
    obtain ⟨g3, h⟩ := h
    cases h
    refine k_aload_n K dL_law_449 5 rfl ?_
    refine k_iconst (v := 0) K dL_law_450 (by decide) ?_
    refine k_lald K dL_law_451 kd_138 (show vpi 0 1 by decide) ?_
    refine k_iload K dL_law_452 0 rfl ?_
    refine k_i2l K dL_law_454 ?_
    refine k_lcmp K dL_law_455 ?_
    refine k_if_eq K 461 dL_law_456 (by decide) (fun _ => ?_) (fun q => absurd g3 q)
    refine k_goto K 1245 dL_law_461 (by decide) ?_
    refine k_sub [2, 3, 4, 5, 6] rfl ?_
    refine k_widen (k := k + 3) (n := n + 18) (by omega) (by omega) ?_
    exact go
  · cases h
    refine k_if_ne K 461 dL_law_446 (by decide) (fun _ => ?_) (fun q => absurd q g2)
    refine k_goto K 1245 dL_law_461 (by decide) ?_
    refine k_sub [2, 3, 4, 5, 6] rfl ?_
    refine k_widen (k := k + 3) (n := n + 18) (by omega) (by omega) ?_
    exact go
def fc_6 (σ : kS) (a1 : Int32) (a2 : Int32) : Option kS := (fL_mend σ a1 a2).bind fun r => (fX2_mend r.2 a1 a2).bind fun u => (fX2_thrown u.2).bind fun t => if t = r.1 then (if r.1 = 0 then (if lg_cmp (u.2.2.2 138 (0 : Int32).toNatClampNeg) u.1.toInt64 = 0 then some u.2 else none) else some u.2) else none
set_option maxRecDepth 20000 in
theorem lc_6 (K : kC w p s m args meth c cL_law 7 RL) (KX : kX w l s) (KN : kNo s) (hX : kScr w s b L xs) {σ τ : kS} {i k n : Nat} (hi : i + 4 ≤ L) (hk : k + 3 ≤ 601024) (hn : n + 18 ≤ 7293034) (h : fc_6 σ (xs (i + 1)) (xs (i + 2)) = some τ) (go : kG w p l e room_1 s m args below meth c Q 7 τ 1245 [(0, .ref b), (1, .ref (kL w 0)), (2, .ref (kL w 126)), (3, .ref (kL w 138)), (4, .int (nI i))] [] (k + 3) (n + 18)) : kG w p l e room_1 s m args below meth c Q 7 σ 464 [(0, .ref b), (1, .ref (kL w 0)), (2, .ref (kL w 126)), (3, .ref (kL w 138)), (4, .int (nI i))] [] k n := by
  unfold fc_6 at h
  replace h := k_bd h
  obtain ⟨r, hr, h⟩ := h
  replace h := k_bd h
  obtain ⟨u, hu, h⟩ := h
  replace h := k_bd h
  obtain ⟨t, ht, h⟩ := h
  replace h := k_gd h
  obtain ⟨g1, h⟩ := h
  refine k_aload_n K dL_law_464 1 rfl ?_
  refine k_aload_n K dL_law_465 0 rfl ?_
  refine k_iload K dL_law_466 4 rfl ?_
  refine k_iconst (v := 1) K dL_law_468 (by decide) ?_
  refine k_iadd K dL_law_469 ?_
  refine k_sld K hX (j := i + 1) dL_law_470 (nI_add i 1) (by omega) ?_
  refine k_aload_n K dL_law_471 0 rfl ?_
  refine k_iload K dL_law_472 4 rfl ?_
  refine k_iconst (v := 2) K dL_law_474 (by decide) ?_
  refine k_iadd K dL_law_475 ?_
  refine k_sld K hX (j := i + 2) dL_law_476 (nI_add i 2) (by omega) ?_
  refine k_aload_n K dL_law_477 3 rfl ?_
  refine cw_L_103 K KX KN dL_law_478 hr (by decide) (Nat.le_of_ble_eq_true rfl) ⟨by show _ ≤ 601024; omega, by show _ ≤ 7293034; omega⟩ ?_
  refine k_istore (lv' := [(5, .int r.1), (0, .ref b), (1, .ref (kL w 0)), (2, .ref (kL w 126)), (3, .ref (kL w 138)), (4, .int (nI i))]) K dL_law_481 (by decide) rfl ?_
  refine k_aload_n K dL_law_483 3 rfl ?_
  refine k_aload_n K dL_law_484 1 rfl ?_
  refine k_iload K dL_law_485 5 rfl ?_
  refine k_iconst (v := 1) K dL_law_487 (by decide) ?_
  refine k_iadd K dL_law_488 ?_
  refine k_sld K hX (j := i + 1) dL_law_489 (nI_add i 1) (by omega) ?_
  refine k_aload_n K dL_law_490 1 rfl ?_
  refine k_iload K dL_law_491 5 rfl ?_
  refine k_iconst (v := 2) K dL_law_493 (by decide) ?_
  refine k_iadd K dL_law_494 ?_
  refine k_sld K hX (j := i + 2) dL_law_495 (nI_add i 2) (by omega) ?_
  refine cl_L_105 K dL_law_496 hu (by decide) (Nat.le_of_ble_eq_true rfl) ⟨by show _ ≤ 601024; omega, by show _ ≤ 7293034; omega⟩ ?_
  refine k_istore (lv' := [(6, .int u.1), (5, .int r.1), (0, .ref b), (1, .ref (kL w 0)), (2, .ref (kL w 126)), (3, .ref (kL w 138)), (4, .int (nI i))]) K dL_law_499 (by decide) rfl ?_
  refine k_aload_n K dL_law_501 4 rfl ?_
  refine cl_L_83 K dL_law_502 ht (by decide) (Nat.le_of_ble_eq_true rfl) ⟨by show _ ≤ 601024; omega, by show _ ≤ 7293034; omega⟩ ?_
  refine k_iload K dL_law_505 1 rfl ?_
  refine k_icmp_eq K 512 dL_law_507 (by decide) (fun _ => ?_) (fun q => absurd g1 q)
  refine k_iload K dL_law_512 1 rfl ?_
  replace h := k_br h
  rcases h with ⟨g2, h⟩ | ⟨g2, h⟩
  · refine k_if_ne K 529 dL_law_514 (by decide) (fun q => absurd g2 q) (fun _ => ?_)
    replace h := k_gd h
    obtain ⟨g3, h⟩ := h
    cases h
    refine k_aload_n K dL_law_517 5 rfl ?_
    refine k_iconst (v := 0) K dL_law_518 (by decide) ?_
    refine k_lald K dL_law_519 kd_138 (show vpi 0 1 by decide) ?_
    refine k_iload K dL_law_520 0 rfl ?_
    refine k_i2l K dL_law_522 ?_
    refine k_lcmp K dL_law_523 ?_
    refine k_if_eq K 529 dL_law_524 (by decide) (fun _ => ?_) (fun q => absurd g3 q)
    refine k_goto K 1245 dL_law_529 (by decide) ?_
    refine k_sub [2, 3, 4, 5, 6] rfl ?_
    refine k_widen (k := k + 3) (n := n + 18) (by omega) (by omega) ?_
    exact go
  · cases h
    refine k_if_ne K 529 dL_law_514 (by decide) (fun _ => ?_) (fun q => absurd q g2)
    refine k_goto K 1245 dL_law_529 (by decide) ?_
    refine k_sub [2, 3, 4, 5, 6] rfl ?_
    refine k_widen (k := k + 3) (n := n + 18) (by omega) (by omega) ?_
    exact go
def fc_7 (σ : kS) (a1 : Int32) : Option kS := (fL_handOver σ a1).bind fun r => (fX2_handOver r.2 a1).bind fun u => (fX2_thrown u.2).bind fun t => if t = r.1 then (if r.1 = 0 then (if lg_cmp (u.2.2.2 138 (0 : Int32).toNatClampNeg) u.1.toInt64 = 0 then some u.2 else none) else some u.2) else none
set_option maxRecDepth 20000 in
theorem lc_7 (K : kC w p s m args meth c cL_law 7 RL) (KX : kX w l s) (KN : kNo s) (hX : kScr w s b L xs) {σ τ : kS} {i k n : Nat} (hi : i + 4 ≤ L) (hk : k + 3 ≤ 601024) (hn : n + 18 ≤ 7293034) (h : fc_7 σ (xs (i + 1)) = some τ) (go : kG w p l e room_1 s m args below meth c Q 7 τ 1245 [(0, .ref b), (1, .ref (kL w 0)), (2, .ref (kL w 126)), (3, .ref (kL w 138)), (4, .int (nI i))] [] (k + 3) (n + 18)) : kG w p l e room_1 s m args below meth c Q 7 σ 532 [(0, .ref b), (1, .ref (kL w 0)), (2, .ref (kL w 126)), (3, .ref (kL w 138)), (4, .int (nI i))] [] k n := by
  unfold fc_7 at h
  replace h := k_bd h
  obtain ⟨r, hr, h⟩ := h
  replace h := k_bd h
  obtain ⟨u, hu, h⟩ := h
  replace h := k_bd h
  obtain ⟨t, ht, h⟩ := h
  replace h := k_gd h
  obtain ⟨g1, h⟩ := h
  refine k_aload_n K dL_law_532 1 rfl ?_
  refine k_aload_n K dL_law_533 0 rfl ?_
  refine k_iload K dL_law_534 4 rfl ?_
  refine k_iconst (v := 1) K dL_law_536 (by decide) ?_
  refine k_iadd K dL_law_537 ?_
  refine k_sld K hX (j := i + 1) dL_law_538 (nI_add i 1) (by omega) ?_
  refine k_aload_n K dL_law_539 3 rfl ?_
  refine cw_L_106 K KX KN dL_law_540 hr (by decide) (Nat.le_of_ble_eq_true rfl) ⟨by show _ ≤ 601024; omega, by show _ ≤ 7293034; omega⟩ ?_
  refine k_istore (lv' := [(5, .int r.1), (0, .ref b), (1, .ref (kL w 0)), (2, .ref (kL w 126)), (3, .ref (kL w 138)), (4, .int (nI i))]) K dL_law_543 (by decide) rfl ?_
  refine k_aload_n K dL_law_545 3 rfl ?_
  refine k_aload_n K dL_law_546 1 rfl ?_
  refine k_iload K dL_law_547 5 rfl ?_
  refine k_iconst (v := 1) K dL_law_549 (by decide) ?_
  refine k_iadd K dL_law_550 ?_
  refine k_sld K hX (j := i + 1) dL_law_551 (nI_add i 1) (by omega) ?_
  refine cl_L_108 K dL_law_552 hu (by decide) (Nat.le_of_ble_eq_true rfl) ⟨by show _ ≤ 601024; omega, by show _ ≤ 7293034; omega⟩ ?_
  refine k_istore (lv' := [(6, .int u.1), (5, .int r.1), (0, .ref b), (1, .ref (kL w 0)), (2, .ref (kL w 126)), (3, .ref (kL w 138)), (4, .int (nI i))]) K dL_law_555 (by decide) rfl ?_
  refine k_aload_n K dL_law_557 4 rfl ?_
  refine cl_L_83 K dL_law_558 ht (by decide) (Nat.le_of_ble_eq_true rfl) ⟨by show _ ≤ 601024; omega, by show _ ≤ 7293034; omega⟩ ?_
  refine k_iload K dL_law_561 1 rfl ?_
  refine k_icmp_eq K 568 dL_law_563 (by decide) (fun _ => ?_) (fun q => absurd g1 q)
  refine k_iload K dL_law_568 1 rfl ?_
  replace h := k_br h
  rcases h with ⟨g2, h⟩ | ⟨g2, h⟩
  · refine k_if_ne K 585 dL_law_570 (by decide) (fun q => absurd g2 q) (fun _ => ?_)
    replace h := k_gd h
    obtain ⟨g3, h⟩ := h
    cases h
    refine k_aload_n K dL_law_573 5 rfl ?_
    refine k_iconst (v := 0) K dL_law_574 (by decide) ?_
    refine k_lald K dL_law_575 kd_138 (show vpi 0 1 by decide) ?_
    refine k_iload K dL_law_576 0 rfl ?_
    refine k_i2l K dL_law_578 ?_
    refine k_lcmp K dL_law_579 ?_
    refine k_if_eq K 585 dL_law_580 (by decide) (fun _ => ?_) (fun q => absurd g3 q)
    refine k_goto K 1245 dL_law_585 (by decide) ?_
    refine k_sub [2, 3, 4, 5, 6] rfl ?_
    refine k_widen (k := k + 3) (n := n + 18) (by omega) (by omega) ?_
    exact go
  · cases h
    refine k_if_ne K 585 dL_law_570 (by decide) (fun _ => ?_) (fun q => absurd q g2)
    refine k_goto K 1245 dL_law_585 (by decide) ?_
    refine k_sub [2, 3, 4, 5, 6] rfl ?_
    refine k_widen (k := k + 3) (n := n + 18) (by omega) (by omega) ?_
    exact go
def fc_8 (σ : kS) (a1 : Int32) : Option kS := (fL_spread σ a1).bind fun r => (fX2_spread r.2 a1).bind fun u => (fX2_thrown u.2).bind fun t => if t = r.1 then (if r.1 = 0 then (if lg_cmp (u.2.2.2 138 (0 : Int32).toNatClampNeg) u.1.toInt64 = 0 then some u.2 else none) else some u.2) else none
set_option maxRecDepth 20000 in
theorem lc_8 (K : kC w p s m args meth c cL_law 7 RL) (KX : kX w l s) (KN : kNo s) (hX : kScr w s b L xs) {σ τ : kS} {i k n : Nat} (hi : i + 4 ≤ L) (hk : k + 3 ≤ 601024) (hn : n + 18 ≤ 7293034) (h : fc_8 σ (xs (i + 1)) = some τ) (go : kG w p l e room_1 s m args below meth c Q 7 τ 1245 [(0, .ref b), (1, .ref (kL w 0)), (2, .ref (kL w 126)), (3, .ref (kL w 138)), (4, .int (nI i))] [] (k + 3) (n + 18)) : kG w p l e room_1 s m args below meth c Q 7 σ 588 [(0, .ref b), (1, .ref (kL w 0)), (2, .ref (kL w 126)), (3, .ref (kL w 138)), (4, .int (nI i))] [] k n := by
  unfold fc_8 at h
  replace h := k_bd h
  obtain ⟨r, hr, h⟩ := h
  replace h := k_bd h
  obtain ⟨u, hu, h⟩ := h
  replace h := k_bd h
  obtain ⟨t, ht, h⟩ := h
  replace h := k_gd h
  obtain ⟨g1, h⟩ := h
  refine k_aload_n K dL_law_588 1 rfl ?_
  refine k_aload_n K dL_law_589 0 rfl ?_
  refine k_iload K dL_law_590 4 rfl ?_
  refine k_iconst (v := 1) K dL_law_592 (by decide) ?_
  refine k_iadd K dL_law_593 ?_
  refine k_sld K hX (j := i + 1) dL_law_594 (nI_add i 1) (by omega) ?_
  refine k_aload_n K dL_law_595 3 rfl ?_
  refine cw_L_109 K KX KN dL_law_596 hr (by decide) (Nat.le_of_ble_eq_true rfl) ⟨by show _ ≤ 601024; omega, by show _ ≤ 7293034; omega⟩ ?_
  refine k_istore (lv' := [(5, .int r.1), (0, .ref b), (1, .ref (kL w 0)), (2, .ref (kL w 126)), (3, .ref (kL w 138)), (4, .int (nI i))]) K dL_law_599 (by decide) rfl ?_
  refine k_aload_n K dL_law_601 3 rfl ?_
  refine k_aload_n K dL_law_602 1 rfl ?_
  refine k_iload K dL_law_603 5 rfl ?_
  refine k_iconst (v := 1) K dL_law_605 (by decide) ?_
  refine k_iadd K dL_law_606 ?_
  refine k_sld K hX (j := i + 1) dL_law_607 (nI_add i 1) (by omega) ?_
  refine cl_L_111 K dL_law_608 hu (by decide) (Nat.le_of_ble_eq_true rfl) ⟨by show _ ≤ 601024; omega, by show _ ≤ 7293034; omega⟩ ?_
  refine k_istore (lv' := [(6, .int u.1), (5, .int r.1), (0, .ref b), (1, .ref (kL w 0)), (2, .ref (kL w 126)), (3, .ref (kL w 138)), (4, .int (nI i))]) K dL_law_611 (by decide) rfl ?_
  refine k_aload_n K dL_law_613 4 rfl ?_
  refine cl_L_83 K dL_law_614 ht (by decide) (Nat.le_of_ble_eq_true rfl) ⟨by show _ ≤ 601024; omega, by show _ ≤ 7293034; omega⟩ ?_
  refine k_iload K dL_law_617 1 rfl ?_
  refine k_icmp_eq K 624 dL_law_619 (by decide) (fun _ => ?_) (fun q => absurd g1 q)
  refine k_iload K dL_law_624 1 rfl ?_
  replace h := k_br h
  rcases h with ⟨g2, h⟩ | ⟨g2, h⟩
  · refine k_if_ne K 641 dL_law_626 (by decide) (fun q => absurd g2 q) (fun _ => ?_)
    replace h := k_gd h
    obtain ⟨g3, h⟩ := h
    cases h
    refine k_aload_n K dL_law_629 5 rfl ?_
    refine k_iconst (v := 0) K dL_law_630 (by decide) ?_
    refine k_lald K dL_law_631 kd_138 (show vpi 0 1 by decide) ?_
    refine k_iload K dL_law_632 0 rfl ?_
    refine k_i2l K dL_law_634 ?_
    refine k_lcmp K dL_law_635 ?_
    refine k_if_eq K 641 dL_law_636 (by decide) (fun _ => ?_) (fun q => absurd g3 q)
    refine k_goto K 1245 dL_law_641 (by decide) ?_
    refine k_sub [2, 3, 4, 5, 6] rfl ?_
    refine k_widen (k := k + 3) (n := n + 18) (by omega) (by omega) ?_
    exact go
  · cases h
    refine k_if_ne K 641 dL_law_626 (by decide) (fun _ => ?_) (fun q => absurd q g2)
    refine k_goto K 1245 dL_law_641 (by decide) ?_
    refine k_sub [2, 3, 4, 5, 6] rfl ?_
    refine k_widen (k := k + 3) (n := n + 18) (by omega) (by omega) ?_
    exact go
def fc_9 (σ : kS) (a1 : Int32) : Option kS := (fL_rounds σ a1).bind fun r => (fX2_rounds r.2 a1).bind fun u => (fX2_thrown u.2).bind fun t => if t = r.1 then (if r.1 = 0 then (if lg_cmp (u.2.2.2 138 (0 : Int32).toNatClampNeg) u.1.toInt64 = 0 then some u.2 else none) else some u.2) else none
set_option maxRecDepth 20000 in
theorem lc_9 (K : kC w p s m args meth c cL_law 7 RL) (KX : kX w l s) (KN : kNo s) (hX : kScr w s b L xs) {σ τ : kS} {i k n : Nat} (hi : i + 4 ≤ L) (hk : k + 3 ≤ 601024) (hn : n + 18 ≤ 7293034) (h : fc_9 σ (xs (i + 1)) = some τ) (go : kG w p l e room_1 s m args below meth c Q 7 τ 1245 [(0, .ref b), (1, .ref (kL w 0)), (2, .ref (kL w 126)), (3, .ref (kL w 138)), (4, .int (nI i))] [] (k + 3) (n + 18)) : kG w p l e room_1 s m args below meth c Q 7 σ 644 [(0, .ref b), (1, .ref (kL w 0)), (2, .ref (kL w 126)), (3, .ref (kL w 138)), (4, .int (nI i))] [] k n := by
  unfold fc_9 at h
  replace h := k_bd h
  obtain ⟨r, hr, h⟩ := h
  replace h := k_bd h
  obtain ⟨u, hu, h⟩ := h
  replace h := k_bd h
  obtain ⟨t, ht, h⟩ := h
  replace h := k_gd h
  obtain ⟨g1, h⟩ := h
  refine k_aload_n K dL_law_644 1 rfl ?_
  refine k_aload_n K dL_law_645 0 rfl ?_
  refine k_iload K dL_law_646 4 rfl ?_
  refine k_iconst (v := 1) K dL_law_648 (by decide) ?_
  refine k_iadd K dL_law_649 ?_
  refine k_sld K hX (j := i + 1) dL_law_650 (nI_add i 1) (by omega) ?_
  refine k_aload_n K dL_law_651 3 rfl ?_
  refine cw_L_112 K KX KN dL_law_652 hr (by decide) (Nat.le_of_ble_eq_true rfl) ⟨by show _ ≤ 601024; omega, by show _ ≤ 7293034; omega⟩ ?_
  refine k_istore (lv' := [(5, .int r.1), (0, .ref b), (1, .ref (kL w 0)), (2, .ref (kL w 126)), (3, .ref (kL w 138)), (4, .int (nI i))]) K dL_law_655 (by decide) rfl ?_
  refine k_aload_n K dL_law_657 3 rfl ?_
  refine k_aload_n K dL_law_658 1 rfl ?_
  refine k_iload K dL_law_659 5 rfl ?_
  refine k_iconst (v := 1) K dL_law_661 (by decide) ?_
  refine k_iadd K dL_law_662 ?_
  refine k_sld K hX (j := i + 1) dL_law_663 (nI_add i 1) (by omega) ?_
  refine cl_L_114 K dL_law_664 hu (by decide) (Nat.le_of_ble_eq_true rfl) ⟨by show _ ≤ 601024; omega, by show _ ≤ 7293034; omega⟩ ?_
  refine k_istore (lv' := [(6, .int u.1), (5, .int r.1), (0, .ref b), (1, .ref (kL w 0)), (2, .ref (kL w 126)), (3, .ref (kL w 138)), (4, .int (nI i))]) K dL_law_667 (by decide) rfl ?_
  refine k_aload_n K dL_law_669 4 rfl ?_
  refine cl_L_83 K dL_law_670 ht (by decide) (Nat.le_of_ble_eq_true rfl) ⟨by show _ ≤ 601024; omega, by show _ ≤ 7293034; omega⟩ ?_
  refine k_iload K dL_law_673 1 rfl ?_
  refine k_icmp_eq K 680 dL_law_675 (by decide) (fun _ => ?_) (fun q => absurd g1 q)
  refine k_iload K dL_law_680 1 rfl ?_
  replace h := k_br h
  rcases h with ⟨g2, h⟩ | ⟨g2, h⟩
  · refine k_if_ne K 697 dL_law_682 (by decide) (fun q => absurd g2 q) (fun _ => ?_)
    replace h := k_gd h
    obtain ⟨g3, h⟩ := h
    cases h
    refine k_aload_n K dL_law_685 5 rfl ?_
    refine k_iconst (v := 0) K dL_law_686 (by decide) ?_
    refine k_lald K dL_law_687 kd_138 (show vpi 0 1 by decide) ?_
    refine k_iload K dL_law_688 0 rfl ?_
    refine k_i2l K dL_law_690 ?_
    refine k_lcmp K dL_law_691 ?_
    refine k_if_eq K 697 dL_law_692 (by decide) (fun _ => ?_) (fun q => absurd g3 q)
    refine k_goto K 1245 dL_law_697 (by decide) ?_
    refine k_sub [2, 3, 4, 5, 6] rfl ?_
    refine k_widen (k := k + 3) (n := n + 18) (by omega) (by omega) ?_
    exact go
  · cases h
    refine k_if_ne K 697 dL_law_682 (by decide) (fun _ => ?_) (fun q => absurd q g2)
    refine k_goto K 1245 dL_law_697 (by decide) ?_
    refine k_sub [2, 3, 4, 5, 6] rfl ?_
    refine k_widen (k := k + 3) (n := n + 18) (by omega) (by omega) ?_
    exact go
def fc_10 (σ : kS) (a1 : Int32) (a2 : Int32) : Option kS := (fL_look σ a1 a2).bind fun r => (fX2_look r.2 a1 a2).bind fun u => (fX2_thrown u.2).bind fun t => if t = r.1 then (if r.1 = 0 then (if lg_cmp (u.2.2.2 138 (0 : Int32).toNatClampNeg) u.1.toInt64 = 0 then some u.2 else none) else some u.2) else none
set_option maxRecDepth 20000 in
theorem lc_10 (K : kC w p s m args meth c cL_law 7 RL) (KX : kX w l s) (KN : kNo s) (hX : kScr w s b L xs) {σ τ : kS} {i k n : Nat} (hi : i + 4 ≤ L) (hk : k + 3 ≤ 601024) (hn : n + 18 ≤ 7293034) (h : fc_10 σ (xs (i + 1)) (xs (i + 2)) = some τ) (go : kG w p l e room_1 s m args below meth c Q 7 τ 1245 [(0, .ref b), (1, .ref (kL w 0)), (2, .ref (kL w 126)), (3, .ref (kL w 138)), (4, .int (nI i))] [] (k + 3) (n + 18)) : kG w p l e room_1 s m args below meth c Q 7 σ 700 [(0, .ref b), (1, .ref (kL w 0)), (2, .ref (kL w 126)), (3, .ref (kL w 138)), (4, .int (nI i))] [] k n := by
  unfold fc_10 at h
  replace h := k_bd h
  obtain ⟨r, hr, h⟩ := h
  replace h := k_bd h
  obtain ⟨u, hu, h⟩ := h
  replace h := k_bd h
  obtain ⟨t, ht, h⟩ := h
  replace h := k_gd h
  obtain ⟨g1, h⟩ := h
  refine k_aload_n K dL_law_700 1 rfl ?_
  refine k_aload_n K dL_law_701 0 rfl ?_
  refine k_iload K dL_law_702 4 rfl ?_
  refine k_iconst (v := 1) K dL_law_704 (by decide) ?_
  refine k_iadd K dL_law_705 ?_
  refine k_sld K hX (j := i + 1) dL_law_706 (nI_add i 1) (by omega) ?_
  refine k_aload_n K dL_law_707 0 rfl ?_
  refine k_iload K dL_law_708 4 rfl ?_
  refine k_iconst (v := 2) K dL_law_710 (by decide) ?_
  refine k_iadd K dL_law_711 ?_
  refine k_sld K hX (j := i + 2) dL_law_712 (nI_add i 2) (by omega) ?_
  refine k_aload_n K dL_law_713 3 rfl ?_
  refine cw_L_115 K KX KN dL_law_714 hr (by decide) (Nat.le_of_ble_eq_true rfl) ⟨by show _ ≤ 601024; omega, by show _ ≤ 7293034; omega⟩ ?_
  refine k_istore (lv' := [(5, .int r.1), (0, .ref b), (1, .ref (kL w 0)), (2, .ref (kL w 126)), (3, .ref (kL w 138)), (4, .int (nI i))]) K dL_law_717 (by decide) rfl ?_
  refine k_aload_n K dL_law_719 3 rfl ?_
  refine k_aload_n K dL_law_720 1 rfl ?_
  refine k_iload K dL_law_721 5 rfl ?_
  refine k_iconst (v := 1) K dL_law_723 (by decide) ?_
  refine k_iadd K dL_law_724 ?_
  refine k_sld K hX (j := i + 1) dL_law_725 (nI_add i 1) (by omega) ?_
  refine k_aload_n K dL_law_726 1 rfl ?_
  refine k_iload K dL_law_727 5 rfl ?_
  refine k_iconst (v := 2) K dL_law_729 (by decide) ?_
  refine k_iadd K dL_law_730 ?_
  refine k_sld K hX (j := i + 2) dL_law_731 (nI_add i 2) (by omega) ?_
  refine cl_L_117 K dL_law_732 hu (by decide) (Nat.le_of_ble_eq_true rfl) ⟨by show _ ≤ 601024; omega, by show _ ≤ 7293034; omega⟩ ?_
  refine k_istore (lv' := [(6, .int u.1), (5, .int r.1), (0, .ref b), (1, .ref (kL w 0)), (2, .ref (kL w 126)), (3, .ref (kL w 138)), (4, .int (nI i))]) K dL_law_735 (by decide) rfl ?_
  refine k_aload_n K dL_law_737 4 rfl ?_
  refine cl_L_83 K dL_law_738 ht (by decide) (Nat.le_of_ble_eq_true rfl) ⟨by show _ ≤ 601024; omega, by show _ ≤ 7293034; omega⟩ ?_
  refine k_iload K dL_law_741 1 rfl ?_
  refine k_icmp_eq K 748 dL_law_743 (by decide) (fun _ => ?_) (fun q => absurd g1 q)
  refine k_iload K dL_law_748 1 rfl ?_
  replace h := k_br h
  rcases h with ⟨g2, h⟩ | ⟨g2, h⟩
  · refine k_if_ne K 765 dL_law_750 (by decide) (fun q => absurd g2 q) (fun _ => ?_)
    replace h := k_gd h
    obtain ⟨g3, h⟩ := h
    cases h
    refine k_aload_n K dL_law_753 5 rfl ?_
    refine k_iconst (v := 0) K dL_law_754 (by decide) ?_
    refine k_lald K dL_law_755 kd_138 (show vpi 0 1 by decide) ?_
    refine k_iload K dL_law_756 0 rfl ?_
    refine k_i2l K dL_law_758 ?_
    refine k_lcmp K dL_law_759 ?_
    refine k_if_eq K 765 dL_law_760 (by decide) (fun _ => ?_) (fun q => absurd g3 q)
    refine k_goto K 1245 dL_law_765 (by decide) ?_
    refine k_sub [2, 3, 4, 5, 6] rfl ?_
    refine k_widen (k := k + 3) (n := n + 18) (by omega) (by omega) ?_
    exact go
  · cases h
    refine k_if_ne K 765 dL_law_750 (by decide) (fun _ => ?_) (fun q => absurd q g2)
    refine k_goto K 1245 dL_law_765 (by decide) ?_
    refine k_sub [2, 3, 4, 5, 6] rfl ?_
    refine k_widen (k := k + 3) (n := n + 18) (by omega) (by omega) ?_
    exact go
def fc_11 (σ : kS) (a1 : Int32) : Option kS := (fL_hop σ a1).bind fun r => (fX2_hop r.2 a1).bind fun u => (fX2_thrown u.2).bind fun t => if t = r.1 then (if r.1 = 0 then (if lg_cmp (u.2.2.2 138 (0 : Int32).toNatClampNeg) u.1.toInt64 = 0 then some u.2 else none) else some u.2) else none
set_option maxRecDepth 20000 in
theorem lc_11 (K : kC w p s m args meth c cL_law 7 RL) (KX : kX w l s) (KN : kNo s) (hX : kScr w s b L xs) {σ τ : kS} {i k n : Nat} (hi : i + 4 ≤ L) (hk : k + 3 ≤ 601024) (hn : n + 18 ≤ 7293034) (h : fc_11 σ (xs (i + 1)) = some τ) (go : kG w p l e room_1 s m args below meth c Q 7 τ 1245 [(0, .ref b), (1, .ref (kL w 0)), (2, .ref (kL w 126)), (3, .ref (kL w 138)), (4, .int (nI i))] [] (k + 3) (n + 18)) : kG w p l e room_1 s m args below meth c Q 7 σ 768 [(0, .ref b), (1, .ref (kL w 0)), (2, .ref (kL w 126)), (3, .ref (kL w 138)), (4, .int (nI i))] [] k n := by
  unfold fc_11 at h
  replace h := k_bd h
  obtain ⟨r, hr, h⟩ := h
  replace h := k_bd h
  obtain ⟨u, hu, h⟩ := h
  replace h := k_bd h
  obtain ⟨t, ht, h⟩ := h
  replace h := k_gd h
  obtain ⟨g1, h⟩ := h
  refine k_aload_n K dL_law_768 1 rfl ?_
  refine k_aload_n K dL_law_769 0 rfl ?_
  refine k_iload K dL_law_770 4 rfl ?_
  refine k_iconst (v := 1) K dL_law_772 (by decide) ?_
  refine k_iadd K dL_law_773 ?_
  refine k_sld K hX (j := i + 1) dL_law_774 (nI_add i 1) (by omega) ?_
  refine k_aload_n K dL_law_775 3 rfl ?_
  refine cw_L_118 K KX KN dL_law_776 hr (by decide) (Nat.le_of_ble_eq_true rfl) ⟨by show _ ≤ 601024; omega, by show _ ≤ 7293034; omega⟩ ?_
  refine k_istore (lv' := [(5, .int r.1), (0, .ref b), (1, .ref (kL w 0)), (2, .ref (kL w 126)), (3, .ref (kL w 138)), (4, .int (nI i))]) K dL_law_779 (by decide) rfl ?_
  refine k_aload_n K dL_law_781 3 rfl ?_
  refine k_aload_n K dL_law_782 1 rfl ?_
  refine k_iload K dL_law_783 5 rfl ?_
  refine k_iconst (v := 1) K dL_law_785 (by decide) ?_
  refine k_iadd K dL_law_786 ?_
  refine k_sld K hX (j := i + 1) dL_law_787 (nI_add i 1) (by omega) ?_
  refine cl_L_120 K dL_law_788 hu (by decide) (Nat.le_of_ble_eq_true rfl) ⟨by show _ ≤ 601024; omega, by show _ ≤ 7293034; omega⟩ ?_
  refine k_istore (lv' := [(6, .int u.1), (5, .int r.1), (0, .ref b), (1, .ref (kL w 0)), (2, .ref (kL w 126)), (3, .ref (kL w 138)), (4, .int (nI i))]) K dL_law_791 (by decide) rfl ?_
  refine k_aload_n K dL_law_793 4 rfl ?_
  refine cl_L_83 K dL_law_794 ht (by decide) (Nat.le_of_ble_eq_true rfl) ⟨by show _ ≤ 601024; omega, by show _ ≤ 7293034; omega⟩ ?_
  refine k_iload K dL_law_797 1 rfl ?_
  refine k_icmp_eq K 804 dL_law_799 (by decide) (fun _ => ?_) (fun q => absurd g1 q)
  refine k_iload K dL_law_804 1 rfl ?_
  replace h := k_br h
  rcases h with ⟨g2, h⟩ | ⟨g2, h⟩
  · refine k_if_ne K 821 dL_law_806 (by decide) (fun q => absurd g2 q) (fun _ => ?_)
    replace h := k_gd h
    obtain ⟨g3, h⟩ := h
    cases h
    refine k_aload_n K dL_law_809 5 rfl ?_
    refine k_iconst (v := 0) K dL_law_810 (by decide) ?_
    refine k_lald K dL_law_811 kd_138 (show vpi 0 1 by decide) ?_
    refine k_iload K dL_law_812 0 rfl ?_
    refine k_i2l K dL_law_814 ?_
    refine k_lcmp K dL_law_815 ?_
    refine k_if_eq K 821 dL_law_816 (by decide) (fun _ => ?_) (fun q => absurd g3 q)
    refine k_goto K 1245 dL_law_821 (by decide) ?_
    refine k_sub [2, 3, 4, 5, 6] rfl ?_
    refine k_widen (k := k + 3) (n := n + 18) (by omega) (by omega) ?_
    exact go
  · cases h
    refine k_if_ne K 821 dL_law_806 (by decide) (fun _ => ?_) (fun q => absurd q g2)
    refine k_goto K 1245 dL_law_821 (by decide) ?_
    refine k_sub [2, 3, 4, 5, 6] rfl ?_
    refine k_widen (k := k + 3) (n := n + 18) (by omega) (by omega) ?_
    exact go
def fc_12 (σ : kS) (a1 : Int32) (a2 : Int32) (a3 : Int32) : Option kS := (fL_put σ a1 a2 a3).bind fun r => (fX2_put r.2 a1 a2 a3).bind fun u => (fX2_thrown u.2).bind fun t => if t = r.1 then (if r.1 = 0 then (if lg_cmp (u.2.2.2 138 (0 : Int32).toNatClampNeg) u.1.toInt64 = 0 then some u.2 else none) else some u.2) else none
set_option maxRecDepth 20000 in
theorem lc_12 (K : kC w p s m args meth c cL_law 7 RL) (KX : kX w l s) (KN : kNo s) (hX : kScr w s b L xs) {σ τ : kS} {i k n : Nat} (hi : i + 4 ≤ L) (hk : k + 3 ≤ 601024) (hn : n + 18 ≤ 7293034) (h : fc_12 σ (xs (i + 1)) (xs (i + 2)) (xs (i + 3)) = some τ) (go : kG w p l e room_1 s m args below meth c Q 7 τ 1245 [(0, .ref b), (1, .ref (kL w 0)), (2, .ref (kL w 126)), (3, .ref (kL w 138)), (4, .int (nI i))] [] (k + 3) (n + 18)) : kG w p l e room_1 s m args below meth c Q 7 σ 824 [(0, .ref b), (1, .ref (kL w 0)), (2, .ref (kL w 126)), (3, .ref (kL w 138)), (4, .int (nI i))] [] k n := by
  unfold fc_12 at h
  replace h := k_bd h
  obtain ⟨r, hr, h⟩ := h
  replace h := k_bd h
  obtain ⟨u, hu, h⟩ := h
  replace h := k_bd h
  obtain ⟨t, ht, h⟩ := h
  replace h := k_gd h
  obtain ⟨g1, h⟩ := h
  refine k_aload_n K dL_law_824 1 rfl ?_
  refine k_aload_n K dL_law_825 0 rfl ?_
  refine k_iload K dL_law_826 4 rfl ?_
  refine k_iconst (v := 1) K dL_law_828 (by decide) ?_
  refine k_iadd K dL_law_829 ?_
  refine k_sld K hX (j := i + 1) dL_law_830 (nI_add i 1) (by omega) ?_
  refine k_aload_n K dL_law_831 0 rfl ?_
  refine k_iload K dL_law_832 4 rfl ?_
  refine k_iconst (v := 2) K dL_law_834 (by decide) ?_
  refine k_iadd K dL_law_835 ?_
  refine k_sld K hX (j := i + 2) dL_law_836 (nI_add i 2) (by omega) ?_
  refine k_aload_n K dL_law_837 0 rfl ?_
  refine k_iload K dL_law_838 4 rfl ?_
  refine k_iconst (v := 3) K dL_law_840 (by decide) ?_
  refine k_iadd K dL_law_841 ?_
  refine k_sld K hX (j := i + 3) dL_law_842 (nI_add i 3) (by omega) ?_
  refine k_aload_n K dL_law_843 3 rfl ?_
  refine cw_L_121 K KX KN dL_law_844 hr (by decide) (Nat.le_of_ble_eq_true rfl) ⟨by show _ ≤ 601024; omega, by show _ ≤ 7293034; omega⟩ ?_
  refine k_istore (lv' := [(5, .int r.1), (0, .ref b), (1, .ref (kL w 0)), (2, .ref (kL w 126)), (3, .ref (kL w 138)), (4, .int (nI i))]) K dL_law_847 (by decide) rfl ?_
  refine k_aload_n K dL_law_849 3 rfl ?_
  refine k_aload_n K dL_law_850 1 rfl ?_
  refine k_iload K dL_law_851 5 rfl ?_
  refine k_iconst (v := 1) K dL_law_853 (by decide) ?_
  refine k_iadd K dL_law_854 ?_
  refine k_sld K hX (j := i + 1) dL_law_855 (nI_add i 1) (by omega) ?_
  refine k_aload_n K dL_law_856 1 rfl ?_
  refine k_iload K dL_law_857 5 rfl ?_
  refine k_iconst (v := 2) K dL_law_859 (by decide) ?_
  refine k_iadd K dL_law_860 ?_
  refine k_sld K hX (j := i + 2) dL_law_861 (nI_add i 2) (by omega) ?_
  refine k_aload_n K dL_law_862 1 rfl ?_
  refine k_iload K dL_law_863 5 rfl ?_
  refine k_iconst (v := 3) K dL_law_865 (by decide) ?_
  refine k_iadd K dL_law_866 ?_
  refine k_sld K hX (j := i + 3) dL_law_867 (nI_add i 3) (by omega) ?_
  refine cl_L_124 K dL_law_868 hu (by decide) (Nat.le_of_ble_eq_true rfl) ⟨by show _ ≤ 601024; omega, by show _ ≤ 7293034; omega⟩ ?_
  refine k_istore (lv' := [(6, .int u.1), (5, .int r.1), (0, .ref b), (1, .ref (kL w 0)), (2, .ref (kL w 126)), (3, .ref (kL w 138)), (4, .int (nI i))]) K dL_law_871 (by decide) rfl ?_
  refine k_aload_n K dL_law_873 4 rfl ?_
  refine cl_L_83 K dL_law_874 ht (by decide) (Nat.le_of_ble_eq_true rfl) ⟨by show _ ≤ 601024; omega, by show _ ≤ 7293034; omega⟩ ?_
  refine k_iload K dL_law_877 1 rfl ?_
  refine k_icmp_eq K 884 dL_law_879 (by decide) (fun _ => ?_) (fun q => absurd g1 q)
  refine k_iload K dL_law_884 1 rfl ?_
  replace h := k_br h
  rcases h with ⟨g2, h⟩ | ⟨g2, h⟩
  · refine k_if_ne K 901 dL_law_886 (by decide) (fun q => absurd g2 q) (fun _ => ?_)
    replace h := k_gd h
    obtain ⟨g3, h⟩ := h
    cases h
    refine k_aload_n K dL_law_889 5 rfl ?_
    refine k_iconst (v := 0) K dL_law_890 (by decide) ?_
    refine k_lald K dL_law_891 kd_138 (show vpi 0 1 by decide) ?_
    refine k_iload K dL_law_892 0 rfl ?_
    refine k_i2l K dL_law_894 ?_
    refine k_lcmp K dL_law_895 ?_
    refine k_if_eq K 901 dL_law_896 (by decide) (fun _ => ?_) (fun q => absurd g3 q)
    refine k_goto K 1245 dL_law_901 (by decide) ?_
    refine k_sub [2, 3, 4, 5, 6] rfl ?_
    refine k_widen (k := k + 3) (n := n + 18) (by omega) (by omega) ?_
    exact go
  · cases h
    refine k_if_ne K 901 dL_law_886 (by decide) (fun _ => ?_) (fun q => absurd q g2)
    refine k_goto K 1245 dL_law_901 (by decide) ?_
    refine k_sub [2, 3, 4, 5, 6] rfl ?_
    refine k_widen (k := k + 3) (n := n + 18) (by omega) (by omega) ?_
    exact go
def fc_13 (σ : kS) (a1 : Int32) (a2 : Int32) : Option kS := (fL_get σ a1 a2).bind fun r => (fX2_get r.2 a1 a2).bind fun u => (fX2_thrown u.2).bind fun t => if t = r.1 then (if r.1 = 0 then (if lg_cmp (u.2.2.2 138 (0 : Int32).toNatClampNeg) u.1.toInt64 = 0 then some u.2 else none) else some u.2) else none
set_option maxRecDepth 20000 in
theorem lc_13 (K : kC w p s m args meth c cL_law 7 RL) (KX : kX w l s) (KN : kNo s) (hX : kScr w s b L xs) {σ τ : kS} {i k n : Nat} (hi : i + 4 ≤ L) (hk : k + 3 ≤ 601024) (hn : n + 18 ≤ 7293034) (h : fc_13 σ (xs (i + 1)) (xs (i + 2)) = some τ) (go : kG w p l e room_1 s m args below meth c Q 7 τ 1245 [(0, .ref b), (1, .ref (kL w 0)), (2, .ref (kL w 126)), (3, .ref (kL w 138)), (4, .int (nI i))] [] (k + 3) (n + 18)) : kG w p l e room_1 s m args below meth c Q 7 σ 904 [(0, .ref b), (1, .ref (kL w 0)), (2, .ref (kL w 126)), (3, .ref (kL w 138)), (4, .int (nI i))] [] k n := by
  unfold fc_13 at h
  replace h := k_bd h
  obtain ⟨r, hr, h⟩ := h
  replace h := k_bd h
  obtain ⟨u, hu, h⟩ := h
  replace h := k_bd h
  obtain ⟨t, ht, h⟩ := h
  replace h := k_gd h
  obtain ⟨g1, h⟩ := h
  refine k_aload_n K dL_law_904 1 rfl ?_
  refine k_aload_n K dL_law_905 0 rfl ?_
  refine k_iload K dL_law_906 4 rfl ?_
  refine k_iconst (v := 1) K dL_law_908 (by decide) ?_
  refine k_iadd K dL_law_909 ?_
  refine k_sld K hX (j := i + 1) dL_law_910 (nI_add i 1) (by omega) ?_
  refine k_aload_n K dL_law_911 0 rfl ?_
  refine k_iload K dL_law_912 4 rfl ?_
  refine k_iconst (v := 2) K dL_law_914 (by decide) ?_
  refine k_iadd K dL_law_915 ?_
  refine k_sld K hX (j := i + 2) dL_law_916 (nI_add i 2) (by omega) ?_
  refine k_aload_n K dL_law_917 3 rfl ?_
  refine cw_L_125 K KX KN dL_law_918 hr (by decide) (Nat.le_of_ble_eq_true rfl) ⟨by show _ ≤ 601024; omega, by show _ ≤ 7293034; omega⟩ ?_
  refine k_istore (lv' := [(5, .int r.1), (0, .ref b), (1, .ref (kL w 0)), (2, .ref (kL w 126)), (3, .ref (kL w 138)), (4, .int (nI i))]) K dL_law_921 (by decide) rfl ?_
  refine k_aload_n K dL_law_923 3 rfl ?_
  refine k_aload_n K dL_law_924 1 rfl ?_
  refine k_iload K dL_law_925 5 rfl ?_
  refine k_iconst (v := 1) K dL_law_927 (by decide) ?_
  refine k_iadd K dL_law_928 ?_
  refine k_sld K hX (j := i + 1) dL_law_929 (nI_add i 1) (by omega) ?_
  refine k_aload_n K dL_law_930 1 rfl ?_
  refine k_iload K dL_law_931 5 rfl ?_
  refine k_iconst (v := 2) K dL_law_933 (by decide) ?_
  refine k_iadd K dL_law_934 ?_
  refine k_sld K hX (j := i + 2) dL_law_935 (nI_add i 2) (by omega) ?_
  refine cl_L_127 K dL_law_936 hu (by decide) (Nat.le_of_ble_eq_true rfl) ⟨by show _ ≤ 601024; omega, by show _ ≤ 7293034; omega⟩ ?_
  refine k_istore (lv' := [(6, .int u.1), (5, .int r.1), (0, .ref b), (1, .ref (kL w 0)), (2, .ref (kL w 126)), (3, .ref (kL w 138)), (4, .int (nI i))]) K dL_law_939 (by decide) rfl ?_
  refine k_aload_n K dL_law_941 4 rfl ?_
  refine cl_L_83 K dL_law_942 ht (by decide) (Nat.le_of_ble_eq_true rfl) ⟨by show _ ≤ 601024; omega, by show _ ≤ 7293034; omega⟩ ?_
  refine k_iload K dL_law_945 1 rfl ?_
  refine k_icmp_eq K 952 dL_law_947 (by decide) (fun _ => ?_) (fun q => absurd g1 q)
  refine k_iload K dL_law_952 1 rfl ?_
  replace h := k_br h
  rcases h with ⟨g2, h⟩ | ⟨g2, h⟩
  · refine k_if_ne K 969 dL_law_954 (by decide) (fun q => absurd g2 q) (fun _ => ?_)
    replace h := k_gd h
    obtain ⟨g3, h⟩ := h
    cases h
    refine k_aload_n K dL_law_957 5 rfl ?_
    refine k_iconst (v := 0) K dL_law_958 (by decide) ?_
    refine k_lald K dL_law_959 kd_138 (show vpi 0 1 by decide) ?_
    refine k_iload K dL_law_960 0 rfl ?_
    refine k_i2l K dL_law_962 ?_
    refine k_lcmp K dL_law_963 ?_
    refine k_if_eq K 969 dL_law_964 (by decide) (fun _ => ?_) (fun q => absurd g3 q)
    refine k_goto K 1245 dL_law_969 (by decide) ?_
    refine k_sub [2, 3, 4, 5, 6] rfl ?_
    refine k_widen (k := k + 3) (n := n + 18) (by omega) (by omega) ?_
    exact go
  · cases h
    refine k_if_ne K 969 dL_law_954 (by decide) (fun _ => ?_) (fun q => absurd q g2)
    refine k_goto K 1245 dL_law_969 (by decide) ?_
    refine k_sub [2, 3, 4, 5, 6] rfl ?_
    refine k_widen (k := k + 3) (n := n + 18) (by omega) (by omega) ?_
    exact go
def fc_14 (σ : kS) (a1 : Int32) (a2 : Int32) (a3 : Int32) : Option kS := (fL_held σ a1 a2 a3).bind fun r => (fX2_held r.2 a1 a2 a3).bind fun u => (fX2_thrown u.2).bind fun t => if t = r.1 then (if r.1 = 0 then (if lg_cmp (u.2.2.2 138 (0 : Int32).toNatClampNeg) u.1.toInt64 = 0 then some u.2 else none) else some u.2) else none
set_option maxRecDepth 20000 in
theorem lc_14 (K : kC w p s m args meth c cL_law 7 RL) (KX : kX w l s) (KN : kNo s) (hX : kScr w s b L xs) {σ τ : kS} {i k n : Nat} (hi : i + 4 ≤ L) (hk : k + 3 ≤ 601024) (hn : n + 18 ≤ 7293034) (h : fc_14 σ (xs (i + 1)) (xs (i + 2)) (xs (i + 3)) = some τ) (go : kG w p l e room_1 s m args below meth c Q 7 τ 1245 [(0, .ref b), (1, .ref (kL w 0)), (2, .ref (kL w 126)), (3, .ref (kL w 138)), (4, .int (nI i))] [] (k + 3) (n + 18)) : kG w p l e room_1 s m args below meth c Q 7 σ 972 [(0, .ref b), (1, .ref (kL w 0)), (2, .ref (kL w 126)), (3, .ref (kL w 138)), (4, .int (nI i))] [] k n := by
  unfold fc_14 at h
  replace h := k_bd h
  obtain ⟨r, hr, h⟩ := h
  replace h := k_bd h
  obtain ⟨u, hu, h⟩ := h
  replace h := k_bd h
  obtain ⟨t, ht, h⟩ := h
  replace h := k_gd h
  obtain ⟨g1, h⟩ := h
  refine k_aload_n K dL_law_972 1 rfl ?_
  refine k_aload_n K dL_law_973 0 rfl ?_
  refine k_iload K dL_law_974 4 rfl ?_
  refine k_iconst (v := 1) K dL_law_976 (by decide) ?_
  refine k_iadd K dL_law_977 ?_
  refine k_sld K hX (j := i + 1) dL_law_978 (nI_add i 1) (by omega) ?_
  refine k_aload_n K dL_law_979 0 rfl ?_
  refine k_iload K dL_law_980 4 rfl ?_
  refine k_iconst (v := 2) K dL_law_982 (by decide) ?_
  refine k_iadd K dL_law_983 ?_
  refine k_sld K hX (j := i + 2) dL_law_984 (nI_add i 2) (by omega) ?_
  refine k_aload_n K dL_law_985 0 rfl ?_
  refine k_iload K dL_law_986 4 rfl ?_
  refine k_iconst (v := 3) K dL_law_988 (by decide) ?_
  refine k_iadd K dL_law_989 ?_
  refine k_sld K hX (j := i + 3) dL_law_990 (nI_add i 3) (by omega) ?_
  refine k_aload_n K dL_law_991 3 rfl ?_
  refine cw_L_128 K KX KN dL_law_992 hr (by decide) (Nat.le_of_ble_eq_true rfl) ⟨by show _ ≤ 601024; omega, by show _ ≤ 7293034; omega⟩ ?_
  refine k_istore (lv' := [(5, .int r.1), (0, .ref b), (1, .ref (kL w 0)), (2, .ref (kL w 126)), (3, .ref (kL w 138)), (4, .int (nI i))]) K dL_law_995 (by decide) rfl ?_
  refine k_aload_n K dL_law_997 3 rfl ?_
  refine k_aload_n K dL_law_998 1 rfl ?_
  refine k_iload K dL_law_999 5 rfl ?_
  refine k_iconst (v := 1) K dL_law_1001 (by decide) ?_
  refine k_iadd K dL_law_1002 ?_
  refine k_sld K hX (j := i + 1) dL_law_1003 (nI_add i 1) (by omega) ?_
  refine k_aload_n K dL_law_1004 1 rfl ?_
  refine k_iload K dL_law_1005 5 rfl ?_
  refine k_iconst (v := 2) K dL_law_1007 (by decide) ?_
  refine k_iadd K dL_law_1008 ?_
  refine k_sld K hX (j := i + 2) dL_law_1009 (nI_add i 2) (by omega) ?_
  refine k_aload_n K dL_law_1010 1 rfl ?_
  refine k_iload K dL_law_1011 5 rfl ?_
  refine k_iconst (v := 3) K dL_law_1013 (by decide) ?_
  refine k_iadd K dL_law_1014 ?_
  refine k_sld K hX (j := i + 3) dL_law_1015 (nI_add i 3) (by omega) ?_
  refine cl_L_130 K dL_law_1016 hu (by decide) (Nat.le_of_ble_eq_true rfl) ⟨by show _ ≤ 601024; omega, by show _ ≤ 7293034; omega⟩ ?_
  refine k_istore (lv' := [(6, .int u.1), (5, .int r.1), (0, .ref b), (1, .ref (kL w 0)), (2, .ref (kL w 126)), (3, .ref (kL w 138)), (4, .int (nI i))]) K dL_law_1019 (by decide) rfl ?_
  refine k_aload_n K dL_law_1021 4 rfl ?_
  refine cl_L_83 K dL_law_1022 ht (by decide) (Nat.le_of_ble_eq_true rfl) ⟨by show _ ≤ 601024; omega, by show _ ≤ 7293034; omega⟩ ?_
  refine k_iload K dL_law_1025 1 rfl ?_
  refine k_icmp_eq K 1032 dL_law_1027 (by decide) (fun _ => ?_) (fun q => absurd g1 q)
  refine k_iload K dL_law_1032 1 rfl ?_
  replace h := k_br h
  rcases h with ⟨g2, h⟩ | ⟨g2, h⟩
  · refine k_if_ne K 1049 dL_law_1034 (by decide) (fun q => absurd g2 q) (fun _ => ?_)
    replace h := k_gd h
    obtain ⟨g3, h⟩ := h
    cases h
    refine k_aload_n K dL_law_1037 5 rfl ?_
    refine k_iconst (v := 0) K dL_law_1038 (by decide) ?_
    refine k_lald K dL_law_1039 kd_138 (show vpi 0 1 by decide) ?_
    refine k_iload K dL_law_1040 0 rfl ?_
    refine k_i2l K dL_law_1042 ?_
    refine k_lcmp K dL_law_1043 ?_
    refine k_if_eq K 1049 dL_law_1044 (by decide) (fun _ => ?_) (fun q => absurd g3 q)
    refine k_goto K 1245 dL_law_1049 (by decide) ?_
    refine k_sub [2, 3, 4, 5, 6] rfl ?_
    refine k_widen (k := k + 3) (n := n + 18) (by omega) (by omega) ?_
    exact go
  · cases h
    refine k_if_ne K 1049 dL_law_1034 (by decide) (fun _ => ?_) (fun q => absurd q g2)
    refine k_goto K 1245 dL_law_1049 (by decide) ?_
    refine k_sub [2, 3, 4, 5, 6] rfl ?_
    refine k_widen (k := k + 3) (n := n + 18) (by omega) (by omega) ?_
    exact go
def fc_15 (σ : kS) (a1 : Int32) (a2 : Int32) : Option kS := (fL_known σ a1 a2).bind fun r => (fX2_known r.2 a1 a2).bind fun u => (fX2_thrown u.2).bind fun t => if t = r.1 then (if r.1 = 0 then (if lg_cmp (u.2.2.2 138 (0 : Int32).toNatClampNeg) u.1.toInt64 = 0 then some u.2 else none) else some u.2) else none
set_option maxRecDepth 20000 in
theorem lc_15 (K : kC w p s m args meth c cL_law 7 RL) (KX : kX w l s) (KN : kNo s) (hX : kScr w s b L xs) {σ τ : kS} {i k n : Nat} (hi : i + 4 ≤ L) (hk : k + 3 ≤ 601024) (hn : n + 18 ≤ 7293034) (h : fc_15 σ (xs (i + 1)) (xs (i + 2)) = some τ) (go : kG w p l e room_1 s m args below meth c Q 7 τ 1245 [(0, .ref b), (1, .ref (kL w 0)), (2, .ref (kL w 126)), (3, .ref (kL w 138)), (4, .int (nI i))] [] (k + 3) (n + 18)) : kG w p l e room_1 s m args below meth c Q 7 σ 1052 [(0, .ref b), (1, .ref (kL w 0)), (2, .ref (kL w 126)), (3, .ref (kL w 138)), (4, .int (nI i))] [] k n := by
  unfold fc_15 at h
  replace h := k_bd h
  obtain ⟨r, hr, h⟩ := h
  replace h := k_bd h
  obtain ⟨u, hu, h⟩ := h
  replace h := k_bd h
  obtain ⟨t, ht, h⟩ := h
  replace h := k_gd h
  obtain ⟨g1, h⟩ := h
  refine k_aload_n K dL_law_1052 1 rfl ?_
  refine k_aload_n K dL_law_1053 0 rfl ?_
  refine k_iload K dL_law_1054 4 rfl ?_
  refine k_iconst (v := 1) K dL_law_1056 (by decide) ?_
  refine k_iadd K dL_law_1057 ?_
  refine k_sld K hX (j := i + 1) dL_law_1058 (nI_add i 1) (by omega) ?_
  refine k_aload_n K dL_law_1059 0 rfl ?_
  refine k_iload K dL_law_1060 4 rfl ?_
  refine k_iconst (v := 2) K dL_law_1062 (by decide) ?_
  refine k_iadd K dL_law_1063 ?_
  refine k_sld K hX (j := i + 2) dL_law_1064 (nI_add i 2) (by omega) ?_
  refine k_aload_n K dL_law_1065 3 rfl ?_
  refine cw_L_131 K KX KN dL_law_1066 hr (by decide) (Nat.le_of_ble_eq_true rfl) ⟨by show _ ≤ 601024; omega, by show _ ≤ 7293034; omega⟩ ?_
  refine k_istore (lv' := [(5, .int r.1), (0, .ref b), (1, .ref (kL w 0)), (2, .ref (kL w 126)), (3, .ref (kL w 138)), (4, .int (nI i))]) K dL_law_1069 (by decide) rfl ?_
  refine k_aload_n K dL_law_1071 3 rfl ?_
  refine k_aload_n K dL_law_1072 1 rfl ?_
  refine k_iload K dL_law_1073 5 rfl ?_
  refine k_iconst (v := 1) K dL_law_1075 (by decide) ?_
  refine k_iadd K dL_law_1076 ?_
  refine k_sld K hX (j := i + 1) dL_law_1077 (nI_add i 1) (by omega) ?_
  refine k_aload_n K dL_law_1078 1 rfl ?_
  refine k_iload K dL_law_1079 5 rfl ?_
  refine k_iconst (v := 2) K dL_law_1081 (by decide) ?_
  refine k_iadd K dL_law_1082 ?_
  refine k_sld K hX (j := i + 2) dL_law_1083 (nI_add i 2) (by omega) ?_
  refine cl_L_133 K dL_law_1084 hu (by decide) (Nat.le_of_ble_eq_true rfl) ⟨by show _ ≤ 601024; omega, by show _ ≤ 7293034; omega⟩ ?_
  refine k_istore (lv' := [(6, .int u.1), (5, .int r.1), (0, .ref b), (1, .ref (kL w 0)), (2, .ref (kL w 126)), (3, .ref (kL w 138)), (4, .int (nI i))]) K dL_law_1087 (by decide) rfl ?_
  refine k_aload_n K dL_law_1089 4 rfl ?_
  refine cl_L_83 K dL_law_1090 ht (by decide) (Nat.le_of_ble_eq_true rfl) ⟨by show _ ≤ 601024; omega, by show _ ≤ 7293034; omega⟩ ?_
  refine k_iload K dL_law_1093 1 rfl ?_
  refine k_icmp_eq K 1100 dL_law_1095 (by decide) (fun _ => ?_) (fun q => absurd g1 q)
  refine k_iload K dL_law_1100 1 rfl ?_
  replace h := k_br h
  rcases h with ⟨g2, h⟩ | ⟨g2, h⟩
  · refine k_if_ne K 1117 dL_law_1102 (by decide) (fun q => absurd g2 q) (fun _ => ?_)
    replace h := k_gd h
    obtain ⟨g3, h⟩ := h
    cases h
    refine k_aload_n K dL_law_1105 5 rfl ?_
    refine k_iconst (v := 0) K dL_law_1106 (by decide) ?_
    refine k_lald K dL_law_1107 kd_138 (show vpi 0 1 by decide) ?_
    refine k_iload K dL_law_1108 0 rfl ?_
    refine k_i2l K dL_law_1110 ?_
    refine k_lcmp K dL_law_1111 ?_
    refine k_if_eq K 1117 dL_law_1112 (by decide) (fun _ => ?_) (fun q => absurd g3 q)
    refine k_goto K 1245 dL_law_1117 (by decide) ?_
    refine k_sub [2, 3, 4, 5, 6] rfl ?_
    refine k_widen (k := k + 3) (n := n + 18) (by omega) (by omega) ?_
    exact go
  · cases h
    refine k_if_ne K 1117 dL_law_1102 (by decide) (fun _ => ?_) (fun q => absurd q g2)
    refine k_goto K 1245 dL_law_1117 (by decide) ?_
    refine k_sub [2, 3, 4, 5, 6] rfl ?_
    refine k_widen (k := k + 3) (n := n + 18) (by omega) (by omega) ?_
    exact go
def fc_16 (σ : kS) (a1 : Int32) : Option kS := (fL_owner σ a1).bind fun r => (fX2_owner r.2 a1).bind fun u => (fX2_thrown u.2).bind fun t => if t = r.1 then (if r.1 = 0 then (if lg_cmp (u.2.2.2 138 (0 : Int32).toNatClampNeg) u.1.toInt64 = 0 then some u.2 else none) else some u.2) else none
set_option maxRecDepth 20000 in
theorem lc_16 (K : kC w p s m args meth c cL_law 7 RL) (KX : kX w l s) (KN : kNo s) (hX : kScr w s b L xs) {σ τ : kS} {i k n : Nat} (hi : i + 4 ≤ L) (hk : k + 3 ≤ 601024) (hn : n + 18 ≤ 7293034) (h : fc_16 σ (xs (i + 1)) = some τ) (go : kG w p l e room_1 s m args below meth c Q 7 τ 1245 [(0, .ref b), (1, .ref (kL w 0)), (2, .ref (kL w 126)), (3, .ref (kL w 138)), (4, .int (nI i))] [] (k + 3) (n + 18)) : kG w p l e room_1 s m args below meth c Q 7 σ 1120 [(0, .ref b), (1, .ref (kL w 0)), (2, .ref (kL w 126)), (3, .ref (kL w 138)), (4, .int (nI i))] [] k n := by
  unfold fc_16 at h
  replace h := k_bd h
  obtain ⟨r, hr, h⟩ := h
  replace h := k_bd h
  obtain ⟨u, hu, h⟩ := h
  replace h := k_bd h
  obtain ⟨t, ht, h⟩ := h
  replace h := k_gd h
  obtain ⟨g1, h⟩ := h
  refine k_aload_n K dL_law_1120 1 rfl ?_
  refine k_aload_n K dL_law_1121 0 rfl ?_
  refine k_iload K dL_law_1122 4 rfl ?_
  refine k_iconst (v := 1) K dL_law_1124 (by decide) ?_
  refine k_iadd K dL_law_1125 ?_
  refine k_sld K hX (j := i + 1) dL_law_1126 (nI_add i 1) (by omega) ?_
  refine k_aload_n K dL_law_1127 3 rfl ?_
  refine cw_L_134 K KX KN dL_law_1128 hr (by decide) (Nat.le_of_ble_eq_true rfl) ⟨by show _ ≤ 601024; omega, by show _ ≤ 7293034; omega⟩ ?_
  refine k_istore (lv' := [(5, .int r.1), (0, .ref b), (1, .ref (kL w 0)), (2, .ref (kL w 126)), (3, .ref (kL w 138)), (4, .int (nI i))]) K dL_law_1131 (by decide) rfl ?_
  refine k_aload_n K dL_law_1133 3 rfl ?_
  refine k_aload_n K dL_law_1134 1 rfl ?_
  refine k_iload K dL_law_1135 5 rfl ?_
  refine k_iconst (v := 1) K dL_law_1137 (by decide) ?_
  refine k_iadd K dL_law_1138 ?_
  refine k_sld K hX (j := i + 1) dL_law_1139 (nI_add i 1) (by omega) ?_
  refine cl_L_136 K dL_law_1140 hu (by decide) (Nat.le_of_ble_eq_true rfl) ⟨by show _ ≤ 601024; omega, by show _ ≤ 7293034; omega⟩ ?_
  refine k_istore (lv' := [(6, .int u.1), (5, .int r.1), (0, .ref b), (1, .ref (kL w 0)), (2, .ref (kL w 126)), (3, .ref (kL w 138)), (4, .int (nI i))]) K dL_law_1143 (by decide) rfl ?_
  refine k_aload_n K dL_law_1145 4 rfl ?_
  refine cl_L_83 K dL_law_1146 ht (by decide) (Nat.le_of_ble_eq_true rfl) ⟨by show _ ≤ 601024; omega, by show _ ≤ 7293034; omega⟩ ?_
  refine k_iload K dL_law_1149 1 rfl ?_
  refine k_icmp_eq K 1156 dL_law_1151 (by decide) (fun _ => ?_) (fun q => absurd g1 q)
  refine k_iload K dL_law_1156 1 rfl ?_
  replace h := k_br h
  rcases h with ⟨g2, h⟩ | ⟨g2, h⟩
  · refine k_if_ne K 1173 dL_law_1158 (by decide) (fun q => absurd g2 q) (fun _ => ?_)
    replace h := k_gd h
    obtain ⟨g3, h⟩ := h
    cases h
    refine k_aload_n K dL_law_1161 5 rfl ?_
    refine k_iconst (v := 0) K dL_law_1162 (by decide) ?_
    refine k_lald K dL_law_1163 kd_138 (show vpi 0 1 by decide) ?_
    refine k_iload K dL_law_1164 0 rfl ?_
    refine k_i2l K dL_law_1166 ?_
    refine k_lcmp K dL_law_1167 ?_
    refine k_if_eq K 1173 dL_law_1168 (by decide) (fun _ => ?_) (fun q => absurd g3 q)
    refine k_goto K 1245 dL_law_1173 (by decide) ?_
    refine k_sub [2, 3, 4, 5, 6] rfl ?_
    refine k_widen (k := k + 3) (n := n + 18) (by omega) (by omega) ?_
    exact go
  · cases h
    refine k_if_ne K 1173 dL_law_1158 (by decide) (fun _ => ?_) (fun q => absurd q g2)
    refine k_goto K 1245 dL_law_1173 (by decide) ?_
    refine k_sub [2, 3, 4, 5, 6] rfl ?_
    refine k_widen (k := k + 3) (n := n + 18) (by omega) (by omega) ?_
    exact go
def fc_17 (σ : kS) : Option kS := (fX1_ideal σ).bind fun r => (fX2_ideal σ).bind fun b => if r = b.1 then some b.2 else none
set_option maxRecDepth 20000 in
theorem lc_17 (K : kC w p s m args meth c cL_law 7 RL) (KX : kX w l s) (KN : kNo s) (hX : kScr w s b L xs) {σ τ : kS} {i k n : Nat} (hi : i + 4 ≤ L) (hk : k + 3 ≤ 601024) (hn : n + 18 ≤ 7293034) (h : fc_17 σ = some τ) (go : kG w p l e room_1 s m args below meth c Q 7 τ 1245 [(0, .ref b), (1, .ref (kL w 0)), (2, .ref (kL w 126)), (3, .ref (kL w 138)), (4, .int (nI i))] [] (k + 3) (n + 18)) : kG w p l e room_1 s m args below meth c Q 7 σ 1176 [(0, .ref b), (1, .ref (kL w 0)), (2, .ref (kL w 126)), (3, .ref (kL w 138)), (4, .int (nI i))] [] k n := by
  unfold fc_17 at h
  replace h := k_bd h
  obtain ⟨r, hr, h⟩ := h
  replace h := k_bd h
  obtain ⟨u, hu, h⟩ := h
  replace h := k_gd h
  obtain ⟨g1, h⟩ := h
  cases h
  refine k_aload_n K dL_law_1176 1 rfl ?_
  refine cl_L_137 K dL_law_1177 hr (by decide) (Nat.le_of_ble_eq_true rfl) ⟨by show _ ≤ 601024; omega, by show _ ≤ 7293034; omega⟩ ?_
  refine k_aload_n K dL_law_1180 2 rfl ?_
  refine cl_L_141 K dL_law_1181 hu (by decide) (Nat.le_of_ble_eq_true rfl) ⟨by show _ ≤ 601024; omega, by show _ ≤ 7293034; omega⟩ ?_
  refine k_icmp_eq K 1245 dL_law_1184 (by decide) (fun _ => ?_) (fun q => absurd g1 q)
  refine k_widen (k := k + 3) (n := n + 18) (by omega) (by omega) ?_
  exact go
def fc_18 (σ : kS) (a1 : Int32) : Option kS := (fL_count σ a1).bind fun r => (fX2_count r.2 a1).bind fun u => (fX2_thrown u.2).bind fun t => if t = r.1 then (if r.1 = 0 then (if lg_cmp (u.2.2.2 138 (0 : Int32).toNatClampNeg) u.1.toInt64 = 0 then some u.2 else none) else some u.2) else none
set_option maxRecDepth 20000 in
theorem lc_18 (K : kC w p s m args meth c cL_law 7 RL) (KX : kX w l s) (KN : kNo s) (hX : kScr w s b L xs) {σ τ : kS} {i k n : Nat} (hi : i + 4 ≤ L) (hk : k + 3 ≤ 601024) (hn : n + 18 ≤ 7293034) (h : fc_18 σ (xs (i + 1)) = some τ) (go : kG w p l e room_1 s m args below meth c Q 7 τ 1245 [(0, .ref b), (1, .ref (kL w 0)), (2, .ref (kL w 126)), (3, .ref (kL w 138)), (4, .int (nI i))] [] (k + 3) (n + 18)) : kG w p l e room_1 s m args below meth c Q 7 σ 1189 [(0, .ref b), (1, .ref (kL w 0)), (2, .ref (kL w 126)), (3, .ref (kL w 138)), (4, .int (nI i))] [] k n := by
  unfold fc_18 at h
  replace h := k_bd h
  obtain ⟨r, hr, h⟩ := h
  replace h := k_bd h
  obtain ⟨u, hu, h⟩ := h
  replace h := k_bd h
  obtain ⟨t, ht, h⟩ := h
  replace h := k_gd h
  obtain ⟨g1, h⟩ := h
  refine k_aload_n K dL_law_1189 1 rfl ?_
  refine k_aload_n K dL_law_1190 0 rfl ?_
  refine k_iload K dL_law_1191 4 rfl ?_
  refine k_iconst (v := 1) K dL_law_1193 (by decide) ?_
  refine k_iadd K dL_law_1194 ?_
  refine k_sld K hX (j := i + 1) dL_law_1195 (nI_add i 1) (by omega) ?_
  refine k_aload_n K dL_law_1196 3 rfl ?_
  refine cw_L_142 K KX KN dL_law_1197 hr (by decide) (Nat.le_of_ble_eq_true rfl) ⟨by show _ ≤ 601024; omega, by show _ ≤ 7293034; omega⟩ ?_
  refine k_istore (lv' := [(5, .int r.1), (0, .ref b), (1, .ref (kL w 0)), (2, .ref (kL w 126)), (3, .ref (kL w 138)), (4, .int (nI i))]) K dL_law_1200 (by decide) rfl ?_
  refine k_aload_n K dL_law_1202 3 rfl ?_
  refine k_aload_n K dL_law_1203 1 rfl ?_
  refine k_iload K dL_law_1204 5 rfl ?_
  refine k_iconst (v := 1) K dL_law_1206 (by decide) ?_
  refine k_iadd K dL_law_1207 ?_
  refine k_sld K hX (j := i + 1) dL_law_1208 (nI_add i 1) (by omega) ?_
  refine cl_L_144 K dL_law_1209 hu (by decide) (Nat.le_of_ble_eq_true rfl) ⟨by show _ ≤ 601024; omega, by show _ ≤ 7293034; omega⟩ ?_
  refine k_istore (lv' := [(6, .int u.1), (5, .int r.1), (0, .ref b), (1, .ref (kL w 0)), (2, .ref (kL w 126)), (3, .ref (kL w 138)), (4, .int (nI i))]) K dL_law_1212 (by decide) rfl ?_
  refine k_aload_n K dL_law_1214 4 rfl ?_
  refine cl_L_83 K dL_law_1215 ht (by decide) (Nat.le_of_ble_eq_true rfl) ⟨by show _ ≤ 601024; omega, by show _ ≤ 7293034; omega⟩ ?_
  refine k_iload K dL_law_1218 1 rfl ?_
  refine k_icmp_eq K 1225 dL_law_1220 (by decide) (fun _ => ?_) (fun q => absurd g1 q)
  refine k_iload K dL_law_1225 1 rfl ?_
  replace h := k_br h
  rcases h with ⟨g2, h⟩ | ⟨g2, h⟩
  · refine k_if_ne K 1242 dL_law_1227 (by decide) (fun q => absurd g2 q) (fun _ => ?_)
    replace h := k_gd h
    obtain ⟨g3, h⟩ := h
    cases h
    refine k_aload_n K dL_law_1230 5 rfl ?_
    refine k_iconst (v := 0) K dL_law_1231 (by decide) ?_
    refine k_lald K dL_law_1232 kd_138 (show vpi 0 1 by decide) ?_
    refine k_iload K dL_law_1233 0 rfl ?_
    refine k_i2l K dL_law_1235 ?_
    refine k_lcmp K dL_law_1236 ?_
    refine k_if_eq K 1242 dL_law_1237 (by decide) (fun _ => ?_) (fun q => absurd g3 q)
    refine k_goto K 1245 dL_law_1242 (by decide) ?_
    refine k_sub [2, 3, 4, 5, 6] rfl ?_
    refine k_widen (k := k + 3) (n := n + 18) (by omega) (by omega) ?_
    exact go
  · cases h
    refine k_if_ne K 1242 dL_law_1227 (by decide) (fun _ => ?_) (fun q => absurd q g2)
    refine k_goto K 1245 dL_law_1242 (by decide) ?_
    refine k_sub [2, 3, 4, 5, 6] rfl ?_
    refine k_widen (k := k + 3) (n := n + 18) (by omega) (by omega) ?_
    exact go
def fstep (xs : Nat → Int32) (σ : kS) (i : Nat) : Option kS :=
  if xs i &&& 31 = 0 then fc_0 σ (xs (i + 1))
  else if xs i &&& 31 = 1 then fc_1 σ (xs (i + 1))
  else if xs i &&& 31 = 2 then fc_2 σ
  else if xs i &&& 31 = 3 then fc_3 σ (xs (i + 1)) (xs (i + 2))
  else if xs i &&& 31 = 4 then fc_4 σ (xs (i + 1))
  else if xs i &&& 31 = 5 then fc_5 σ (xs (i + 1))
  else if xs i &&& 31 = 6 then fc_6 σ (xs (i + 1)) (xs (i + 2))
  else if xs i &&& 31 = 7 then fc_7 σ (xs (i + 1))
  else if xs i &&& 31 = 8 then fc_8 σ (xs (i + 1))
  else if xs i &&& 31 = 9 then fc_9 σ (xs (i + 1))
  else if xs i &&& 31 = 10 then fc_10 σ (xs (i + 1)) (xs (i + 2))
  else if xs i &&& 31 = 11 then fc_11 σ (xs (i + 1))
  else if xs i &&& 31 = 12 then fc_12 σ (xs (i + 1)) (xs (i + 2)) (xs (i + 3))
  else if xs i &&& 31 = 13 then fc_13 σ (xs (i + 1)) (xs (i + 2))
  else if xs i &&& 31 = 14 then fc_14 σ (xs (i + 1)) (xs (i + 2)) (xs (i + 3))
  else if xs i &&& 31 = 15 then fc_15 σ (xs (i + 1)) (xs (i + 2))
  else if xs i &&& 31 = 16 then fc_16 σ (xs (i + 1))
  else if xs i &&& 31 = 17 then fc_17 σ
  else if xs i &&& 31 = 18 then fc_18 σ (xs (i + 1))
  else some σ
theorem k_out19 {x : Int32} (h0 : ¬ x = 0) (h1 : ¬ x = 1) (h2 : ¬ x = 2) (h3 : ¬ x = 3) (h4 : ¬ x = 4) (h5 : ¬ x = 5) (h6 : ¬ x = 6) (h7 : ¬ x = 7) (h8 : ¬ x = 8) (h9 : ¬ x = 9) (h10 : ¬ x = 10) (h11 : ¬ x = 11) (h12 : ¬ x = 12) (h13 : ¬ x = 13) (h14 : ¬ x = 14) (h15 : ¬ x = 15) (h16 : ¬ x = 16) (h17 : ¬ x = 17) (h18 : ¬ x = 18) : x.toInt < 0 ∨ 18 < x.toInt := by
  have e0 : x.toInt ≠ 0 := fun q => h0 (Int32.toInt_inj.mp q)
  have e1 : x.toInt ≠ 1 := fun q => h1 (Int32.toInt_inj.mp q)
  have e2 : x.toInt ≠ 2 := fun q => h2 (Int32.toInt_inj.mp q)
  have e3 : x.toInt ≠ 3 := fun q => h3 (Int32.toInt_inj.mp q)
  have e4 : x.toInt ≠ 4 := fun q => h4 (Int32.toInt_inj.mp q)
  have e5 : x.toInt ≠ 5 := fun q => h5 (Int32.toInt_inj.mp q)
  have e6 : x.toInt ≠ 6 := fun q => h6 (Int32.toInt_inj.mp q)
  have e7 : x.toInt ≠ 7 := fun q => h7 (Int32.toInt_inj.mp q)
  have e8 : x.toInt ≠ 8 := fun q => h8 (Int32.toInt_inj.mp q)
  have e9 : x.toInt ≠ 9 := fun q => h9 (Int32.toInt_inj.mp q)
  have e10 : x.toInt ≠ 10 := fun q => h10 (Int32.toInt_inj.mp q)
  have e11 : x.toInt ≠ 11 := fun q => h11 (Int32.toInt_inj.mp q)
  have e12 : x.toInt ≠ 12 := fun q => h12 (Int32.toInt_inj.mp q)
  have e13 : x.toInt ≠ 13 := fun q => h13 (Int32.toInt_inj.mp q)
  have e14 : x.toInt ≠ 14 := fun q => h14 (Int32.toInt_inj.mp q)
  have e15 : x.toInt ≠ 15 := fun q => h15 (Int32.toInt_inj.mp q)
  have e16 : x.toInt ≠ 16 := fun q => h16 (Int32.toInt_inj.mp q)
  have e17 : x.toInt ≠ 17 := fun q => h17 (Int32.toInt_inj.mp q)
  have e18 : x.toInt ≠ 18 := fun q => h18 (Int32.toInt_inj.mp q)
  omega
set_option maxRecDepth 20000 in
theorem l_step (K : kC w p s m args meth c cL_law 7 RL) (KX : kX w l s) (KN : kNo s) (hX : kScr w s b L xs) {σ τ : kS} {i k n : Nat} (hi : i + 4 ≤ L) (hk : k + 3 ≤ 601024) (hn : n + 18 ≤ 7293034) (h : fstep xs σ i = some τ) (go : kG w p l e room_1 s m args below meth c Q 7 τ 1245 [(0, .ref b), (1, .ref (kL w 0)), (2, .ref (kL w 126)), (3, .ref (kL w 138)), (4, .int (nI i))] [] (k + 3) (n + 18)) : kG w p l e room_1 s m args below meth c Q 7 σ 39 [(0, .ref b), (1, .ref (kL w 0)), (2, .ref (kL w 126)), (3, .ref (kL w 138)), (4, .int (nI i))] [.int (xs i &&& 31)] k n := by
  unfold fstep at h
  replace h := k_br h
  rcases h with ⟨b0, h⟩ | ⟨b0, h⟩
  · refine k_tableIn (off := 89) K 128 dL_law_39 (by rw [b0]; decide) (by rw [b0]; decide) (by rw [b0]; decide) (by decide) ?_
    exact lc_0 K KX KN hX hi hk hn h go
  replace h := k_br h
  rcases h with ⟨b1, h⟩ | ⟨b1, h⟩
  · refine k_tableIn (off := 145) K 184 dL_law_39 (by rw [b1]; decide) (by rw [b1]; decide) (by rw [b1]; decide) (by decide) ?_
    exact lc_1 K KX KN hX hi hk hn h go
  replace h := k_br h
  rcases h with ⟨b2, h⟩ | ⟨b2, h⟩
  · refine k_tableIn (off := 201) K 240 dL_law_39 (by rw [b2]; decide) (by rw [b2]; decide) (by rw [b2]; decide) (by decide) ?_
    exact lc_2 K KX KN hX hi hk hn h go
  replace h := k_br h
  rcases h with ⟨b3, h⟩ | ⟨b3, h⟩
  · refine k_tableIn (off := 245) K 284 dL_law_39 (by rw [b3]; decide) (by rw [b3]; decide) (by rw [b3]; decide) (by decide) ?_
    exact lc_3 K KX KN hX hi hk hn h go
  replace h := k_br h
  rcases h with ⟨b4, h⟩ | ⟨b4, h⟩
  · refine k_tableIn (off := 313) K 352 dL_law_39 (by rw [b4]; decide) (by rw [b4]; decide) (by rw [b4]; decide) (by decide) ?_
    exact lc_4 K KX KN hX hi hk hn h go
  replace h := k_br h
  rcases h with ⟨b5, h⟩ | ⟨b5, h⟩
  · refine k_tableIn (off := 369) K 408 dL_law_39 (by rw [b5]; decide) (by rw [b5]; decide) (by rw [b5]; decide) (by decide) ?_
    exact lc_5 K KX KN hX hi hk hn h go
  replace h := k_br h
  rcases h with ⟨b6, h⟩ | ⟨b6, h⟩
  · refine k_tableIn (off := 425) K 464 dL_law_39 (by rw [b6]; decide) (by rw [b6]; decide) (by rw [b6]; decide) (by decide) ?_
    exact lc_6 K KX KN hX hi hk hn h go
  replace h := k_br h
  rcases h with ⟨b7, h⟩ | ⟨b7, h⟩
  · refine k_tableIn (off := 493) K 532 dL_law_39 (by rw [b7]; decide) (by rw [b7]; decide) (by rw [b7]; decide) (by decide) ?_
    exact lc_7 K KX KN hX hi hk hn h go
  replace h := k_br h
  rcases h with ⟨b8, h⟩ | ⟨b8, h⟩
  · refine k_tableIn (off := 549) K 588 dL_law_39 (by rw [b8]; decide) (by rw [b8]; decide) (by rw [b8]; decide) (by decide) ?_
    exact lc_8 K KX KN hX hi hk hn h go
  replace h := k_br h
  rcases h with ⟨b9, h⟩ | ⟨b9, h⟩
  · refine k_tableIn (off := 605) K 644 dL_law_39 (by rw [b9]; decide) (by rw [b9]; decide) (by rw [b9]; decide) (by decide) ?_
    exact lc_9 K KX KN hX hi hk hn h go
  replace h := k_br h
  rcases h with ⟨b10, h⟩ | ⟨b10, h⟩
  · refine k_tableIn (off := 661) K 700 dL_law_39 (by rw [b10]; decide) (by rw [b10]; decide) (by rw [b10]; decide) (by decide) ?_
    exact lc_10 K KX KN hX hi hk hn h go
  replace h := k_br h
  rcases h with ⟨b11, h⟩ | ⟨b11, h⟩
  · refine k_tableIn (off := 729) K 768 dL_law_39 (by rw [b11]; decide) (by rw [b11]; decide) (by rw [b11]; decide) (by decide) ?_
    exact lc_11 K KX KN hX hi hk hn h go
  replace h := k_br h
  rcases h with ⟨b12, h⟩ | ⟨b12, h⟩
  · refine k_tableIn (off := 785) K 824 dL_law_39 (by rw [b12]; decide) (by rw [b12]; decide) (by rw [b12]; decide) (by decide) ?_
    exact lc_12 K KX KN hX hi hk hn h go
  replace h := k_br h
  rcases h with ⟨b13, h⟩ | ⟨b13, h⟩
  · refine k_tableIn (off := 865) K 904 dL_law_39 (by rw [b13]; decide) (by rw [b13]; decide) (by rw [b13]; decide) (by decide) ?_
    exact lc_13 K KX KN hX hi hk hn h go
  replace h := k_br h
  rcases h with ⟨b14, h⟩ | ⟨b14, h⟩
  · refine k_tableIn (off := 933) K 972 dL_law_39 (by rw [b14]; decide) (by rw [b14]; decide) (by rw [b14]; decide) (by decide) ?_
    exact lc_14 K KX KN hX hi hk hn h go
  replace h := k_br h
  rcases h with ⟨b15, h⟩ | ⟨b15, h⟩
  · refine k_tableIn (off := 1013) K 1052 dL_law_39 (by rw [b15]; decide) (by rw [b15]; decide) (by rw [b15]; decide) (by decide) ?_
    exact lc_15 K KX KN hX hi hk hn h go
  replace h := k_br h
  rcases h with ⟨b16, h⟩ | ⟨b16, h⟩
  · refine k_tableIn (off := 1081) K 1120 dL_law_39 (by rw [b16]; decide) (by rw [b16]; decide) (by rw [b16]; decide) (by decide) ?_
    exact lc_16 K KX KN hX hi hk hn h go
  replace h := k_br h
  rcases h with ⟨b17, h⟩ | ⟨b17, h⟩
  · refine k_tableIn (off := 1137) K 1176 dL_law_39 (by rw [b17]; decide) (by rw [b17]; decide) (by rw [b17]; decide) (by decide) ?_
    exact lc_17 K KX KN hX hi hk hn h go
  replace h := k_br h
  rcases h with ⟨b18, h⟩ | ⟨b18, h⟩
  · refine k_tableIn (off := 1150) K 1189 dL_law_39 (by rw [b18]; decide) (by rw [b18]; decide) (by rw [b18]; decide) (by decide) ?_
    exact lc_18 K KX KN hX hi hk hn h go
  cases h
  refine k_tableOut K 1245 dL_law_39 (by decide) (k_out19 b0 b1 b2 b3 b4 b5 b6 b7 b8 b9 b10 b11 b12 b13 b14 b15 b16 b17 b18) ?_
  refine k_widen (k := k + 3) (n := n + 18) (by omega) (by omega) ?_
  exact go
/-- n calls of the script from i on -/
def frun (xs : Nat → Int32) : Nat → Nat → kS → Option kS
  | 0, _, σ => some σ
  | n + 1, i, σ => (fstep xs σ i).bind fun τ => frun xs n (i + 4) τ
set_option maxRecDepth 20000 in
theorem l_loop (K : kC w p s m args meth c cL_law 7 RL) (KX : kX w l s) (KN : kNo s) (hX : kScr w s b L xs) (fin : ∀ (σ : kS) (i k n : Nat), k ≤ 601024 → n ≤ 7293034 → kG w p l e room_1 s m args below meth c Q 7 σ 1251 [(0, .ref b), (1, .ref (kL w 0)), (2, .ref (kL w 126)), (3, .ref (kL w 138)), (4, .int (nI i))] [] k n) :
    ∀ (c9 i : Nat) (σ τ : kS) (k n : Nat), i + 4 * c9 ≤ L → L < i + 4 * c9 + 4 → k + 3 * c9 ≤ 601024 → n + 18 * c9 ≤ 7293034 → frun xs c9 i σ = some τ → kG w p l e room_1 s m args below meth c Q 7 σ 23 [(0, .ref b), (1, .ref (kL w 0)), (2, .ref (kL w 126)), (3, .ref (kL w 138)), (4, .int (nI i))] [] k n := by
  have hL : L ≤ 2048 := hX.2.2.2
  intro c9
  induction c9 with
  | zero =>
    intro i σ τ k n h1 h2 h3 h4 h
    refine k_iload K dL_law_23 4 rfl ?_
    refine k_aload_n K dL_law_25 0 rfl ?_
    refine k_slen K hX dL_law_26 ?_
    refine k_iconst (v := 4) K dL_law_27 (by decide) ?_
    refine k_isub K dL_law_28 ?_
    refine k_icmp_gt K 1251 dL_law_29 (by decide) (fun _ => ?_) (fun q => absurd ?_ q)
    · exact fin σ i k n (by omega) (by omega)
    · exact k_gt4 (by omega) (by omega) (by omega)
  | succ c9 ih =>
    intro i σ τ k n h1 h2 h3 h4 h
    unfold frun at h
    replace h := k_bd h
    obtain ⟨τ1, h5, h⟩ := h
    refine k_iload K dL_law_23 4 rfl ?_
    refine k_aload_n K dL_law_25 0 rfl ?_
    refine k_slen K hX dL_law_26 ?_
    refine k_iconst (v := 4) K dL_law_27 (by decide) ?_
    refine k_isub K dL_law_28 ?_
    refine k_icmp_gt K 1251 dL_law_29 (by decide) (fun q => absurd q (k_ngt4 (by omega) (by omega))) (fun _ => ?_)
    refine k_aload_n K dL_law_32 0 rfl ?_
    refine k_iload K dL_law_33 4 rfl ?_
    refine k_sld K hX (j := i) dL_law_35 rfl (by omega) ?_
    refine k_bipush (v := 31) K dL_law_36 (by decide) ?_
    refine k_iand K dL_law_38 ?_
    refine l_step K KX KN hX (by omega) (by omega) (by omega) h5 ?_
    refine k_iinc (v := 4) (lv' := [(4, .int (nI i + 4)), (0, .ref b), (1, .ref (kL w 0)), (2, .ref (kL w 126)), (3, .ref (kL w 138))]) K dL_law_1245 4 rfl (by decide) (by decide) rfl ?_
    refine k_goto K 23 dL_law_1248 (by decide) ?_
    refine k_sub [1, 2, 3, 4, 0] rfl ?_
    have e4 : nI i + 4 = nI (i + 4) := nI_add i 4
    rw [e4]
    exact ih (i + 4) τ1 τ (k + 3) (n + 18) (by omega) (by omega) (by omega) (by omega) h
end KLs
