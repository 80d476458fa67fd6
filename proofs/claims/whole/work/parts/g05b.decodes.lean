/-! r: the law: instructions -/
theorem dl_204 : decode code 204 = .ok (.aload_n 1, 1) := by decide +kernel
theorem dl_205 : decode code 205 = .ok (.aload_n 0, 1) := by decide +kernel
theorem dl_206 : decode code 206 = .ok (.iload 4, 2) := by decide +kernel
theorem dl_208 : decode code 208 = .ok (.iconst (1), 1) := by decide +kernel
theorem dl_209 : decode code 209 = .ok (.iadd, 1) := by decide +kernel
theorem dl_210 : decode code 210 = .ok (.iaload, 1) := by decide +kernel
theorem dl_211 : decode code 211 = .ok (.aload_n 0, 1) := by decide +kernel
theorem dl_212 : decode code 212 = .ok (.iload 4, 2) := by decide +kernel
theorem dl_214 : decode code 214 = .ok (.iconst (2), 1) := by decide +kernel
theorem dl_215 : decode code 215 = .ok (.iadd, 1) := by decide +kernel
theorem dl_216 : decode code 216 = .ok (.iaload, 1) := by decide +kernel
theorem dl_217 : decode code 217 = .ok (.aload_n 0, 1) := by decide +kernel
theorem dl_218 : decode code 218 = .ok (.iload 4, 2) := by decide +kernel
theorem dl_220 : decode code 220 = .ok (.iconst (3), 1) := by decide +kernel
theorem dl_221 : decode code 221 = .ok (.iadd, 1) := by decide +kernel
theorem dl_222 : decode code 222 = .ok (.iaload, 1) := by decide +kernel
theorem dl_223 : decode code 223 = .ok (.aload_n 0, 1) := by decide +kernel
theorem dl_224 : decode code 224 = .ok (.iload 4, 2) := by decide +kernel
theorem dl_226 : decode code 226 = .ok (.iconst (4), 1) := by decide +kernel
theorem dl_227 : decode code 227 = .ok (.iadd, 1) := by decide +kernel
theorem dl_228 : decode code 228 = .ok (.iaload, 1) := by decide +kernel
theorem dl_229 : decode code 229 = .ok (.aload_n 0, 1) := by decide +kernel
theorem dl_230 : decode code 230 = .ok (.iload 4, 2) := by decide +kernel
theorem dl_232 : decode code 232 = .ok (.iconst (5), 1) := by decide +kernel
theorem dl_233 : decode code 233 = .ok (.iadd, 1) := by decide +kernel
theorem dl_234 : decode code 234 = .ok (.iaload, 1) := by decide +kernel
theorem dl_235 : decode code 235 = .ok (.invokevirtual 28, 3) := by decide +kernel
theorem dl_238 : decode code 238 = .ok (.aload_n 2, 1) := by decide +kernel
theorem dl_239 : decode code 239 = .ok (.aload_n 0, 1) := by decide +kernel
theorem dl_240 : decode code 240 = .ok (.iload 4, 2) := by decide +kernel
theorem dl_242 : decode code 242 = .ok (.iconst (1), 1) := by decide +kernel
theorem dl_243 : decode code 243 = .ok (.iadd, 1) := by decide +kernel
theorem dl_244 : decode code 244 = .ok (.iaload, 1) := by decide +kernel
theorem dl_245 : decode code 245 = .ok (.aload_n 0, 1) := by decide +kernel
theorem dl_246 : decode code 246 = .ok (.iload 4, 2) := by decide +kernel
theorem dl_248 : decode code 248 = .ok (.iconst (2), 1) := by decide +kernel
theorem dl_249 : decode code 249 = .ok (.iadd, 1) := by decide +kernel
theorem dl_250 : decode code 250 = .ok (.iaload, 1) := by decide +kernel
theorem dl_251 : decode code 251 = .ok (.aload_n 0, 1) := by decide +kernel
theorem dl_252 : decode code 252 = .ok (.iload 4, 2) := by decide +kernel
theorem dl_254 : decode code 254 = .ok (.iconst (3), 1) := by decide +kernel
theorem dl_255 : decode code 255 = .ok (.iadd, 1) := by decide +kernel
theorem dl_256 : decode code 256 = .ok (.iaload, 1) := by decide +kernel
theorem dl_257 : decode code 257 = .ok (.aload_n 0, 1) := by decide +kernel
theorem dl_258 : decode code 258 = .ok (.iload 4, 2) := by decide +kernel
theorem dl_260 : decode code 260 = .ok (.iconst (4), 1) := by decide +kernel
theorem dl_261 : decode code 261 = .ok (.iadd, 1) := by decide +kernel
theorem dl_262 : decode code 262 = .ok (.iaload, 1) := by decide +kernel
theorem dl_263 : decode code 263 = .ok (.aload_n 0, 1) := by decide +kernel
theorem dl_264 : decode code 264 = .ok (.iload 4, 2) := by decide +kernel
theorem dl_266 : decode code 266 = .ok (.iconst (5), 1) := by decide +kernel
theorem dl_267 : decode code 267 = .ok (.iadd, 1) := by decide +kernel
theorem dl_268 : decode code 268 = .ok (.iaload, 1) := by decide +kernel
theorem dl_269 : decode code 269 = .ok (.invokevirtual 32, 3) := by decide +kernel
theorem dl_272 : decode code 272 = .ok (.if_icmp .eq (1053), 3) := by decide +kernel
theorem dl_277 : decode code 277 = .ok (.aload_n 1, 1) := by decide +kernel
theorem dl_278 : decode code 278 = .ok (.aload_n 0, 1) := by decide +kernel
theorem dl_279 : decode code 279 = .ok (.iload 4, 2) := by decide +kernel
theorem dl_281 : decode code 281 = .ok (.iconst (1), 1) := by decide +kernel
theorem dl_282 : decode code 282 = .ok (.iadd, 1) := by decide +kernel
theorem dl_283 : decode code 283 = .ok (.iaload, 1) := by decide +kernel
theorem dl_284 : decode code 284 = .ok (.invokevirtual 33, 3) := by decide +kernel
theorem dl_287 : decode code 287 = .ok (.aload_n 2, 1) := by decide +kernel
theorem dl_288 : decode code 288 = .ok (.aload_n 0, 1) := by decide +kernel
theorem dl_289 : decode code 289 = .ok (.iload 4, 2) := by decide +kernel
theorem dl_291 : decode code 291 = .ok (.iconst (1), 1) := by decide +kernel
theorem dl_292 : decode code 292 = .ok (.iadd, 1) := by decide +kernel
theorem dl_293 : decode code 293 = .ok (.iaload, 1) := by decide +kernel
theorem dl_294 : decode code 294 = .ok (.invokevirtual 37, 3) := by decide +kernel
theorem dl_297 : decode code 297 = .ok (.if_icmp .eq (1028), 3) := by decide +kernel
theorem dl_302 : decode code 302 = .ok (.aload_n 1, 1) := by decide +kernel
theorem dl_303 : decode code 303 = .ok (.invokevirtual 38, 3) := by decide +kernel
theorem dl_306 : decode code 306 = .ok (.aload_n 2, 1) := by decide +kernel
theorem dl_307 : decode code 307 = .ok (.invokevirtual 42, 3) := by decide +kernel
theorem dl_310 : decode code 310 = .ok (.if_icmp .eq (1015), 3) := by decide +kernel
theorem dl_315 : decode code 315 = .ok (.aload_n 1, 1) := by decide +kernel
theorem dl_316 : decode code 316 = .ok (.invokevirtual 43, 3) := by decide +kernel
theorem dl_319 : decode code 319 = .ok (.aload_n 2, 1) := by decide +kernel
theorem dl_320 : decode code 320 = .ok (.invokevirtual 46, 3) := by decide +kernel
theorem dl_323 : decode code 323 = .ok (.if_icmp .eq (1002), 3) := by decide +kernel
theorem dl_328 : decode code 328 = .ok (.aload_n 1, 1) := by decide +kernel
theorem dl_329 : decode code 329 = .ok (.aload_n 0, 1) := by decide +kernel
theorem dl_330 : decode code 330 = .ok (.iload 4, 2) := by decide +kernel
theorem dl_332 : decode code 332 = .ok (.iconst (1), 1) := by decide +kernel
theorem dl_333 : decode code 333 = .ok (.iadd, 1) := by decide +kernel
theorem dl_334 : decode code 334 = .ok (.iaload, 1) := by decide +kernel
theorem dl_335 : decode code 335 = .ok (.invokevirtual 47, 3) := by decide +kernel
theorem dl_338 : decode code 338 = .ok (.aload_n 2, 1) := by decide +kernel
theorem dl_339 : decode code 339 = .ok (.aload_n 0, 1) := by decide +kernel
theorem dl_340 : decode code 340 = .ok (.iload 4, 2) := by decide +kernel
theorem dl_342 : decode code 342 = .ok (.iconst (1), 1) := by decide +kernel
theorem dl_343 : decode code 343 = .ok (.iadd, 1) := by decide +kernel
theorem dl_344 : decode code 344 = .ok (.iaload, 1) := by decide +kernel
theorem dl_345 : decode code 345 = .ok (.invokevirtual 51, 3) := by decide +kernel
theorem dl_348 : decode code 348 = .ok (.if_icmp .eq (977), 3) := by decide +kernel
theorem dl_557 : decode code 557 = .ok (.aload_n 1, 1) := by decide +kernel
theorem dl_558 : decode code 558 = .ok (.aload_n 0, 1) := by decide +kernel
theorem dl_559 : decode code 559 = .ok (.iload 4, 2) := by decide +kernel
theorem dl_561 : decode code 561 = .ok (.iconst (1), 1) := by decide +kernel
theorem dl_562 : decode code 562 = .ok (.iadd, 1) := by decide +kernel
theorem dl_563 : decode code 563 = .ok (.iaload, 1) := by decide +kernel
theorem dl_564 : decode code 564 = .ok (.invokevirtual 67, 3) := by decide +kernel
theorem dl_567 : decode code 567 = .ok (.aload_n 2, 1) := by decide +kernel
theorem dl_568 : decode code 568 = .ok (.aload_n 0, 1) := by decide +kernel
theorem dl_569 : decode code 569 = .ok (.iload 4, 2) := by decide +kernel
theorem dl_571 : decode code 571 = .ok (.iconst (1), 1) := by decide +kernel
theorem dl_572 : decode code 572 = .ok (.iadd, 1) := by decide +kernel
theorem dl_573 : decode code 573 = .ok (.iaload, 1) := by decide +kernel
theorem dl_574 : decode code 574 = .ok (.invokevirtual 70, 3) := by decide +kernel
theorem dl_577 : decode code 577 = .ok (.if_icmp .eq (748), 3) := by decide +kernel
theorem dl_582 : decode code 582 = .ok (.aload_n 1, 1) := by decide +kernel
theorem dl_583 : decode code 583 = .ok (.aload_n 0, 1) := by decide +kernel
theorem dl_584 : decode code 584 = .ok (.iload 4, 2) := by decide +kernel
theorem dl_586 : decode code 586 = .ok (.iconst (1), 1) := by decide +kernel
theorem dl_587 : decode code 587 = .ok (.iadd, 1) := by decide +kernel
theorem dl_588 : decode code 588 = .ok (.iaload, 1) := by decide +kernel
theorem dl_589 : decode code 589 = .ok (.aload_n 0, 1) := by decide +kernel
theorem dl_590 : decode code 590 = .ok (.iload 4, 2) := by decide +kernel
theorem dl_592 : decode code 592 = .ok (.iconst (2), 1) := by decide +kernel
theorem dl_593 : decode code 593 = .ok (.iadd, 1) := by decide +kernel
theorem dl_594 : decode code 594 = .ok (.iaload, 1) := by decide +kernel
theorem dl_595 : decode code 595 = .ok (.aload_n 0, 1) := by decide +kernel
theorem dl_596 : decode code 596 = .ok (.iload 4, 2) := by decide +kernel
theorem dl_598 : decode code 598 = .ok (.iconst (3), 1) := by decide +kernel
theorem dl_599 : decode code 599 = .ok (.iadd, 1) := by decide +kernel
theorem dl_600 : decode code 600 = .ok (.iaload, 1) := by decide +kernel
theorem dl_601 : decode code 601 = .ok (.invokevirtual 71, 3) := by decide +kernel
theorem dl_604 : decode code 604 = .ok (.aload_n 2, 1) := by decide +kernel
theorem dl_605 : decode code 605 = .ok (.aload_n 0, 1) := by decide +kernel
theorem dl_606 : decode code 606 = .ok (.iload 4, 2) := by decide +kernel
theorem dl_608 : decode code 608 = .ok (.iconst (1), 1) := by decide +kernel
theorem dl_609 : decode code 609 = .ok (.iadd, 1) := by decide +kernel
theorem dl_610 : decode code 610 = .ok (.iaload, 1) := by decide +kernel
theorem dl_611 : decode code 611 = .ok (.aload_n 0, 1) := by decide +kernel
theorem dl_612 : decode code 612 = .ok (.iload 4, 2) := by decide +kernel
theorem dl_614 : decode code 614 = .ok (.iconst (2), 1) := by decide +kernel
theorem dl_615 : decode code 615 = .ok (.iadd, 1) := by decide +kernel
theorem dl_616 : decode code 616 = .ok (.iaload, 1) := by decide +kernel
theorem dl_617 : decode code 617 = .ok (.aload_n 0, 1) := by decide +kernel
theorem dl_618 : decode code 618 = .ok (.iload 4, 2) := by decide +kernel
theorem dl_620 : decode code 620 = .ok (.iconst (3), 1) := by decide +kernel
theorem dl_621 : decode code 621 = .ok (.iadd, 1) := by decide +kernel
theorem dl_622 : decode code 622 = .ok (.iaload, 1) := by decide +kernel
theorem dl_623 : decode code 623 = .ok (.invokevirtual 75, 3) := by decide +kernel
theorem dl_626 : decode code 626 = .ok (.if_icmp .eq (699), 3) := by decide +kernel
theorem dl_631 : decode code 631 = .ok (.aload_n 1, 1) := by decide +kernel
theorem dl_632 : decode code 632 = .ok (.aload_n 0, 1) := by decide +kernel
theorem dl_633 : decode code 633 = .ok (.iload 4, 2) := by decide +kernel
theorem dl_635 : decode code 635 = .ok (.iconst (1), 1) := by decide +kernel
theorem dl_636 : decode code 636 = .ok (.iadd, 1) := by decide +kernel
theorem dl_637 : decode code 637 = .ok (.iaload, 1) := by decide +kernel
theorem dl_638 : decode code 638 = .ok (.invokevirtual 76, 3) := by decide +kernel
theorem dl_641 : decode code 641 = .ok (.aload_n 2, 1) := by decide +kernel
theorem dl_642 : decode code 642 = .ok (.aload_n 0, 1) := by decide +kernel
theorem dl_643 : decode code 643 = .ok (.iload 4, 2) := by decide +kernel
theorem dl_645 : decode code 645 = .ok (.iconst (1), 1) := by decide +kernel
theorem dl_646 : decode code 646 = .ok (.iadd, 1) := by decide +kernel
theorem dl_647 : decode code 647 = .ok (.iaload, 1) := by decide +kernel
theorem dl_648 : decode code 648 = .ok (.invokevirtual 79, 3) := by decide +kernel
theorem dl_651 : decode code 651 = .ok (.if_icmp .eq (674), 3) := by decide +kernel
theorem dl_656 : decode code 656 = .ok (.aload_n 1, 1) := by decide +kernel
theorem dl_657 : decode code 657 = .ok (.aload_n 0, 1) := by decide +kernel
theorem dl_658 : decode code 658 = .ok (.iload 4, 2) := by decide +kernel
theorem dl_660 : decode code 660 = .ok (.iconst (1), 1) := by decide +kernel
theorem dl_661 : decode code 661 = .ok (.iadd, 1) := by decide +kernel
theorem dl_662 : decode code 662 = .ok (.iaload, 1) := by decide +kernel
theorem dl_663 : decode code 663 = .ok (.invokevirtual 80, 3) := by decide +kernel
theorem dl_666 : decode code 666 = .ok (.aload_n 2, 1) := by decide +kernel
theorem dl_667 : decode code 667 = .ok (.aload_n 0, 1) := by decide +kernel
theorem dl_668 : decode code 668 = .ok (.iload 4, 2) := by decide +kernel
theorem dl_670 : decode code 670 = .ok (.iconst (1), 1) := by decide +kernel
theorem dl_671 : decode code 671 = .ok (.iadd, 1) := by decide +kernel
theorem dl_672 : decode code 672 = .ok (.iaload, 1) := by decide +kernel
theorem dl_673 : decode code 673 = .ok (.invokevirtual 83, 3) := by decide +kernel
theorem dl_676 : decode code 676 = .ok (.if_icmp .eq (649), 3) := by decide +kernel
theorem dl_681 : decode code 681 = .ok (.aload_n 1, 1) := by decide +kernel
theorem dl_682 : decode code 682 = .ok (.aload_n 0, 1) := by decide +kernel
theorem dl_683 : decode code 683 = .ok (.iload 4, 2) := by decide +kernel
theorem dl_685 : decode code 685 = .ok (.iconst (1), 1) := by decide +kernel
theorem dl_686 : decode code 686 = .ok (.iadd, 1) := by decide +kernel
theorem dl_687 : decode code 687 = .ok (.iaload, 1) := by decide +kernel
theorem dl_688 : decode code 688 = .ok (.invokevirtual 84, 3) := by decide +kernel
theorem dl_691 : decode code 691 = .ok (.aload_n 2, 1) := by decide +kernel
theorem dl_692 : decode code 692 = .ok (.aload_n 0, 1) := by decide +kernel
theorem dl_693 : decode code 693 = .ok (.iload 4, 2) := by decide +kernel
theorem dl_695 : decode code 695 = .ok (.iconst (1), 1) := by decide +kernel
theorem dl_696 : decode code 696 = .ok (.iadd, 1) := by decide +kernel
theorem dl_697 : decode code 697 = .ok (.iaload, 1) := by decide +kernel
theorem dl_698 : decode code 698 = .ok (.invokevirtual 87, 3) := by decide +kernel
theorem dl_701 : decode code 701 = .ok (.if_icmp .eq (624), 3) := by decide +kernel
theorem dl_706 : decode code 706 = .ok (.aload_n 1, 1) := by decide +kernel
theorem dl_707 : decode code 707 = .ok (.aload_n 0, 1) := by decide +kernel
theorem dl_708 : decode code 708 = .ok (.iload 4, 2) := by decide +kernel
theorem dl_710 : decode code 710 = .ok (.iconst (1), 1) := by decide +kernel
theorem dl_711 : decode code 711 = .ok (.iadd, 1) := by decide +kernel
theorem dl_712 : decode code 712 = .ok (.iaload, 1) := by decide +kernel
theorem dl_713 : decode code 713 = .ok (.invokevirtual 88, 3) := by decide +kernel
theorem dl_716 : decode code 716 = .ok (.aload_n 2, 1) := by decide +kernel
theorem dl_717 : decode code 717 = .ok (.aload_n 0, 1) := by decide +kernel
theorem dl_718 : decode code 718 = .ok (.iload 4, 2) := by decide +kernel
theorem dl_720 : decode code 720 = .ok (.iconst (1), 1) := by decide +kernel
theorem dl_721 : decode code 721 = .ok (.iadd, 1) := by decide +kernel
theorem dl_722 : decode code 722 = .ok (.iaload, 1) := by decide +kernel
theorem dl_723 : decode code 723 = .ok (.invokevirtual 91, 3) := by decide +kernel
theorem dl_726 : decode code 726 = .ok (.if_icmp .eq (599), 3) := by decide +kernel
theorem dl_731 : decode code 731 = .ok (.aload_n 1, 1) := by decide +kernel
theorem dl_732 : decode code 732 = .ok (.invokevirtual 92, 3) := by decide +kernel
theorem dl_735 : decode code 735 = .ok (.aload_n 2, 1) := by decide +kernel
theorem dl_736 : decode code 736 = .ok (.invokevirtual 95, 3) := by decide +kernel
theorem dl_739 : decode code 739 = .ok (.if_icmp .eq (586), 3) := by decide +kernel
theorem dl_744 : decode code 744 = .ok (.aload_n 1, 1) := by decide +kernel
theorem dl_745 : decode code 745 = .ok (.aload_n 0, 1) := by decide +kernel
theorem dl_746 : decode code 746 = .ok (.iload 4, 2) := by decide +kernel
theorem dl_748 : decode code 748 = .ok (.iconst (1), 1) := by decide +kernel
theorem dl_749 : decode code 749 = .ok (.iadd, 1) := by decide +kernel
theorem dl_750 : decode code 750 = .ok (.iaload, 1) := by decide +kernel
theorem dl_751 : decode code 751 = .ok (.aload_n 0, 1) := by decide +kernel
theorem dl_752 : decode code 752 = .ok (.iload 4, 2) := by decide +kernel
theorem dl_754 : decode code 754 = .ok (.iconst (2), 1) := by decide +kernel
theorem dl_755 : decode code 755 = .ok (.iadd, 1) := by decide +kernel
theorem dl_756 : decode code 756 = .ok (.iaload, 1) := by decide +kernel
theorem dl_757 : decode code 757 = .ok (.invokevirtual 96, 3) := by decide +kernel
theorem dl_760 : decode code 760 = .ok (.aload_n 2, 1) := by decide +kernel
theorem dl_761 : decode code 761 = .ok (.aload_n 0, 1) := by decide +kernel
theorem dl_762 : decode code 762 = .ok (.iload 4, 2) := by decide +kernel
theorem dl_764 : decode code 764 = .ok (.iconst (1), 1) := by decide +kernel
theorem dl_765 : decode code 765 = .ok (.iadd, 1) := by decide +kernel
theorem dl_766 : decode code 766 = .ok (.iaload, 1) := by decide +kernel
theorem dl_767 : decode code 767 = .ok (.aload_n 0, 1) := by decide +kernel
theorem dl_768 : decode code 768 = .ok (.iload 4, 2) := by decide +kernel
theorem dl_770 : decode code 770 = .ok (.iconst (2), 1) := by decide +kernel
theorem dl_771 : decode code 771 = .ok (.iadd, 1) := by decide +kernel
theorem dl_772 : decode code 772 = .ok (.iaload, 1) := by decide +kernel
theorem dl_773 : decode code 773 = .ok (.invokevirtual 99, 3) := by decide +kernel
theorem dl_776 : decode code 776 = .ok (.if_icmp .eq (549), 3) := by decide +kernel
theorem dl_781 : decode code 781 = .ok (.aload_n 1, 1) := by decide +kernel
theorem dl_782 : decode code 782 = .ok (.invokevirtual 100, 3) := by decide +kernel
theorem dl_785 : decode code 785 = .ok (.aload_n 2, 1) := by decide +kernel
theorem dl_786 : decode code 786 = .ok (.invokevirtual 103, 3) := by decide +kernel
theorem dl_789 : decode code 789 = .ok (.if_icmp .eq (536), 3) := by decide +kernel
theorem dl_794 : decode code 794 = .ok (.aload_n 1, 1) := by decide +kernel
theorem dl_795 : decode code 795 = .ok (.invokevirtual 104, 3) := by decide +kernel
theorem dl_798 : decode code 798 = .ok (.aload_n 2, 1) := by decide +kernel
theorem dl_799 : decode code 799 = .ok (.invokevirtual 107, 3) := by decide +kernel
theorem dl_802 : decode code 802 = .ok (.if_icmp .eq (523), 3) := by decide +kernel
theorem dl_807 : decode code 807 = .ok (.aload_n 1, 1) := by decide +kernel
theorem dl_808 : decode code 808 = .ok (.aload_n 0, 1) := by decide +kernel
theorem dl_809 : decode code 809 = .ok (.iload 4, 2) := by decide +kernel
theorem dl_811 : decode code 811 = .ok (.iconst (1), 1) := by decide +kernel
theorem dl_812 : decode code 812 = .ok (.iadd, 1) := by decide +kernel
theorem dl_813 : decode code 813 = .ok (.iaload, 1) := by decide +kernel
theorem dl_814 : decode code 814 = .ok (.invokevirtual 108, 3) := by decide +kernel
theorem dl_817 : decode code 817 = .ok (.aload_n 2, 1) := by decide +kernel
theorem dl_818 : decode code 818 = .ok (.aload_n 0, 1) := by decide +kernel
theorem dl_819 : decode code 819 = .ok (.iload 4, 2) := by decide +kernel
theorem dl_821 : decode code 821 = .ok (.iconst (1), 1) := by decide +kernel
theorem dl_822 : decode code 822 = .ok (.iadd, 1) := by decide +kernel
theorem dl_823 : decode code 823 = .ok (.iaload, 1) := by decide +kernel
theorem dl_824 : decode code 824 = .ok (.invokevirtual 111, 3) := by decide +kernel
theorem dl_827 : decode code 827 = .ok (.if_icmp .eq (498), 3) := by decide +kernel
theorem dl_832 : decode code 832 = .ok (.aload_n 1, 1) := by decide +kernel
theorem dl_833 : decode code 833 = .ok (.aload_n 0, 1) := by decide +kernel
theorem dl_834 : decode code 834 = .ok (.iload 4, 2) := by decide +kernel
theorem dl_836 : decode code 836 = .ok (.iconst (1), 1) := by decide +kernel
theorem dl_837 : decode code 837 = .ok (.iadd, 1) := by decide +kernel
theorem dl_838 : decode code 838 = .ok (.iaload, 1) := by decide +kernel
theorem dl_839 : decode code 839 = .ok (.invokevirtual 112, 3) := by decide +kernel
theorem dl_842 : decode code 842 = .ok (.aload_n 2, 1) := by decide +kernel
theorem dl_843 : decode code 843 = .ok (.aload_n 0, 1) := by decide +kernel
theorem dl_844 : decode code 844 = .ok (.iload 4, 2) := by decide +kernel
theorem dl_846 : decode code 846 = .ok (.iconst (1), 1) := by decide +kernel
theorem dl_847 : decode code 847 = .ok (.iadd, 1) := by decide +kernel
theorem dl_848 : decode code 848 = .ok (.iaload, 1) := by decide +kernel
theorem dl_849 : decode code 849 = .ok (.invokevirtual 115, 3) := by decide +kernel
theorem dl_852 : decode code 852 = .ok (.if_icmp .eq (473), 3) := by decide +kernel
theorem dl_857 : decode code 857 = .ok (.aload_n 1, 1) := by decide +kernel
theorem dl_858 : decode code 858 = .ok (.invokevirtual 116, 3) := by decide +kernel
theorem dl_861 : decode code 861 = .ok (.aload_n 2, 1) := by decide +kernel
theorem dl_862 : decode code 862 = .ok (.invokevirtual 119, 3) := by decide +kernel
theorem dl_865 : decode code 865 = .ok (.if_icmp .eq (460), 3) := by decide +kernel
theorem dl_938 : decode code 938 = .ok (.aload_n 1, 1) := by decide +kernel
theorem dl_939 : decode code 939 = .ok (.aload_n 0, 1) := by decide +kernel
theorem dl_940 : decode code 940 = .ok (.iload 4, 2) := by decide +kernel
theorem dl_942 : decode code 942 = .ok (.iconst (1), 1) := by decide +kernel
theorem dl_943 : decode code 943 = .ok (.iadd, 1) := by decide +kernel
theorem dl_944 : decode code 944 = .ok (.iaload, 1) := by decide +kernel
theorem dl_945 : decode code 945 = .ok (.invokevirtual 123, 3) := by decide +kernel
theorem dl_948 : decode code 948 = .ok (.aload_n 2, 1) := by decide +kernel
theorem dl_949 : decode code 949 = .ok (.aload_n 0, 1) := by decide +kernel
theorem dl_950 : decode code 950 = .ok (.iload 4, 2) := by decide +kernel
theorem dl_952 : decode code 952 = .ok (.iconst (1), 1) := by decide +kernel
theorem dl_953 : decode code 953 = .ok (.iadd, 1) := by decide +kernel
theorem dl_954 : decode code 954 = .ok (.iaload, 1) := by decide +kernel
theorem dl_955 : decode code 955 = .ok (.invokevirtual 126, 3) := by decide +kernel
theorem dl_958 : decode code 958 = .ok (.if_icmp .eq (367), 3) := by decide +kernel
theorem dl_963 : decode code 963 = .ok (.aload_n 1, 1) := by decide +kernel
theorem dl_964 : decode code 964 = .ok (.aload_n 0, 1) := by decide +kernel
theorem dl_965 : decode code 965 = .ok (.iload 4, 2) := by decide +kernel
theorem dl_967 : decode code 967 = .ok (.iconst (1), 1) := by decide +kernel
theorem dl_968 : decode code 968 = .ok (.iadd, 1) := by decide +kernel
theorem dl_969 : decode code 969 = .ok (.iaload, 1) := by decide +kernel
theorem dl_970 : decode code 970 = .ok (.aload_n 0, 1) := by decide +kernel
theorem dl_971 : decode code 971 = .ok (.iload 4, 2) := by decide +kernel
theorem dl_973 : decode code 973 = .ok (.iconst (2), 1) := by decide +kernel
theorem dl_974 : decode code 974 = .ok (.iadd, 1) := by decide +kernel
theorem dl_975 : decode code 975 = .ok (.iaload, 1) := by decide +kernel
theorem dl_976 : decode code 976 = .ok (.invokevirtual 127, 3) := by decide +kernel
theorem dl_979 : decode code 979 = .ok (.aload_n 2, 1) := by decide +kernel
theorem dl_980 : decode code 980 = .ok (.aload_n 0, 1) := by decide +kernel
theorem dl_981 : decode code 981 = .ok (.iload 4, 2) := by decide +kernel
theorem dl_983 : decode code 983 = .ok (.iconst (1), 1) := by decide +kernel
theorem dl_984 : decode code 984 = .ok (.iadd, 1) := by decide +kernel
theorem dl_985 : decode code 985 = .ok (.iaload, 1) := by decide +kernel
theorem dl_986 : decode code 986 = .ok (.aload_n 0, 1) := by decide +kernel
theorem dl_987 : decode code 987 = .ok (.iload 4, 2) := by decide +kernel
theorem dl_989 : decode code 989 = .ok (.iconst (2), 1) := by decide +kernel
theorem dl_990 : decode code 990 = .ok (.iadd, 1) := by decide +kernel
theorem dl_991 : decode code 991 = .ok (.iaload, 1) := by decide +kernel
theorem dl_992 : decode code 992 = .ok (.invokevirtual 130, 3) := by decide +kernel
theorem dl_995 : decode code 995 = .ok (.if_icmp .eq (330), 3) := by decide +kernel
theorem dl_1000 : decode code 1000 = .ok (.aload_n 1, 1) := by decide +kernel
theorem dl_1001 : decode code 1001 = .ok (.aload_n 0, 1) := by decide +kernel
theorem dl_1002 : decode code 1002 = .ok (.iload 4, 2) := by decide +kernel
theorem dl_1004 : decode code 1004 = .ok (.iconst (1), 1) := by decide +kernel
theorem dl_1005 : decode code 1005 = .ok (.iadd, 1) := by decide +kernel
theorem dl_1006 : decode code 1006 = .ok (.iaload, 1) := by decide +kernel
theorem dl_1007 : decode code 1007 = .ok (.invokevirtual 131, 3) := by decide +kernel
theorem dl_1010 : decode code 1010 = .ok (.aload_n 2, 1) := by decide +kernel
theorem dl_1011 : decode code 1011 = .ok (.aload_n 0, 1) := by decide +kernel
theorem dl_1012 : decode code 1012 = .ok (.iload 4, 2) := by decide +kernel
theorem dl_1014 : decode code 1014 = .ok (.iconst (1), 1) := by decide +kernel
theorem dl_1015 : decode code 1015 = .ok (.iadd, 1) := by decide +kernel
theorem dl_1016 : decode code 1016 = .ok (.iaload, 1) := by decide +kernel
theorem dl_1017 : decode code 1017 = .ok (.invokevirtual 134, 3) := by decide +kernel
theorem dl_1020 : decode code 1020 = .ok (.if_icmp .eq (305), 3) := by decide +kernel
theorem dl_1025 : decode code 1025 = .ok (.aload_n 1, 1) := by decide +kernel
theorem dl_1026 : decode code 1026 = .ok (.invokevirtual 135, 3) := by decide +kernel
theorem dl_1029 : decode code 1029 = .ok (.aload_n 2, 1) := by decide +kernel
theorem dl_1030 : decode code 1030 = .ok (.invokevirtual 138, 3) := by decide +kernel
theorem dl_1033 : decode code 1033 = .ok (.if_icmp .eq (292), 3) := by decide +kernel
theorem dl_1038 : decode code 1038 = .ok (.aload_n 1, 1) := by decide +kernel
theorem dl_1039 : decode code 1039 = .ok (.aload_n 0, 1) := by decide +kernel
theorem dl_1040 : decode code 1040 = .ok (.iload 4, 2) := by decide +kernel
theorem dl_1042 : decode code 1042 = .ok (.iconst (1), 1) := by decide +kernel
theorem dl_1043 : decode code 1043 = .ok (.iadd, 1) := by decide +kernel
theorem dl_1044 : decode code 1044 = .ok (.iaload, 1) := by decide +kernel
theorem dl_1045 : decode code 1045 = .ok (.invokevirtual 139, 3) := by decide +kernel
theorem dl_1048 : decode code 1048 = .ok (.aload_n 2, 1) := by decide +kernel
theorem dl_1049 : decode code 1049 = .ok (.aload_n 0, 1) := by decide +kernel
theorem dl_1050 : decode code 1050 = .ok (.iload 4, 2) := by decide +kernel
theorem dl_1052 : decode code 1052 = .ok (.iconst (1), 1) := by decide +kernel
theorem dl_1053 : decode code 1053 = .ok (.iadd, 1) := by decide +kernel
theorem dl_1054 : decode code 1054 = .ok (.iaload, 1) := by decide +kernel
theorem dl_1055 : decode code 1055 = .ok (.invokevirtual 142, 3) := by decide +kernel
theorem dl_1058 : decode code 1058 = .ok (.if_icmp .eq (267), 3) := by decide +kernel
theorem dl_1063 : decode code 1063 = .ok (.aload_n 1, 1) := by decide +kernel
theorem dl_1064 : decode code 1064 = .ok (.invokevirtual 143, 3) := by decide +kernel
theorem dl_1067 : decode code 1067 = .ok (.aload_n 2, 1) := by decide +kernel
theorem dl_1068 : decode code 1068 = .ok (.invokevirtual 146, 3) := by decide +kernel
theorem dl_1071 : decode code 1071 = .ok (.if_icmp .eq (254), 3) := by decide +kernel
theorem dl_1076 : decode code 1076 = .ok (.aload_n 1, 1) := by decide +kernel
theorem dl_1077 : decode code 1077 = .ok (.aload_n 0, 1) := by decide +kernel
theorem dl_1078 : decode code 1078 = .ok (.iload 4, 2) := by decide +kernel
theorem dl_1080 : decode code 1080 = .ok (.iconst (1), 1) := by decide +kernel
theorem dl_1081 : decode code 1081 = .ok (.iadd, 1) := by decide +kernel
theorem dl_1082 : decode code 1082 = .ok (.iaload, 1) := by decide +kernel
theorem dl_1083 : decode code 1083 = .ok (.invokevirtual 147, 3) := by decide +kernel
theorem dl_1086 : decode code 1086 = .ok (.aload_n 2, 1) := by decide +kernel
theorem dl_1087 : decode code 1087 = .ok (.aload_n 0, 1) := by decide +kernel
theorem dl_1088 : decode code 1088 = .ok (.iload 4, 2) := by decide +kernel
theorem dl_1090 : decode code 1090 = .ok (.iconst (1), 1) := by decide +kernel
theorem dl_1091 : decode code 1091 = .ok (.iadd, 1) := by decide +kernel
theorem dl_1092 : decode code 1092 = .ok (.iaload, 1) := by decide +kernel
theorem dl_1093 : decode code 1093 = .ok (.invokevirtual 150, 3) := by decide +kernel
theorem dl_1096 : decode code 1096 = .ok (.if_icmp .eq (229), 3) := by decide +kernel
theorem dl_1101 : decode code 1101 = .ok (.aload_n 1, 1) := by decide +kernel
theorem dl_1102 : decode code 1102 = .ok (.invokevirtual 151, 3) := by decide +kernel
theorem dl_1105 : decode code 1105 = .ok (.aload_n 2, 1) := by decide +kernel
theorem dl_1106 : decode code 1106 = .ok (.invokevirtual 154, 3) := by decide +kernel
theorem dl_1109 : decode code 1109 = .ok (.if_icmp .eq (216), 3) := by decide +kernel
theorem dl_1114 : decode code 1114 = .ok (.aload_n 1, 1) := by decide +kernel
theorem dl_1115 : decode code 1115 = .ok (.aload_n 0, 1) := by decide +kernel
theorem dl_1116 : decode code 1116 = .ok (.iload 4, 2) := by decide +kernel
theorem dl_1118 : decode code 1118 = .ok (.iconst (1), 1) := by decide +kernel
theorem dl_1119 : decode code 1119 = .ok (.iadd, 1) := by decide +kernel
theorem dl_1120 : decode code 1120 = .ok (.iaload, 1) := by decide +kernel
theorem dl_1121 : decode code 1121 = .ok (.aload_n 0, 1) := by decide +kernel
theorem dl_1122 : decode code 1122 = .ok (.iload 4, 2) := by decide +kernel
theorem dl_1124 : decode code 1124 = .ok (.iconst (2), 1) := by decide +kernel
theorem dl_1125 : decode code 1125 = .ok (.iadd, 1) := by decide +kernel
theorem dl_1126 : decode code 1126 = .ok (.iaload, 1) := by decide +kernel
theorem dl_1127 : decode code 1127 = .ok (.aload_n 0, 1) := by decide +kernel
theorem dl_1128 : decode code 1128 = .ok (.iload 4, 2) := by decide +kernel
theorem dl_1130 : decode code 1130 = .ok (.iconst (3), 1) := by decide +kernel
theorem dl_1131 : decode code 1131 = .ok (.iadd, 1) := by decide +kernel
theorem dl_1132 : decode code 1132 = .ok (.iaload, 1) := by decide +kernel
theorem dl_1133 : decode code 1133 = .ok (.invokevirtual 155, 3) := by decide +kernel
theorem dl_1136 : decode code 1136 = .ok (.aload_n 2, 1) := by decide +kernel
theorem dl_1137 : decode code 1137 = .ok (.aload_n 0, 1) := by decide +kernel
theorem dl_1138 : decode code 1138 = .ok (.iload 4, 2) := by decide +kernel
theorem dl_1140 : decode code 1140 = .ok (.iconst (1), 1) := by decide +kernel
theorem dl_1141 : decode code 1141 = .ok (.iadd, 1) := by decide +kernel
theorem dl_1142 : decode code 1142 = .ok (.iaload, 1) := by decide +kernel
theorem dl_1143 : decode code 1143 = .ok (.aload_n 0, 1) := by decide +kernel
theorem dl_1144 : decode code 1144 = .ok (.iload 4, 2) := by decide +kernel
theorem dl_1146 : decode code 1146 = .ok (.iconst (2), 1) := by decide +kernel
theorem dl_1147 : decode code 1147 = .ok (.iadd, 1) := by decide +kernel
theorem dl_1148 : decode code 1148 = .ok (.iaload, 1) := by decide +kernel
theorem dl_1149 : decode code 1149 = .ok (.aload_n 0, 1) := by decide +kernel
theorem dl_1150 : decode code 1150 = .ok (.iload 4, 2) := by decide +kernel
theorem dl_1152 : decode code 1152 = .ok (.iconst (3), 1) := by decide +kernel
theorem dl_1153 : decode code 1153 = .ok (.iadd, 1) := by decide +kernel
theorem dl_1154 : decode code 1154 = .ok (.iaload, 1) := by decide +kernel
theorem dl_1155 : decode code 1155 = .ok (.invokevirtual 158, 3) := by decide +kernel
theorem dl_1158 : decode code 1158 = .ok (.if_icmp .eq (167), 3) := by decide +kernel
theorem dl_1163 : decode code 1163 = .ok (.aload_n 1, 1) := by decide +kernel
theorem dl_1164 : decode code 1164 = .ok (.aload_n 0, 1) := by decide +kernel
theorem dl_1165 : decode code 1165 = .ok (.iload 4, 2) := by decide +kernel
theorem dl_1167 : decode code 1167 = .ok (.iconst (1), 1) := by decide +kernel
theorem dl_1168 : decode code 1168 = .ok (.iadd, 1) := by decide +kernel
theorem dl_1169 : decode code 1169 = .ok (.iaload, 1) := by decide +kernel
theorem dl_1170 : decode code 1170 = .ok (.aload_n 0, 1) := by decide +kernel
theorem dl_1171 : decode code 1171 = .ok (.iload 4, 2) := by decide +kernel
theorem dl_1173 : decode code 1173 = .ok (.iconst (2), 1) := by decide +kernel
theorem dl_1174 : decode code 1174 = .ok (.iadd, 1) := by decide +kernel
theorem dl_1175 : decode code 1175 = .ok (.iaload, 1) := by decide +kernel
theorem dl_1176 : decode code 1176 = .ok (.invokevirtual 159, 3) := by decide +kernel
theorem dl_1179 : decode code 1179 = .ok (.aload_n 2, 1) := by decide +kernel
theorem dl_1180 : decode code 1180 = .ok (.aload_n 0, 1) := by decide +kernel
theorem dl_1181 : decode code 1181 = .ok (.iload 4, 2) := by decide +kernel
theorem dl_1183 : decode code 1183 = .ok (.iconst (1), 1) := by decide +kernel
theorem dl_1184 : decode code 1184 = .ok (.iadd, 1) := by decide +kernel
theorem dl_1185 : decode code 1185 = .ok (.iaload, 1) := by decide +kernel
theorem dl_1186 : decode code 1186 = .ok (.aload_n 0, 1) := by decide +kernel
theorem dl_1187 : decode code 1187 = .ok (.iload 4, 2) := by decide +kernel
theorem dl_1189 : decode code 1189 = .ok (.iconst (2), 1) := by decide +kernel
theorem dl_1190 : decode code 1190 = .ok (.iadd, 1) := by decide +kernel
theorem dl_1191 : decode code 1191 = .ok (.iaload, 1) := by decide +kernel
theorem dl_1192 : decode code 1192 = .ok (.invokevirtual 162, 3) := by decide +kernel
theorem dl_1195 : decode code 1195 = .ok (.if_icmp .eq (130), 3) := by decide +kernel
theorem dl_1200 : decode code 1200 = .ok (.aload_n 1, 1) := by decide +kernel
theorem dl_1201 : decode code 1201 = .ok (.aload_n 0, 1) := by decide +kernel
theorem dl_1202 : decode code 1202 = .ok (.iload 4, 2) := by decide +kernel
theorem dl_1204 : decode code 1204 = .ok (.iconst (1), 1) := by decide +kernel
theorem dl_1205 : decode code 1205 = .ok (.iadd, 1) := by decide +kernel
theorem dl_1206 : decode code 1206 = .ok (.iaload, 1) := by decide +kernel
theorem dl_1207 : decode code 1207 = .ok (.invokevirtual 163, 3) := by decide +kernel
theorem dl_1210 : decode code 1210 = .ok (.aload_n 2, 1) := by decide +kernel
theorem dl_1211 : decode code 1211 = .ok (.aload_n 0, 1) := by decide +kernel
theorem dl_1212 : decode code 1212 = .ok (.iload 4, 2) := by decide +kernel
theorem dl_1214 : decode code 1214 = .ok (.iconst (1), 1) := by decide +kernel
theorem dl_1215 : decode code 1215 = .ok (.iadd, 1) := by decide +kernel
theorem dl_1216 : decode code 1216 = .ok (.iaload, 1) := by decide +kernel
theorem dl_1217 : decode code 1217 = .ok (.invokevirtual 166, 3) := by decide +kernel
theorem dl_1220 : decode code 1220 = .ok (.if_icmp .eq (105), 3) := by decide +kernel
theorem dl_1225 : decode code 1225 = .ok (.aload_n 1, 1) := by decide +kernel
theorem dl_1226 : decode code 1226 = .ok (.aload_n 0, 1) := by decide +kernel
theorem dl_1227 : decode code 1227 = .ok (.iload 4, 2) := by decide +kernel
theorem dl_1229 : decode code 1229 = .ok (.iconst (1), 1) := by decide +kernel
theorem dl_1230 : decode code 1230 = .ok (.iadd, 1) := by decide +kernel
theorem dl_1231 : decode code 1231 = .ok (.iaload, 1) := by decide +kernel
theorem dl_1232 : decode code 1232 = .ok (.invokevirtual 167, 3) := by decide +kernel
theorem dl_1235 : decode code 1235 = .ok (.aload_n 2, 1) := by decide +kernel
theorem dl_1236 : decode code 1236 = .ok (.aload_n 0, 1) := by decide +kernel
theorem dl_1237 : decode code 1237 = .ok (.iload 4, 2) := by decide +kernel
theorem dl_1239 : decode code 1239 = .ok (.iconst (1), 1) := by decide +kernel
theorem dl_1240 : decode code 1240 = .ok (.iadd, 1) := by decide +kernel
theorem dl_1241 : decode code 1241 = .ok (.iaload, 1) := by decide +kernel
theorem dl_1242 : decode code 1242 = .ok (.invokevirtual 170, 3) := by decide +kernel
theorem dl_1245 : decode code 1245 = .ok (.if_icmp .eq (80), 3) := by decide +kernel
theorem dl_1250 : decode code 1250 = .ok (.aload_n 1, 1) := by decide +kernel
theorem dl_1251 : decode code 1251 = .ok (.aload_n 0, 1) := by decide +kernel
theorem dl_1252 : decode code 1252 = .ok (.iload 4, 2) := by decide +kernel
theorem dl_1254 : decode code 1254 = .ok (.iconst (1), 1) := by decide +kernel
theorem dl_1255 : decode code 1255 = .ok (.iadd, 1) := by decide +kernel
theorem dl_1256 : decode code 1256 = .ok (.iaload, 1) := by decide +kernel
theorem dl_1257 : decode code 1257 = .ok (.invokevirtual 171, 3) := by decide +kernel
theorem dl_1260 : decode code 1260 = .ok (.aload_n 2, 1) := by decide +kernel
theorem dl_1261 : decode code 1261 = .ok (.aload_n 0, 1) := by decide +kernel
theorem dl_1262 : decode code 1262 = .ok (.iload 4, 2) := by decide +kernel
theorem dl_1264 : decode code 1264 = .ok (.iconst (1), 1) := by decide +kernel
theorem dl_1265 : decode code 1265 = .ok (.iadd, 1) := by decide +kernel
theorem dl_1266 : decode code 1266 = .ok (.iaload, 1) := by decide +kernel
theorem dl_1267 : decode code 1267 = .ok (.invokevirtual 174, 3) := by decide +kernel
theorem dl_1270 : decode code 1270 = .ok (.if_icmp .eq (55), 3) := by decide +kernel
theorem dl_1275 : decode code 1275 = .ok (.aload_n 1, 1) := by decide +kernel
theorem dl_1276 : decode code 1276 = .ok (.aload_n 0, 1) := by decide +kernel
theorem dl_1277 : decode code 1277 = .ok (.iload 4, 2) := by decide +kernel
theorem dl_1279 : decode code 1279 = .ok (.iconst (1), 1) := by decide +kernel
theorem dl_1280 : decode code 1280 = .ok (.iadd, 1) := by decide +kernel
theorem dl_1281 : decode code 1281 = .ok (.iaload, 1) := by decide +kernel
theorem dl_1282 : decode code 1282 = .ok (.invokevirtual 175, 3) := by decide +kernel
theorem dl_1285 : decode code 1285 = .ok (.aload_n 2, 1) := by decide +kernel
theorem dl_1286 : decode code 1286 = .ok (.aload_n 0, 1) := by decide +kernel
theorem dl_1287 : decode code 1287 = .ok (.iload 4, 2) := by decide +kernel
theorem dl_1289 : decode code 1289 = .ok (.iconst (1), 1) := by decide +kernel
theorem dl_1290 : decode code 1290 = .ok (.iadd, 1) := by decide +kernel
theorem dl_1291 : decode code 1291 = .ok (.iaload, 1) := by decide +kernel
theorem dl_1292 : decode code 1292 = .ok (.invokevirtual 178, 3) := by decide +kernel
theorem dl_1295 : decode code 1295 = .ok (.if_icmp .eq (30), 3) := by decide +kernel
theorem dl_1300 : decode code 1300 = .ok (.aload_n 1, 1) := by decide +kernel
theorem dl_1301 : decode code 1301 = .ok (.aload_n 0, 1) := by decide +kernel
theorem dl_1302 : decode code 1302 = .ok (.iload 4, 2) := by decide +kernel
theorem dl_1304 : decode code 1304 = .ok (.iconst (1), 1) := by decide +kernel
theorem dl_1305 : decode code 1305 = .ok (.iadd, 1) := by decide +kernel
theorem dl_1306 : decode code 1306 = .ok (.iaload, 1) := by decide +kernel
theorem dl_1307 : decode code 1307 = .ok (.invokevirtual 179, 3) := by decide +kernel
theorem dl_1310 : decode code 1310 = .ok (.aload_n 2, 1) := by decide +kernel
theorem dl_1311 : decode code 1311 = .ok (.aload_n 0, 1) := by decide +kernel
theorem dl_1312 : decode code 1312 = .ok (.iload 4, 2) := by decide +kernel
theorem dl_1314 : decode code 1314 = .ok (.iconst (1), 1) := by decide +kernel
theorem dl_1315 : decode code 1315 = .ok (.iadd, 1) := by decide +kernel
theorem dl_1316 : decode code 1316 = .ok (.iaload, 1) := by decide +kernel
theorem dl_1317 : decode code 1317 = .ok (.invokevirtual 182, 3) := by decide +kernel
theorem dl_1320 : decode code 1320 = .ok (.if_icmp .eq (5), 3) := by decide +kernel
