theorem subAt {big ws : List Cond} (ps : List Nat) (h : ps.map (fun i => big[i]?) = ws.map some) : ∀ w ∈ ws, w ∈ big := fun w hw => by
  have h1 : some w ∈ ws.map some := List.mem_map.mpr ⟨w, hw, rfl⟩
  rw [← h] at h1
  obtain ⟨i, -, hi⟩ := List.mem_map.mp h1
  exact List.mem_of_getElem? hi
set_option maxRecDepth 20000 in
theorem vr_1 : ∀ w ∈ wsL_law_r1, w ∈ lw_tbl := subAt [57, 58, 48, 619, 620, 54, 59, 60, 61, 62, 63, 64, 65, 66, 49, 201, 202, 203, 204, 107, 108, 50, 205, 122] (by decide +kernel)
set_option maxRecDepth 20000 in
theorem vr_2 : ∀ w ∈ wsL_law_r2, w ∈ lw_tbl := subAt [123, 51, 206, 159, 160, 52, 207, 178, 179, 53, 208, 67, 68, 69, 70, 71, 75, 77, 80, 82, 106, 83, 84, 85] (by decide +kernel)
set_option maxRecDepth 20000 in
theorem vr_3 : ∀ w ∈ wsL_law_r3, w ∈ lw_tbl := subAt [86, 110, 111, 112, 113, 114, 125, 126, 127, 128, 130, 132, 134, 136, 138, 140, 142, 129, 162, 163, 164, 165, 166, 167] (by decide +kernel)
set_option maxRecDepth 20000 in
theorem vr_4 : ∀ w ∈ wsL_law_r4, w ∈ lw_tbl := subAt [168, 181, 182, 183, 200, 184, 185, 187, 189, 621, 622, 623, 624, 628, 629, 630, 631, 632, 634, 636, 637, 638, 643, 649] (by decide +kernel)
set_option maxRecDepth 20000 in
theorem vr_5 : ∀ w ∈ wsL_law_r5, w ∈ lw_tbl := subAt [650, 651, 652, 653, 722, 654, 625, 226, 227, 228, 229, 230, 231, 232, 233, 234, 235, 236, 237, 238, 239, 240, 241, 242] (by decide +kernel)
set_option maxRecDepth 20000 in
theorem vr_6 : ∀ w ∈ wsL_law_r6, w ∈ lw_tbl := subAt [243, 723, 724, 725, 726, 734, 730, 727, 728, 729, 731, 732, 733, 735, 737, 11, 738, 244, 245, 246, 247, 73, 248, 249] (by decide +kernel)
set_option maxRecDepth 20000 in
theorem vr_7 : ∀ w ∈ wsL_law_r7, w ∈ lw_tbl := subAt [250, 251, 252, 253, 254, 255, 256, 55, 257, 258, 259, 260, 739, 740, 741, 742, 626, 627, 743, 744, 745, 746, 747, 748] (by decide +kernel)
set_option maxRecDepth 20000 in
theorem vr_8 : ∀ w ∈ wsL_law_r8, w ∈ lw_tbl := subAt [261, 262, 263, 264, 265, 266, 267, 268, 269, 270, 271, 272, 273, 274, 275, 749, 750, 751, 752, 276, 277, 278, 279, 116] (by decide +kernel)
set_option maxRecDepth 20000 in
theorem vr_9 : ∀ w ∈ wsL_law_r9, w ∈ lw_tbl := subAt [280, 281, 282, 283, 753, 754, 755, 756, 757, 758, 635, 284, 285, 286, 287, 759, 760, 761, 762, 288, 289, 290, 291, 292] (by decide +kernel)
set_option maxRecDepth 20000 in
theorem vr_10 : ∀ w ∈ wsL_law_r10, w ∈ lw_tbl := subAt [293, 294, 295, 296, 297, 298, 299, 300, 301, 302, 303, 304, 305, 306, 307, 308, 310, 311, 763, 764, 765, 766, 639, 767] (by decide +kernel)
set_option maxRecDepth 20000 in
theorem vr_11 : ∀ w ∈ wsL_law_r11, w ∈ lw_tbl := subAt [769, 12, 770, 771, 773, 13, 774, 775, 776, 777, 778, 779, 780, 782, 14, 783, 784, 786, 15, 787, 312, 313, 314, 315] (by decide +kernel)
set_option maxRecDepth 20000 in
theorem vr_12 : ∀ w ∈ wsL_law_r12, w ∈ lw_tbl := subAt [137, 133, 135, 316, 317, 318, 319, 115, 320, 321, 322, 323, 324, 325, 326, 327, 328, 329, 330, 331, 332, 333, 334, 335] (by decide +kernel)
set_option maxRecDepth 20000 in
theorem vr_13 : ∀ w ∈ wsL_law_r13, w ∈ lw_tbl := subAt [336, 337, 338, 339, 340, 341, 342, 343, 344, 345, 347, 0, 348, 349, 351, 1, 352, 353, 354, 355, 356, 357, 358, 359] (by decide +kernel)
set_option maxRecDepth 20000 in
theorem vr_14 : ∀ w ∈ wsL_law_r14, w ∈ lw_tbl := subAt [360, 361, 362, 364, 2, 365, 366, 368, 3, 369, 78, 74, 370, 371, 372, 373, 374, 375, 376, 377, 378, 379, 380, 381] (by decide +kernel)
set_option maxRecDepth 20000 in
theorem vr_15 : ∀ w ∈ wsL_law_r15, w ∈ lw_tbl := subAt [382, 383, 385, 386, 387, 388, 389, 390, 391, 392, 393, 394, 395, 397, 398, 399, 400, 401, 402, 403, 404, 405, 56, 406] (by decide +kernel)
set_option maxRecDepth 20000 in
theorem vr_16 : ∀ w ∈ wsL_law_r16, w ∈ lw_tbl := subAt [408, 409, 410, 407, 411, 413, 4, 414, 415, 416, 417, 788, 789, 790, 791, 792, 644, 645, 640, 793, 795, 16, 796, 797] (by decide +kernel)
set_option maxRecDepth 20000 in
theorem vr_17 : ∀ w ∈ wsL_law_r17, w ∈ lw_tbl := subAt [799, 17, 800, 801, 802, 804, 18, 805, 641, 646, 647, 806, 808, 19, 809, 810, 812, 20, 813, 814, 816, 21, 817, 818] (by decide +kernel)
set_option maxRecDepth 20000 in
theorem vr_18 : ∀ w ∈ wsL_law_r18, w ∈ lw_tbl := subAt [819, 820, 821, 823, 22, 824, 825, 827, 23, 828, 642, 829, 831, 24, 832, 833, 835, 25, 836, 837, 839, 26, 840, 841] (by decide +kernel)
set_option maxRecDepth 20000 in
theorem vr_19 : ∀ w ∈ wsL_law_r19, w ∈ lw_tbl := subAt [843, 27, 844, 845, 847, 28, 848, 849, 851, 29, 852, 853, 855, 30, 856, 857, 859, 31, 860, 861, 863, 32, 864, 865] (by decide +kernel)
set_option maxRecDepth 20000 in
theorem vr_20 : ∀ w ∈ wsL_law_r20, w ∈ lw_tbl := subAt [867, 33, 868, 869, 871, 34, 872, 873, 874, 875, 876, 878, 35, 879, 418, 419, 420, 421, 131, 422, 423, 424, 425, 426] (by decide +kernel)
set_option maxRecDepth 20000 in
theorem vr_21 : ∀ w ∈ wsL_law_r21, w ∈ lw_tbl := subAt [427, 880, 881, 882, 883, 884, 885, 887, 36, 888, 428, 429, 430, 431, 139, 432, 889, 890, 891, 892, 433, 434, 435, 436] (by decide +kernel)
set_option maxRecDepth 20000 in
theorem vr_22 : ∀ w ∈ wsL_law_r22, w ∈ lw_tbl := subAt [141, 143, 893, 894, 895, 896, 437, 438, 439, 440, 441, 897, 898, 899, 900, 442, 443, 444, 445, 446, 447, 448, 449, 72] (by decide +kernel)
set_option maxRecDepth 20000 in
theorem vr_23 : ∀ w ∈ wsL_law_r23, w ∈ lw_tbl := subAt [450, 451, 452, 453, 454, 455, 456, 457, 458, 459, 460, 462, 5, 463, 465, 466, 467, 468, 469, 901, 902, 903, 904, 648] (by decide +kernel)
set_option maxRecDepth 20000 in
theorem vr_24 : ∀ w ∈ wsL_law_r24, w ∈ lw_tbl := subAt [905, 907, 37, 908, 470, 471, 472, 473, 474, 475, 476, 477, 478, 479, 909, 910, 911, 912, 913, 915, 38, 916, 480, 481] (by decide +kernel)
set_option maxRecDepth 20000 in
theorem vr_25 : ∀ w ∈ wsL_law_r25, w ∈ lw_tbl := subAt [482, 483, 486, 484, 485, 487, 488, 489, 917, 918, 919, 920, 490, 491, 492, 493, 494, 495, 496, 497, 498, 499, 500, 502] (by decide +kernel)
set_option maxRecDepth 20000 in
theorem vr_26 : ∀ w ∈ wsL_law_r26, w ∈ lw_tbl := subAt [6, 503, 921, 922, 923, 924, 925, 927, 39, 928, 504, 505, 506, 507, 508, 509, 510, 517, 511, 512, 513, 514, 515, 516] (by decide +kernel)
set_option maxRecDepth 20000 in
theorem vr_27 : ∀ w ∈ wsL_law_r27, w ∈ lw_tbl := subAt [518, 519, 520, 521, 522, 523, 929, 930, 931, 932, 933, 934, 939, 935, 937, 40, 938, 940, 941, 942, 524, 525, 526, 527] (by decide +kernel)
set_option maxRecDepth 20000 in
theorem vr_28 : ∀ w ∈ wsL_law_r28, w ∈ lw_tbl := subAt [943, 944, 945, 946, 528, 529, 530, 531, 81, 532, 533, 534, 535, 947, 948, 949, 950, 633, 536, 537, 538, 539, 540, 541] (by decide +kernel)
set_option maxRecDepth 20000 in
theorem vr_29 : ∀ w ∈ wsL_law_r29, w ∈ lw_tbl := subAt [542, 543, 951, 952, 953, 954, 544, 545, 546, 547, 548, 549, 550, 551, 552, 955, 956, 957, 958, 959, 961, 41, 962, 553] (by decide +kernel)
set_option maxRecDepth 20000 in
theorem vr_30 : ∀ w ∈ wsL_law_r30, w ∈ lw_tbl := subAt [554, 555, 556, 557, 558, 559, 560, 963, 964, 965, 966, 967, 968, 969, 970, 561, 562, 563, 564, 186, 188, 190, 565, 566] (by decide +kernel)
set_option maxRecDepth 20000 in
theorem vr_31 : ∀ w ∈ wsL_law_r31, w ∈ lw_tbl := subAt [567, 568, 577, 569, 571, 7, 572, 573, 575, 8, 576, 578, 580, 9, 581, 971, 972, 973, 974, 582, 583, 584, 585, 975] (by decide +kernel)
set_option maxRecDepth 20000 in
theorem vr_32 : ∀ w ∈ wsL_law_r32, w ∈ lw_tbl := subAt [976, 977, 978, 979, 980, 982, 42, 983, 586, 587, 588, 589, 591, 590, 592, 593, 594, 595, 597, 598, 599, 600, 601, 984] (by decide +kernel)
set_option maxRecDepth 20000 in
theorem vr_33 : ∀ w ∈ wsL_law_r33, w ∈ lw_tbl := subAt [985, 986, 987, 988, 989, 990, 991, 992, 993, 994, 602, 603, 604, 605, 606, 608, 10, 609, 995, 996, 997, 998, 655, 656] (by decide +kernel)
set_option maxRecDepth 20000 in
theorem vr_34 : ∀ w ∈ wsL_law_r34, w ∈ lw_tbl := subAt [999, 1001, 43, 1002, 1003, 1005, 44, 1006, 1007, 1009, 45, 1010, 610, 611, 612, 613, 1011, 1012, 1013, 1014, 614, 615, 616, 617] (by decide +kernel)
set_option maxRecDepth 20000 in
theorem vr_35 : ∀ w ∈ wsL_law_r35, w ∈ lw_tbl := subAt [76, 79, 618, 1015, 1016, 1017, 1018, 1019, 1020, 1021, 1022, 1023, 1024, 1026, 46, 1027] (by decide +kernel)
set_option maxRecDepth 20000 in
theorem vu_X5 : ∀ w ∈ wsX50, w ∈ lw_tbl := subAt [209, 211, 213, 215, 217, 219, 221, 223] (by decide +kernel)
set_option maxRecDepth 20000 in
theorem vu_X6 : ∀ w ∈ wsX60, w ∈ lw_tbl := subAt [657, 659, 661, 663, 665, 667, 669, 671, 673, 675, 677, 679, 681, 683, 685, 687, 689, 691, 693, 695, 697, 699, 701, 703, 705, 707, 709, 711, 713, 715, 717, 719] (by decide +kernel)
set_option maxRecDepth 20000 in
theorem vu_X4 : ∀ w ∈ wsX40, w ∈ lw_tbl := subAt [87, 89, 91, 93, 95, 97, 99, 101, 103] (by decide +kernel)
set_option maxRecDepth 20000 in
theorem vu_X2 : ∀ w ∈ wsX20, w ∈ lw_tbl := subAt [117, 119] (by decide +kernel)
set_option maxRecDepth 20000 in
theorem vu_X1 : ∀ w ∈ wsX10, w ∈ lw_tbl := subAt [144, 146, 148, 150, 152, 154, 156] (by decide +kernel)
set_option maxRecDepth 20000 in
theorem vu_X3 : ∀ w ∈ wsX30, w ∈ lw_tbl := subAt [169, 171, 173, 175] (by decide +kernel)
set_option maxRecDepth 20000 in
theorem vu_X0 : ∀ w ∈ wsX00, w ∈ lw_tbl := subAt [191, 193, 195, 197] (by decide +kernel)
theorem wLaw_in : ∀ w ∈ wsL_law, w ∈ lw_tbl := List.forall_mem_append.mpr ⟨List.forall_mem_append.mpr ⟨List.forall_mem_append.mpr ⟨List.forall_mem_append.mpr ⟨List.forall_mem_append.mpr ⟨List.forall_mem_append.mpr ⟨List.forall_mem_append.mpr ⟨List.forall_mem_append.mpr ⟨List.forall_mem_append.mpr ⟨vr_1, List.forall_mem_append.mpr ⟨vr_2, List.forall_mem_append.mpr ⟨vr_3, List.forall_mem_append.mpr ⟨vr_4, List.forall_mem_append.mpr ⟨vr_5, List.forall_mem_append.mpr ⟨vr_6, List.forall_mem_append.mpr ⟨vr_7, List.forall_mem_append.mpr ⟨vr_8, List.forall_mem_append.mpr ⟨vr_9, List.forall_mem_append.mpr ⟨vr_10, List.forall_mem_append.mpr ⟨vr_11, List.forall_mem_append.mpr ⟨vr_12, List.forall_mem_append.mpr ⟨vr_13, List.forall_mem_append.mpr ⟨vr_14, List.forall_mem_append.mpr ⟨vr_15, List.forall_mem_append.mpr ⟨vr_16, List.forall_mem_append.mpr ⟨vr_17, List.forall_mem_append.mpr ⟨vr_18, List.forall_mem_append.mpr ⟨vr_19, List.forall_mem_append.mpr ⟨vr_20, List.forall_mem_append.mpr ⟨vr_21, List.forall_mem_append.mpr ⟨vr_22, List.forall_mem_append.mpr ⟨vr_23, List.forall_mem_append.mpr ⟨vr_24, List.forall_mem_append.mpr ⟨vr_25, List.forall_mem_append.mpr ⟨vr_26, List.forall_mem_append.mpr ⟨vr_27, List.forall_mem_append.mpr ⟨vr_28, List.forall_mem_append.mpr ⟨vr_29, List.forall_mem_append.mpr ⟨vr_30, List.forall_mem_append.mpr ⟨vr_31, List.forall_mem_append.mpr ⟨vr_32, List.forall_mem_append.mpr ⟨vr_33, List.forall_mem_append.mpr ⟨vr_34, vr_35⟩⟩⟩⟩⟩⟩⟩⟩⟩⟩⟩⟩⟩⟩⟩⟩⟩⟩⟩⟩⟩⟩⟩⟩⟩⟩⟩⟩⟩⟩⟩⟩⟩⟩, vu_X5⟩, vu_X6⟩, vu_X4⟩, vu_X2⟩, vu_X1⟩, vu_X3⟩, vu_X0⟩, fun _ h => absurd h List.not_mem_nil⟩
/-! THE CLAIM OUT OF ONE WALK OF THE LAW'S BODY. Your part is whole_start (and what it stands on); all else here is the same for every law, but numbers. -/
def R_law : String := "LastTrainLaw"
def lw_P (b : Addr) (xs : List Int32) (args : Array Value) (s : State) : Prop := args = #[.ref b] ∧ s.IntsAt b xs ∧ xs.length ≤ 2560 ∧ (Jvm.Cond.and given_1 narrow_1).before args s = true
def lw_Q (_ : Array Value) (s : State) (o : Outcome) (t : State) : Prop := o = .returned (some (.int 1)) ∧ Framed s o t [] 47 3209
def lw_Z (below : List Frame) (a : Array Value) (s : State) : State → Prop := fun t => ∃ o, t.status = .running ∧ Ended t below o ∧ lw_Q a s o t
/-- the law's own end, with 1 on the stack, nothing written that was there before, its room as the claim has it -/
theorem lw_ret {p : Program} {l : Launch} {e : Env} {s : State} {m : MethodId} {below : List Frame} {meth : Method} {c : Code} {b : Nat} (hx : p.tables.exec = Jvm.exec) (hb : c.code = code) (hr : meth.sig.returnType = ret) (hlocks : meth.locks = false) {pc : Nat} {H : Heap} {ls : Array Slot} (hdg : decode code pc = .ok (.ireturn, 1)) : W p l e room_1 s m #[Value.ref b] below meth c H [] 47 3209 (lw_Z below #[Value.ref b] s) (F0 m pc ls [.int 1]) := by
  intro T hT X
  obtain ⟨fs, hret, hrun, hended, hW, hframe⟩ := X.leave (v := some (.int 1)) (hlocks := hlocks) (fun h => by rw [hr] at h; cases h)
  have hmeth' : T.vm.method? m = some meth := X.method'
  refine ⟨T.setFrames fs, ?_, .returned (some (.int 1)), hrun, hended, rfl, ⟨_, rfl⟩, hW, hframe⟩
  jvm_step X.here [X.here.top, hx, hb, hdg, hmeth', hr, ret, narrow_b1]
  (try refine ⟨rfl, ?_⟩); (try refine ⟨rfl, ?_⟩)
  first | (intro acts; rw [hret _ acts rfl rfl rfl]) | rw [hret _ _ rfl rfl rfl]
  exact Steps.refl _
/-- what holds at the law's entry: the machine, the code, the tables' words (any of lw_tbl by 'hts w (by decide +kernel)'), the script of L ints xs at the cell b, what the Statement gives of the start (any of its parts by flat_of_before) -/
def lw_At (p : Program) (s : State) (m : MethodId) (meth : Method) (c : Code) (b L : Nat) (xs : Nat → Int32) : Prop :=
  p.tables.exec = Jvm.exec ∧ c.code = code ∧ meth.sig.returnType = ret ∧ c.maxLocals = 4 ∧ s.vm.findClass R_law = some m.cls ∧ (∀ w ∈ lw_tbl, w.before #[Value.ref b] s = true) ∧ va_X b L xs s s.heap ∧ b < s.heap.size ∧ meth.locks = false ∧ (Jvm.Cond.and given_1 narrow_1).before #[Value.ref b] s = true
