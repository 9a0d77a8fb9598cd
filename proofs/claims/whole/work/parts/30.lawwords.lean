theorem subAt {big ws : List Cond} (ps : List Nat) (h : ps.map (fun i => big[i]?) = ws.map some) : ∀ w ∈ ws, w ∈ big := fun w hw => by
  have h1 : some w ∈ ws.map some := List.mem_map.mpr ⟨w, hw, rfl⟩
  rw [← h] at h1
  obtain ⟨i, -, hi⟩ := List.mem_map.mp h1
  exact List.mem_of_getElem? hi
set_option maxRecDepth 20000 in
theorem vr_1 : ∀ w ∈ wsL_law_r1, w ∈ lw_tbl := subAt [57, 58, 48, 621, 622, 54, 59, 60, 61, 62, 63, 64, 65, 66, 49, 201, 202, 203, 204, 107, 108, 50, 205, 122] (by decide +kernel)
set_option maxRecDepth 20000 in
theorem vr_2 : ∀ w ∈ wsL_law_r2, w ∈ lw_tbl := subAt [123, 51, 206, 159, 160, 52, 207, 178, 179, 53, 208, 67, 68, 69, 70, 71, 75, 77, 80, 82, 106, 83, 84, 85] (by decide +kernel)
set_option maxRecDepth 20000 in
theorem vr_3 : ∀ w ∈ wsL_law_r3, w ∈ lw_tbl := subAt [86, 110, 111, 112, 113, 114, 125, 126, 127, 128, 130, 132, 134, 136, 138, 140, 142, 129, 162, 163, 164, 165, 166, 167] (by decide +kernel)
set_option maxRecDepth 20000 in
theorem vr_4 : ∀ w ∈ wsL_law_r4, w ∈ lw_tbl := subAt [168, 181, 182, 183, 200, 184, 185, 187, 189, 623, 624, 625, 626, 630, 631, 632, 633, 634, 636, 638, 639, 640, 645, 651] (by decide +kernel)
set_option maxRecDepth 20000 in
theorem vr_5 : ∀ w ∈ wsL_law_r5, w ∈ lw_tbl := subAt [652, 653, 654, 655, 724, 656, 627, 226, 227, 228, 229, 230, 231, 232, 233, 234, 235, 236, 237, 238, 239, 240, 241, 242] (by decide +kernel)
set_option maxRecDepth 20000 in
theorem vr_6 : ∀ w ∈ wsL_law_r6, w ∈ lw_tbl := subAt [243, 725, 726, 727, 728, 736, 732, 729, 730, 731, 733, 734, 735, 737, 739, 11, 740, 244, 245, 246, 247, 73, 248, 249] (by decide +kernel)
set_option maxRecDepth 20000 in
theorem vr_7 : ∀ w ∈ wsL_law_r7, w ∈ lw_tbl := subAt [250, 251, 252, 253, 254, 255, 256, 55, 257, 258, 259, 260, 741, 742, 743, 744, 628, 629, 745, 746, 747, 748, 749, 750] (by decide +kernel)
set_option maxRecDepth 20000 in
theorem vr_8 : ∀ w ∈ wsL_law_r8, w ∈ lw_tbl := subAt [261, 262, 263, 264, 265, 266, 267, 268, 269, 270, 271, 272, 273, 274, 275, 751, 752, 753, 754, 276, 277, 278, 279, 116] (by decide +kernel)
set_option maxRecDepth 20000 in
theorem vr_9 : ∀ w ∈ wsL_law_r9, w ∈ lw_tbl := subAt [280, 281, 282, 283, 755, 756, 757, 758, 759, 760, 637, 284, 285, 286, 287, 761, 762, 763, 764, 288, 289, 290, 291, 292] (by decide +kernel)
set_option maxRecDepth 20000 in
theorem vr_10 : ∀ w ∈ wsL_law_r10, w ∈ lw_tbl := subAt [293, 294, 295, 296, 297, 298, 299, 300, 301, 302, 303, 304, 305, 306, 307, 308, 310, 311, 765, 766, 767, 768, 641, 769] (by decide +kernel)
set_option maxRecDepth 20000 in
theorem vr_11 : ∀ w ∈ wsL_law_r11, w ∈ lw_tbl := subAt [771, 12, 772, 773, 775, 13, 776, 777, 778, 779, 780, 781, 782, 784, 14, 785, 786, 788, 15, 789, 312, 313, 314, 315] (by decide +kernel)
set_option maxRecDepth 20000 in
theorem vr_12 : ∀ w ∈ wsL_law_r12, w ∈ lw_tbl := subAt [137, 133, 135, 316, 317, 318, 319, 115, 320, 321, 322, 323, 324, 325, 326, 327, 328, 329, 330, 331, 332, 333, 334, 335] (by decide +kernel)
set_option maxRecDepth 20000 in
theorem vr_13 : ∀ w ∈ wsL_law_r13, w ∈ lw_tbl := subAt [336, 337, 338, 339, 340, 341, 342, 343, 344, 345, 347, 0, 348, 349, 351, 1, 352, 353, 354, 355, 356, 357, 358, 359] (by decide +kernel)
set_option maxRecDepth 20000 in
theorem vr_14 : ∀ w ∈ wsL_law_r14, w ∈ lw_tbl := subAt [360, 361, 362, 364, 2, 365, 366, 368, 3, 369, 78, 74, 370, 371, 372, 373, 374, 375, 376, 377, 378, 379, 380, 381] (by decide +kernel)
set_option maxRecDepth 20000 in
theorem vr_15 : ∀ w ∈ wsL_law_r15, w ∈ lw_tbl := subAt [382, 383, 385, 386, 387, 388, 389, 390, 391, 392, 393, 394, 395, 397, 398, 399, 400, 401, 402, 403, 404, 405, 56, 406] (by decide +kernel)
set_option maxRecDepth 20000 in
theorem vr_16 : ∀ w ∈ wsL_law_r16, w ∈ lw_tbl := subAt [408, 409, 410, 407, 411, 413, 4, 414, 415, 416, 417, 790, 791, 792, 793, 794, 646, 647, 642, 795, 797, 16, 798, 799] (by decide +kernel)
set_option maxRecDepth 20000 in
theorem vr_17 : ∀ w ∈ wsL_law_r17, w ∈ lw_tbl := subAt [801, 17, 802, 803, 804, 806, 18, 807, 643, 648, 649, 808, 810, 19, 811, 812, 814, 20, 815, 816, 818, 21, 819, 820] (by decide +kernel)
set_option maxRecDepth 20000 in
theorem vr_18 : ∀ w ∈ wsL_law_r18, w ∈ lw_tbl := subAt [821, 822, 823, 825, 22, 826, 827, 829, 23, 830, 644, 831, 833, 24, 834, 835, 837, 25, 838, 839, 841, 26, 842, 843] (by decide +kernel)
set_option maxRecDepth 20000 in
theorem vr_19 : ∀ w ∈ wsL_law_r19, w ∈ lw_tbl := subAt [845, 27, 846, 847, 849, 28, 850, 851, 853, 29, 854, 855, 857, 30, 858, 859, 861, 31, 862, 863, 865, 32, 866, 867] (by decide +kernel)
set_option maxRecDepth 20000 in
theorem vr_20 : ∀ w ∈ wsL_law_r20, w ∈ lw_tbl := subAt [869, 33, 870, 871, 873, 34, 874, 875, 876, 877, 878, 880, 35, 881, 418, 419, 420, 421, 131, 422, 423, 424, 425, 426] (by decide +kernel)
set_option maxRecDepth 20000 in
theorem vr_21 : ∀ w ∈ wsL_law_r21, w ∈ lw_tbl := subAt [427, 882, 883, 884, 885, 886, 887, 889, 36, 890, 428, 429, 430, 431, 139, 432, 891, 892, 893, 894, 433, 434, 435, 436] (by decide +kernel)
set_option maxRecDepth 20000 in
theorem vr_22 : ∀ w ∈ wsL_law_r22, w ∈ lw_tbl := subAt [141, 143, 895, 896, 897, 898, 437, 438, 439, 440, 441, 899, 900, 901, 902, 442, 443, 444, 445, 446, 447, 448, 449, 72] (by decide +kernel)
set_option maxRecDepth 20000 in
theorem vr_23 : ∀ w ∈ wsL_law_r23, w ∈ lw_tbl := subAt [450, 451, 452, 453, 454, 455, 456, 457, 458, 459, 460, 462, 5, 463, 465, 466, 467, 468, 469, 903, 904, 905, 906, 650] (by decide +kernel)
set_option maxRecDepth 20000 in
theorem vr_24 : ∀ w ∈ wsL_law_r24, w ∈ lw_tbl := subAt [907, 909, 37, 910, 470, 471, 472, 473, 474, 475, 476, 477, 478, 479, 911, 912, 913, 914, 915, 917, 38, 918, 480, 481] (by decide +kernel)
set_option maxRecDepth 20000 in
theorem vr_25 : ∀ w ∈ wsL_law_r25, w ∈ lw_tbl := subAt [482, 483, 486, 484, 485, 487, 488, 489, 919, 920, 921, 922, 490, 491, 492, 493, 494, 495, 496, 497, 498, 499, 500, 502] (by decide +kernel)
set_option maxRecDepth 20000 in
theorem vr_26 : ∀ w ∈ wsL_law_r26, w ∈ lw_tbl := subAt [6, 503, 923, 924, 925, 926, 927, 929, 39, 930, 504, 505, 506, 507, 508, 509, 510, 519, 511, 512, 513, 514, 515, 516] (by decide +kernel)
set_option maxRecDepth 20000 in
theorem vr_27 : ∀ w ∈ wsL_law_r27, w ∈ lw_tbl := subAt [517, 520, 521, 522, 523, 524, 525, 931, 932, 933, 934, 935, 936, 941, 937, 939, 40, 940, 942, 943, 944, 526, 527, 528] (by decide +kernel)
set_option maxRecDepth 20000 in
theorem vr_28 : ∀ w ∈ wsL_law_r28, w ∈ lw_tbl := subAt [529, 945, 946, 947, 948, 530, 531, 532, 533, 81, 534, 535, 536, 537, 949, 950, 951, 952, 635, 538, 539, 540, 541, 542] (by decide +kernel)
set_option maxRecDepth 20000 in
theorem vr_29 : ∀ w ∈ wsL_law_r29, w ∈ lw_tbl := subAt [543, 544, 545, 953, 954, 955, 956, 546, 547, 548, 549, 550, 551, 552, 553, 554, 957, 958, 959, 960, 961, 963, 41, 964] (by decide +kernel)
set_option maxRecDepth 20000 in
theorem vr_30 : ∀ w ∈ wsL_law_r30, w ∈ lw_tbl := subAt [555, 556, 557, 558, 559, 560, 561, 562, 965, 966, 967, 968, 969, 970, 971, 972, 563, 564, 565, 566, 186, 188, 190, 567] (by decide +kernel)
set_option maxRecDepth 20000 in
theorem vr_31 : ∀ w ∈ wsL_law_r31, w ∈ lw_tbl := subAt [568, 569, 570, 579, 571, 573, 7, 574, 575, 577, 8, 578, 580, 582, 9, 583, 973, 974, 975, 976, 584, 585, 586, 587] (by decide +kernel)
set_option maxRecDepth 20000 in
theorem vr_32 : ∀ w ∈ wsL_law_r32, w ∈ lw_tbl := subAt [977, 978, 979, 980, 981, 982, 984, 42, 985, 588, 589, 590, 591, 593, 592, 594, 595, 596, 597, 599, 600, 601, 602, 603] (by decide +kernel)
set_option maxRecDepth 20000 in
theorem vr_33 : ∀ w ∈ wsL_law_r33, w ∈ lw_tbl := subAt [986, 987, 988, 989, 990, 991, 992, 993, 994, 995, 996, 604, 605, 606, 607, 608, 610, 10, 611, 997, 998, 999, 1000, 657] (by decide +kernel)
set_option maxRecDepth 20000 in
theorem vr_34 : ∀ w ∈ wsL_law_r34, w ∈ lw_tbl := subAt [658, 1001, 1003, 43, 1004, 1005, 1007, 44, 1008, 1009, 1011, 45, 1012, 612, 613, 614, 615, 1013, 1014, 1015, 1016, 616, 617, 618] (by decide +kernel)
set_option maxRecDepth 20000 in
theorem vr_35 : ∀ w ∈ wsL_law_r35, w ∈ lw_tbl := subAt [619, 76, 79, 620, 1017, 1018, 1019, 1020, 1021, 1022, 1023, 1024, 1025, 1026, 1028, 46, 1029] (by decide +kernel)
set_option maxRecDepth 20000 in
theorem vu_X5 : ∀ w ∈ wsX50, w ∈ lw_tbl := subAt [209, 211, 213, 215, 217, 219, 221, 223] (by decide +kernel)
set_option maxRecDepth 20000 in
theorem vu_X6 : ∀ w ∈ wsX60, w ∈ lw_tbl := subAt [659, 661, 663, 665, 667, 669, 671, 673, 675, 677, 679, 681, 683, 685, 687, 689, 691, 693, 695, 697, 699, 701, 703, 705, 707, 709, 711, 713, 715, 717, 719, 721] (by decide +kernel)
set_option maxRecDepth 20000 in
theorem vu_X4 : ∀ w ∈ wsX40, w ∈ lw_tbl := subAt [87, 89, 91, 93, 95, 97, 99, 101, 103] (by decide +kernel)
set_option maxRecDepth 20000 in
theorem vu_X2 : ∀ w ∈ wsX20, w ∈ lw_tbl := subAt [117, 119] (by decide +kernel)
set_option maxRecDepth 20000 in
theorem vu_X1 : ∀ w ∈ wsX10, w ∈ lw_tbl := subAt [144, 146, 148, 150, 152, 154, 156] (by decide +kernel)
set_option maxRecDepth 20000 in
theorem vu_X3 : ∀ w ∈ wsX30, w ∈ lw_tbl := subAt [169, 171, 173, 175] (by decide +kernel)
set_option maxRecDepth 20000 in
theorem vu_X0 : ∀ w ∈ wsX00, w ∈ lw_tbl := subAt [191, 193, 195, 197] (by decide +kernel)
theorem wLaw_in : ∀ w ∈ wsL_law, w ∈ lw_tbl := List.forall_mem_append.mpr ⟨List.forall_mem_append.mpr ⟨List.forall_mem_append.mpr ⟨List.forall_mem_append.mpr ⟨List.forall_mem_append.mpr ⟨List.forall_mem_append.mpr ⟨List.forall_mem_append.mpr ⟨List.forall_mem_append.mpr ⟨List.forall_mem_append.mpr ⟨vr_1, List.forall_mem_append.mpr ⟨vr_2, List.forall_mem_append.mpr ⟨vr_3, List.forall_mem_append.mpr ⟨vr_4, List.forall_mem_append.mpr ⟨vr_5, List.forall_mem_append.mpr ⟨vr_6, List.forall_mem_append.mpr ⟨vr_7, List.forall_mem_append.mpr ⟨vr_8, List.forall_mem_append.mpr ⟨vr_9, List.forall_mem_append.mpr ⟨vr_10, List.forall_mem_append.mpr ⟨vr_11, List.forall_mem_append.mpr ⟨vr_12, List.forall_mem_append.mpr ⟨vr_13, List.forall_mem_append.mpr ⟨vr_14, List.forall_mem_append.mpr ⟨vr_15, List.forall_mem_append.mpr ⟨vr_16, List.forall_mem_append.mpr ⟨vr_17, List.forall_mem_append.mpr ⟨vr_18, List.forall_mem_append.mpr ⟨vr_19, List.forall_mem_append.mpr ⟨vr_20, List.forall_mem_append.mpr ⟨vr_21, List.forall_mem_append.mpr ⟨vr_22, List.forall_mem_append.mpr ⟨vr_23, List.forall_mem_append.mpr ⟨vr_24, List.forall_mem_append.mpr ⟨vr_25, List.forall_mem_append.mpr ⟨vr_26, List.forall_mem_append.mpr ⟨vr_27, List.forall_mem_append.mpr ⟨vr_28, List.forall_mem_append.mpr ⟨vr_29, List.forall_mem_append.mpr ⟨vr_30, List.forall_mem_append.mpr ⟨vr_31, List.forall_mem_append.mpr ⟨vr_32, List.forall_mem_append.mpr ⟨vr_33, List.forall_mem_append.mpr ⟨vr_34, vr_35⟩⟩⟩⟩⟩⟩⟩⟩⟩⟩⟩⟩⟩⟩⟩⟩⟩⟩⟩⟩⟩⟩⟩⟩⟩⟩⟩⟩⟩⟩⟩⟩⟩⟩, vu_X5⟩, vu_X6⟩, vu_X4⟩, vu_X2⟩, vu_X1⟩, vu_X3⟩, vu_X0⟩, fun _ h => absurd h List.not_mem_nil⟩
/-! THE CLAIM OUT OF ONE WALK OF THE LAW'S BODY. Your part is whole_start (and what it stands on); all else here is the same for every law, but numbers. -/
def R_law : String := "LastTrainLaw"
def lw_P (b : Addr) (xs : List Int32) (args : Array Value) (s : State) : Prop := args = #[.ref b] ∧ s.IntsAt b xs ∧ xs.length ≤ 2560 ∧ (Jvm.Cond.and given_1 narrow_1).before args s = true
def lw_Q (_ : Array Value) (s : State) (o : Outcome) (t : State) : Prop := o = .returned (some (.int 1)) ∧ Framed s o t [] 47 3209
def lw_Z (below : List Frame) (a : Array Value) (s : State) : State → Prop := fun t => ∃ o, t.status = .running ∧ Ended t below o ∧ lw_Q a s o t
/-- the law's own end, with 1 on the stack, nothing written that was there before, its room as the claim has it -/
theorem lw_ret {p : Program} {l : Launch} {e : Env} {s : State} {m : MethodId} {below : List Frame} {meth : Method} {c : Code} {b : Nat} (hx : p.tables.exec = Jvm.exec) (hb : c.code = code) (hr : meth.sig.returnType = ret) (hlocks : meth.locks = false) {pc : Nat} {H : Heap} {ls : Array Slot} (hdg : decode code pc = .ok (.ireturn, 1)) : W p l e room_1 s m #[Value.ref b] below meth c H [] 47 3209 (lw_Z below #[Value.ref b] s) (F0 m pc ls [.int 1]) := by
  intro T hT X
  obtain ⟨fs, hret, hrun, hended, hW, hframe⟩ := X.leave (v := some (.int 1)) (hlocks := hlocks) (fun h => by rw [hr] at h; cases h)
  have hmeth' : T.vm.method? m = some meth := X.method'
  refine ⟨T.setFrames fs, ?_, .returned (some (.int 1)), hrun, hended, rfl, ⟨_, rfl⟩, hW, hframe⟩
  jvm_step X.here [X.here.top, hx, hb, hdg, hmeth', hr, ret, narrow_b1]
  (try refine ⟨rfl, ?_⟩); (try refine ⟨rfl, ?_⟩)
  first | (intro acts; rw [hret _ acts rfl rfl rfl]) | rw [hret _ _ rfl rfl rfl]
  exact Steps.refl _
/-- what holds at the law's entry: the machine, the code, the tables' words (any of lw_tbl by 'hts w (by decide +kernel)'), the script of L ints xs at the cell b, what the Statement gives of the start (any of its parts by flat_of_before) -/
def lw_At (p : Program) (s : State) (m : MethodId) (meth : Method) (c : Code) (b L : Nat) (xs : Nat → Int32) : Prop :=
  p.tables.exec = Jvm.exec ∧ c.code = code ∧ meth.sig.returnType = ret ∧ c.maxLocals = 4 ∧ s.vm.findClass R_law = some m.cls ∧ (∀ w ∈ lw_tbl, w.before #[Value.ref b] s = true) ∧ va_X b L xs s s.heap ∧ b < s.heap.size ∧ meth.locks = false ∧ (Jvm.Cond.and given_1 narrow_1).before #[Value.ref b] s = true
