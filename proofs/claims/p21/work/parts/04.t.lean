/-! TABLES: what the constant pools' entries are, by the number of the class they stand in -/
def am_cn (o : Nat) : String := match o with
  | 0 => RX0
  | 1 => RX1
  | 2 => RX2
  | 3 => RX3
  | 4 => RX4
  | 5 => RX5
  | 6 => RX6
  | 7 => RX7
  | 8 => RX8
  | 9 => RX9
  | 10 => RX10
  | 11 => RX11
  | 12 => RX12
  | 13 => RL
  | 14 => RJ9
  | 15 => RJ0
  | 16 => RJ1
  | _ => ""
def am_ft (o : Nat) : List (Nat × Nat × Nat × Nat × Nat) := match o with
  | 0 => [(9, 0, 0, 0, 1), (9, 3, 0, 0, 1), (9, 4, 0, 0, 1), (15, 0, 1, 0, 1), (15, 3, 1, 0, 1), (15, 4, 1, 0, 1), (18, 0, 2, 0, 1), (18, 3, 2, 0, 1), (18, 4, 2, 0, 1), (55, 6, 0, 2, 2), (64, 6, 2, 2, 0)]
  | 1 => [(11, 0, 0, 1, 2), (91, 0, 1, 1, 2), (57, 0, 2, 1, 2), (116, 6, 1, 2, 2), (132, 6, 2, 2, 0)]
  | 2 => [(9, 1, 0, 0, 1), (15, 1, 1, 0, 0)]
  | 3 => [(11, 2, 0, 0, 1), (15, 2, 1, 0, 1), (18, 2, 2, 0, 1), (21, 2, 3, 0, 0), (25, 2, 4, 0, 0)]
  | 4 => [(11, 3, 0, 1, 2), (28, 3, 1, 1, 2), (65, 3, 2, 1, 2), (132, 6, 0, 2, 2), (122, 6, 1, 2, 2), (127, 6, 2, 2, 0)]
  | 5 => [(27, 4, 0, 1, 2), (135, 4, 1, 1, 2), (100, 4, 2, 1, 2), (9, 4, 3, 0, 1), (15, 4, 4, 0, 1), (19, 4, 5, 0, 1), (30, 4, 6, 0, 0), (40, 4, 7, 0, 0), (56, 4, 8, 0, 0), (128, 4, 9, 0, 0), (97, 4, 10, 0, 0), (85, 4, 11, 0, 0), (73, 4, 12, 0, 0), (142, 4, 13, 0, 0), (63, 4, 14, 0, 0), (66, 4, 15, 0, 0), (207, 6, 0, 2, 2), (168, 6, 1, 2, 2), (210, 6, 2, 2, 0)]
  | 6 => [(9, 5, 0, 0, 0), (15, 5, 1, 0, 0)]
  | 7 => [(14, 6, 0, 0, 1), (20, 6, 1, 0, 1)]
  | 8 => [(7, 7, 0, 0, 1), (13, 7, 1, 0, 0), (17, 7, 2, 0, 0), (56, 7, 3, 0, 0)]
  | 9 => [(11, 8, 0, 0, 1), (18, 8, 1, 0, 0), (26, 6, 0, 2, 2), (61, 6, 1, 2, 2), (42, 6, 2, 2, 0)]
  | 10 => [(9, 9, 0, 0, 1), (15, 9, 1, 0, 1), (18, 9, 2, 0, 1), (27, 9, 3, 0, 1), (31, 9, 4, 0, 1), (34, 9, 5, 0, 1), (37, 9, 6, 0, 1), (44, 9, 7, 0, 1), (47, 9, 8, 0, 1), (53, 9, 9, 0, 0), (57, 9, 10, 0, 0), (60, 9, 11, 0, 0), (69, 9, 12, 0, 0), (124, 9, 13, 0, 0), (127, 9, 14, 0, 0), (133, 9, 15, 0, 0)]
  | 11 => [(14, 10, 0, 0, 1), (18, 10, 1, 0, 1), (21, 10, 2, 0, 1), (24, 10, 3, 0, 1), (30, 10, 4, 0, 1), (39, 10, 5, 0, 1), (48, 10, 6, 0, 1), (65, 10, 7, 0, 1), (72, 10, 8, 0, 0), (76, 10, 9, 0, 0), (157, 6, 0, 2, 2), (162, 6, 1, 2, 2), (163, 6, 2, 2, 0)]
  | 12 => [(66, 11, 0, 0, 0), (7, 11, 1, 0, 0), (82, 11, 2, 0, 0), (13, 11, 3, 0, 0), (87, 11, 4, 0, 0), (69, 11, 5, 0, 0), (16, 11, 6, 0, 0), (96, 11, 7, 0, 0), (173, 11, 8, 0, 0), (20, 11, 9, 0, 0), (23, 11, 10, 0, 0), (26, 11, 11, 0, 0), (29, 11, 12, 0, 0), (32, 11, 13, 0, 0), (99, 11, 14, 0, 0), (36, 11, 15, 0, 0), (133, 11, 16, 0, 0), (39, 11, 17, 0, 0), (116, 11, 18, 0, 0), (155, 11, 19, 0, 0), (152, 11, 20, 0, 0), (176, 11, 21, 0, 0), (42, 11, 22, 0, 0), (282, 11, 23, 0, 0), (317, 11, 24, 0, 0), (306, 11, 25, 0, 0), (309, 11, 26, 0, 0), (45, 11, 27, 0, 0), (48, 11, 28, 0, 0), (51, 11, 29, 0, 0), (342, 11, 30, 0, 0), (54, 11, 31, 0, 0), (373, 11, 32, 0, 0), (364, 11, 33, 0, 0), (367, 11, 34, 0, 0), (376, 11, 35, 0, 0), (57, 11, 36, 0, 0), (60, 11, 37, 0, 0), (63, 11, 38, 0, 0)]
  | _ => []
def am_nt (o : Nat) : List (Nat × Nat) := match o with
  | 7 => [(9, 1)]
  | 9 => [(9, 6)]
  | 10 => [(22, 2)]
  | 11 => [(7, 1), (27, 5), (34, 7), (43, 9), (54, 0), (57, 3), (60, 4), (69, 8)]
  | 13 => [(8, 10), (73, 11)]
  | _ => []
def am_qt (o : Nat) : List (Nat × Nat) := match o with
  | 9 => [(9, 24)]
  | 11 => [(52, 23)]
  | _ => []
def am_gt (o : Nat) : List (Nat × Nat) := match o with
  | 1 => [(70, 1)]
  | 4 => [(74, 2)]
  | 5 => [(145, 3), (123, 4), (110, 5), (151, 6), (154, 7)]
  | 10 => [(40, 0)]
  | _ => []
def am_ct (o : Nat) : List (Nat × Int32) := match o with
  | 3 => [(44, 32768)]
  | 4 => [(131, 33188)]
  | 10 => [(68, 160000), (109, 65535)]
  | 11 => [(251, (-306674912))]
  | 12 => [(323, 65535), (316, 32768), (363, (-306674912)), (411, 33188)]
  | _ => []
def am_lt0 (o : Nat) : List (Nat × Int64) := match o with
  | 4 => [(89, 100), (113, 15), (102, 33188), (108, 16877)]
  | 5 => [(126, 20), (197, 33), (121, 16), (138, 400), (140, 30)]
  | 12 => [(72, 8), (85, 255), (94, 2), (102, 90), (104, 33), (106, 126), (147, (-3)), (168, (-1)), (180, 48), (182, 55), (184, 148), (186, 155), (219, 57), (221, 97), (223, 102), (225, 65), (227, 70), (229, 16), (239, 100), (250, 15), (252, 400), (271, 30)]
  | 13 => [(76, 4294967295)]
  | _ => []
def am_stt (o : Nat) : List (Nat × Nat) := match o with
  | 1 => [(136, 15), (138, 16), (144, 17), (149, 18)]
  | 4 => [(31, 19)]
  | 11 => [(81, 0), (92, 1), (99, 2), (110, 3), (125, 4), (127, 5), (135, 6), (141, 7), (152, 8), (167, 9), (169, 10), (178, 11), (187, 12), (195, 13), (201, 14), (221, 20), (233, 21), (235, 22), (237, 23), (239, 24), (245, 25)]
  | _ => []
def am_sa : List (String × String × List Int32) := [("ArchiveShelf$Unpacker", "LENGTHS_ORDER", [16, 17, 18, 0, 8, 7, 9, 6, 10, 5, 11, 4, 12, 3, 13, 2, 14, 1, 15]), ("ArchiveShelf$BlockArchive", "MARK_BYTES", [117, 115, 116, 97, 114, 0, 48, 48]), ("ArchiveShelf$DigitArchive", "MARK_BYTES", [48, 55, 48, 55, 48, 49]), ("ArchiveShelf$EndArchive", "LOCAL_MARK", [80, 75, 3, 4]), ("ArchiveShelf$EndArchive", "ENTRY_MARK", [80, 75, 1, 2]), ("ArchiveShelf$EndArchive", "CLOSING_MARK", [80, 75, 5, 6]), ("ArchiveShelf$EndArchive", "SAME_FIELDS", [6, 8, 14, 18, 22, 26]), ("ArchiveShelf$EndArchive", "SAME_WIDTHS", [2, 2, 4, 4, 4, 2])]
def am_st : List (String × Nat × String × List Int32) := [("ArchiveShelf", 81, "n is not 1 .. 8", [110, 32, 105, 115, 32, 110, 111, 116, 32, 49, 32, 46, 46, 32, 56]), ("ArchiveShelf", 92, "more than 512 bytes", [109, 111, 114, 101, 32, 116, 104, 97, 110, 32, 53, 49, 50, 32, 98, 121, 116, 101, 115]), ("ArchiveShelf", 99, "the buffer has not so many bytes", [116, 104, 101, 32, 98, 117, 102, 102, 101, 114, 32, 104, 97, 115, 32, 110, 111, 116, 32, 115, 111, 32, 109, 97, 110, 121, 32, 98, 121, 116, 101, 115]), ("ArchiveShelf", 110, "no such byte of the buffer", [110, 111, 32, 115, 117, 99, 104, 32, 98, 121, 116, 101, 32, 111, 102, 32, 116, 104, 101, 32, 98, 117, 102, 102, 101, 114]), ("ArchiveShelf", 125, "no name", [110, 111, 32, 110, 97, 109, 101]), ("ArchiveShelf", 127, "too many bytes", [116, 111, 111, 32, 109, 97, 110, 121, 32, 98, 121, 116, 101, 115]), ("ArchiveShelf", 135, "in the way", [105, 110, 32, 116, 104, 101, 32, 119, 97, 121]), ("ArchiveShelf", 141, "more than 16 members", [109, 111, 114, 101, 32, 116, 104, 97, 110, 32, 49, 54, 32, 109, 101, 109, 98, 101, 114, 115]), ("ArchiveShelf", 152, "no such member", [110, 111, 32, 115, 117, 99, 104, 32, 109, 101, 109, 98, 101, 114]), ("ArchiveShelf", 167, "no such byte of the name", [110, 111, 32, 115, 117, 99, 104, 32, 98, 121, 116, 101, 32, 111, 102, 32, 116, 104, 101, 32, 110, 97, 109, 101]), ("ArchiveShelf", 169, "no such member or byte", [110, 111, 32, 115, 117, 99, 104, 32, 109, 101, 109, 98, 101, 114, 32, 111, 114, 32, 98, 121, 116, 101]), ("ArchiveShelf", 178, "all children have no byte", [97, 108, 108, 32, 99, 104, 105, 108, 100, 114, 101, 110, 32, 104, 97, 118, 101, 32, 110, 111, 32, 98, 121, 116, 101]), ("ArchiveShelf", 187, "no such child", [110, 111, 32, 115, 117, 99, 104, 32, 99, 104, 105, 108, 100]), ("ArchiveShelf", 195, "no such byte of the child", [110, 111, 32, 115, 117, 99, 104, 32, 98, 121, 116, 101, 32, 111, 102, 32, 116, 104, 101, 32, 99, 104, 105, 108, 100]), ("ArchiveShelf", 201, "no such kind", [110, 111, 32, 115, 117, 99, 104, 32, 107, 105, 110, 100]), ("ArchiveShelf$BlockArchive", 136, "0000755", [48, 48, 48, 48, 55, 53, 53]), ("ArchiveShelf$BlockArchive", 138, "0000644", [48, 48, 48, 48, 54, 52, 52]), ("ArchiveShelf$BlockArchive", 144, "0000000", [48, 48, 48, 48, 48, 48, 48]), ("ArchiveShelf$BlockArchive", 149, "000000", [48, 48, 48, 48, 48, 48]), ("ArchiveShelf$DigitArchive", 31, "TRAILER!!!", [84, 82, 65, 73, 76, 69, 82, 33, 33, 33]), ("ArchiveShelf", 221, "no such what", [110, 111, 32, 115, 117, 99, 104, 32, 119, 104, 97, 116]), ("ArchiveShelf", 233, "more than 20000 bytes", [109, 111, 114, 101, 32, 116, 104, 97, 110, 32, 50, 48, 48, 48, 48, 32, 98, 121, 116, 101, 115]), ("ArchiveShelf", 235, "the tape has not so many bytes", [116, 104, 101, 32, 116, 97, 112, 101, 32, 104, 97, 115, 32, 110, 111, 116, 32, 115, 111, 32, 109, 97, 110, 121, 32, 98, 121, 116, 101, 115]), ("ArchiveShelf", 237, "no such byte of the tape", [110, 111, 32, 115, 117, 99, 104, 32, 98, 121, 116, 101, 32, 111, 102, 32, 116, 104, 101, 32, 116, 97, 112, 101]), ("ArchiveShelf", 239, "no byte", [110, 111, 32, 98, 121, 116, 101]), ("ArchiveShelf", 245, "no such bytes of the tape", [110, 111, 32, 115, 117, 99, 104, 32, 98, 121, 116, 101, 115, 32, 111, 102, 32, 116, 104, 101, 32, 116, 97, 112, 101])]
def am_ftok (own : String) (e : Nat × Nat × Nat × Nat × Nat) : Bool := match am_cl[e.2.1]? with
  | some (C, T, N) => Nat.blt e.2.2.1 N && (match e.2.2.2.1 with
    | 0 => decide (Cond.fieldLink own e.1 (T e.2.2.1).1 (T e.2.2.1).2.1 (T e.2.2.1).2.2.1 ∈ lw_tbl)
    | 1 => decide (Cond.fieldLink own e.1 C (T e.2.2.1).2.1 (T e.2.2.1).2.2.1 ∈ lw_tbl) && decide (Cond.sameField C (T e.2.2.1).1 (T e.2.2.1).2.1 (T e.2.2.1).2.2.1 ∈ lw_tbl)
    | _ => decide (Cond.fieldLinkNest own e.1 (T e.2.2.1).1 (T e.2.2.1).2.1 (T e.2.2.1).2.2.1 "ArchiveShelf" ∈ lw_tbl)) && (match e.2.2.2.2 with
    | 0 => !(T e.2.2.1).2.2.2
    | 1 => decide ((T e.2.2.1).1 = own) && Nat.blt e.2.2.2.1 2
    | _ => true)
  | none => false
def am_ntok (own : String) (e : Nat × Nat) : Bool := match am_cl[e.2]? with
  | some (C, T, N) => decide (Cond.classLink own e.1 C ∈ lw_tbl) && decide (Cond.instantiable C N ∈ lw_tbl) && decide (Cond.initialized C ∈ lw_tbl)
  | none => false
def am_qn (kd : Nat) : String := if kd = 23 then "ArchiveShelf$Archive" else "ArchiveShelf$Member"
def am_qtok (own : String) (e : Nat × Nat) : Bool := (Nat.beq e.2 23 || Nat.beq e.2 24) && decide (Cond.classLink own e.1 (am_qn e.2) ∈ lw_tbl)
def am_gtok (own : String) (e : Nat × Nat) : Bool := match am_sa[e.2]? with
  | some q => decide (Cond.fieldLink own e.1 q.1 q.2.1 "[I" ∈ lw_tbl)
  | none => false
def am_ctok (own : String) (e : Nat × Int32) : Bool := decide (Cond.constant own e.1 e.2 ∈ lw_tbl)
def am_ltok (own : String) (e : Nat × Int64) : Bool := decide (Cond.constantLong own e.1 e.2 ∈ lw_tbl)
def am_sttok (own : String) (e : Nat × Nat) : Bool := match am_st[e.2]? with
  | some q => decide (q.1 = own) && Nat.beq q.2.1 e.1
  | none => false
def ctb_ftok (own : String) (e : Nat × Nat × Nat × Nat × Nat) : Bool := match am_cl[e.2.1]? with
  | some (C, T, N) => Nat.blt e.2.2.1 N && (match e.2.2.2.1 with
    | 0 => ctb_mem (Cond.fieldLink own e.1 (T e.2.2.1).1 (T e.2.2.1).2.1 (T e.2.2.1).2.2.1)
    | 1 => ctb_mem (Cond.fieldLink own e.1 C (T e.2.2.1).2.1 (T e.2.2.1).2.2.1) && ctb_mem (Cond.sameField C (T e.2.2.1).1 (T e.2.2.1).2.1 (T e.2.2.1).2.2.1)
    | _ => ctb_mem (Cond.fieldLinkNest own e.1 (T e.2.2.1).1 (T e.2.2.1).2.1 (T e.2.2.1).2.2.1 "ArchiveShelf")) && (match e.2.2.2.2 with
    | 0 => !(T e.2.2.1).2.2.2
    | 1 => decide ((T e.2.2.1).1 = own) && Nat.blt e.2.2.2.1 2
    | _ => true)
  | none => false
def ctb_ntok (own : String) (e : Nat × Nat) : Bool := match am_cl[e.2]? with
  | some (C, T, N) => ctb_mem (Cond.classLink own e.1 C) && ctb_mem (Cond.instantiable C N) && ctb_mem (Cond.initialized C)
  | none => false
def ctb_qtok (own : String) (e : Nat × Nat) : Bool := (Nat.beq e.2 23 || Nat.beq e.2 24) && ctb_mem (Cond.classLink own e.1 (am_qn e.2))
def ctb_gtok (own : String) (e : Nat × Nat) : Bool := match am_sa[e.2]? with
  | some q => ctb_mem (Cond.fieldLink own e.1 q.1 q.2.1 "[I")
  | none => false
def ctb_ctok (own : String) (e : Nat × Int32) : Bool := ctb_mem (Cond.constant own e.1 e.2)
def ctb_ltok (own : String) (e : Nat × Int64) : Bool := ctb_mem (Cond.constantLong own e.1 e.2)
theorem ctb_ftok_e : am_ftok = ctb_ftok := funext fun own => funext fun e => by
  unfold am_ftok ctb_ftok
  simp only [ctb_mem_eq]
theorem ctb_ntok_e : am_ntok = ctb_ntok := funext fun own => funext fun e => by
  unfold am_ntok ctb_ntok
  simp only [ctb_mem_eq]
theorem ctb_qtok_e : am_qtok = ctb_qtok := funext fun own => funext fun e => by
  unfold am_qtok ctb_qtok
  simp only [ctb_mem_eq]
theorem ctb_gtok_e : am_gtok = ctb_gtok := funext fun own => funext fun e => by
  unfold am_gtok ctb_gtok
  simp only [ctb_mem_eq]
theorem ctb_ctok_e : am_ctok = ctb_ctok := funext fun own => funext fun e => by
  unfold am_ctok ctb_ctok
  simp only [ctb_mem_eq]
theorem ctb_ltok_e : am_ltok = ctb_ltok := funext fun own => funext fun e => by
  unfold am_ltok ctb_ltok
  simp only [ctb_mem_eq]
theorem am_ft_all : (List.range 17).all (fun o => (am_ft o).all (am_ftok (am_cn o))) = true := by
  rw [ctb_ftok_e]
  decide +kernel
theorem am_nt_all : (List.range 17).all (fun o => (am_nt o).all (am_ntok (am_cn o))) = true := by
  rw [ctb_ntok_e]
  decide +kernel
theorem am_qt_all : (List.range 17).all (fun o => (am_qt o).all (am_qtok (am_cn o))) = true := by
  rw [ctb_qtok_e]
  decide +kernel
theorem am_gt_all : (List.range 17).all (fun o => (am_gt o).all (am_gtok (am_cn o))) = true := by
  rw [ctb_gtok_e]
  decide +kernel
theorem am_ct_all : (List.range 17).all (fun o => (am_ct o).all (am_ctok (am_cn o))) = true := by
  rw [ctb_ctok_e]
  decide +kernel
theorem am_lt_all : (List.range 17).all (fun o => (am_lt0 o).all (am_ltok (am_cn o))) = true := by
  rw [ctb_ltok_e]
  decide +kernel
theorem am_stt_all : (List.range 17).all (fun o => (am_stt o).all (am_sttok (am_cn o))) = true := by decide +kernel
theorem am_ac_i : Cond.arrayClass .int ∈ lw_tbl := by decide +kernel
theorem am_ac_l : Cond.arrayClass .long ∈ lw_tbl := by decide +kernel
theorem am_ac_z : Cond.arrayClass .boolean ∈ lw_tbl := by decide +kernel
theorem am_ca0 : Cond.castable RX1 "ArchiveShelf$Archive" ∈ lw_tbl ∧ Cond.castable RX4 "ArchiveShelf$Archive" ∈ lw_tbl ∧ Cond.castable RX5 "ArchiveShelf$Archive" ∈ lw_tbl := by decide +kernel
