/-! THE LAW'S OWN TREES; its instructions in slices, for they are many -/
def stNo (cP : Nat → List Vl_ → Wd_ → Mm_ → Qp_ → Prop) (Q : Qp_) (off : Nat) (cd : List In_) (k : Nat → Lc_ → List Vl_ → Wd_ → Mm_ → Cn_ → Prop) : Nat → Nat → Lc_ → List Vl_ → Wd_ → Mm_ → Cn_ → Prop
  | 0 => k
  | n + 1 => fun pc ls st w M cn => match Nat.ble off pc with
    | true => match cd[pc - off]? with
      | some e => st1 cP (stNo cP Q off cd k n) Q e pc ls st w M cn
      | none => False
    | false => False
theorem Clo.stepsO {P : Jg_} (hP : Clo P) (id off : Nat) (cd : List In_) (hcd : ((codeOf id).drop off).take cd.length = cd) (Q : Qp_) : ∀ (n pc : Nat) (ls : Lc_) (st : List Vl_) (w : Wd_) (M : Mm_) (cn : Cn_), stNo (cPof P) Q off cd (fun pc ls st w M cn => P id pc ls st w M cn Q) n pc ls st w M cn → P id pc ls st w M cn Q
  | 0, _, _, _, _, _, _ => fun h => h
  | n + 1, pc, ls, st, w, M, cn => fun h => by
    unfold stNo at h
    split at h
    · rename_i hle
      have hle := Nat.le_of_ble_eq_true hle
      split at h
      · rename_i e he
        have he2 : (codeOf id)[pc]? = some e := by
          rw [← hcd, List.getElem?_take] at he
          split at he
          · rw [List.getElem?_drop, show off + (pc - off) = pc by omega] at he
            exact he
          · cases he
        exact hP.2.2 id pc ls st w M cn Q e he2 (st1_mono (cPof_mono hP.1) (Clo.stepsO hP id off cd hcd Q n) e pc ls st w M cn h)
      · exact h.elim
    · exact h.elim
def kl7 : List In_ := [(.astore_n 2, 15, 2, 0, 0, []), (.iconst 0, 16, 0, 0, 0, []), (.istore_n 3, 17, 3, 0, 0, [])]
set_option maxRecDepth 100000 in
theorem kl7_ok : ((codeOf 210).drop 7).take kl7.length = kl7 := rfl
def kl10 : List In_ := [(.iload_n 3, 18, 3, 0, 0, []), (.aload_n 0, 19, 0, 0, 0, []), (.arraylength, 20, 0, 0, 0, []), (.iconst 5, 21, 0, 0, 5, []), (.isub, 22, 0, 0, 0, []), (.if_icmp .gt 1220, 23, 909, 0, 0, [])]
set_option maxRecDepth 100000 in
theorem kl10_ok : ((codeOf 210).drop 10).take kl10.length = kl10 := rfl
def kl16 : List In_ := [(.aload_n 0, 26, 0, 0, 0, []), (.iload_n 3, 27, 3, 0, 0, []), (.iaload, 28, 0, 0, 0, []), (.bipush 31, 29, 0, 0, 31, []), (.iand, 31, 0, 0, 0, []), (.tableswitch 1205 0 28 #[132, 165, 198, 221, 274, 307, 340, 373, 422, 475, 498, 521, 584, 607, 620, 653, 686, 739, 792, 835, 868, 901, 944, 977, 1000, 1033, 1086, 1119, 1162], 32, 907, 0, 0, [22, 49, 76, 93, 140, 167, 194, 221, 256, 303, 320, 337, 388, 405, 412, 439, 466, 513, 560, 597, 624, 651, 688, 715, 732, 759, 806, 833, 870])]
set_option maxRecDepth 100000 in
theorem kl16_ok : ((codeOf 210).drop 16).take kl16.length = kl16 := rfl
def kl22 : List In_ := [(.aload_n 1, 164, 1, 0, 0, []), (.aload_n 0, 165, 0, 0, 0, []), (.iload_n 3, 166, 3, 0, 0, []), (.iconst 1, 167, 0, 0, 1, []), (.iadd, 168, 0, 0, 0, []), (.iaload, 169, 0, 0, 0, []), (.aload_n 0, 170, 0, 0, 0, []), (.iload_n 3, 171, 3, 0, 0, []), (.iconst 2, 172, 0, 0, 2, []), (.iadd, 173, 0, 0, 0, []), (.iaload, 174, 0, 0, 0, []), (.invokevirtual 13, 175, 16, 0, 0, [3, 11, 0, 0, 600000, 7302250])]
set_option maxRecDepth 100000 in
theorem kl22_ok : ((codeOf 210).drop 22).take kl22.length = kl22 := rfl
def kl34 : List In_ := [(.aload_n 2, 178, 2, 0, 0, []), (.aload_n 0, 179, 0, 0, 0, []), (.iload_n 3, 180, 3, 0, 0, []), (.iconst 1, 181, 0, 0, 1, []), (.iadd, 182, 0, 0, 0, []), (.iaload, 183, 0, 0, 0, []), (.aload_n 0, 184, 0, 0, 0, []), (.iload_n 3, 185, 3, 0, 0, []), (.iconst 2, 186, 0, 0, 2, []), (.iadd, 187, 0, 0, 0, []), (.iaload, 188, 0, 0, 0, []), (.invokevirtual 17, 189, 18, 0, 0, [3, 12, 0, 0, 600000, 7302250])]
set_option maxRecDepth 100000 in
theorem kl34_ok : ((codeOf 210).drop 34).take kl34.length = kl34 := rfl
def kl46 : List In_ := [(.if_icmp .eq 1045, 192, 907, 0, 0, [])]
set_option maxRecDepth 100000 in
theorem kl46_ok : ((codeOf 210).drop 46).take kl46.length = kl46 := rfl
def kl47 : List In_ := [(.iconst 0, 195, 0, 0, 0, []), (.ireturn, 196, 1, 0, 0, [])]
set_option maxRecDepth 100000 in
theorem kl47_ok : ((codeOf 210).drop 47).take kl47.length = kl47 := rfl
def kl49 : List In_ := [(.aload_n 1, 197, 1, 0, 0, []), (.aload_n 0, 198, 0, 0, 0, []), (.iload_n 3, 199, 3, 0, 0, []), (.iconst 1, 200, 0, 0, 1, []), (.iadd, 201, 0, 0, 0, []), (.iaload, 202, 0, 0, 0, []), (.aload_n 0, 203, 0, 0, 0, []), (.iload_n 3, 204, 3, 0, 0, []), (.iconst 2, 205, 0, 0, 2, []), (.iadd, 206, 0, 0, 0, []), (.iaload, 207, 0, 0, 0, []), (.invokevirtual 18, 208, 23, 0, 0, [3, 11, 0, 0, 600000, 7302250])]
set_option maxRecDepth 100000 in
theorem kl49_ok : ((codeOf 210).drop 49).take kl49.length = kl49 := rfl
def kl61 : List In_ := [(.aload_n 2, 211, 2, 0, 0, []), (.aload_n 0, 212, 0, 0, 0, []), (.iload_n 3, 213, 3, 0, 0, []), (.iconst 1, 214, 0, 0, 1, []), (.iadd, 215, 0, 0, 0, []), (.iaload, 216, 0, 0, 0, []), (.aload_n 0, 217, 0, 0, 0, []), (.iload_n 3, 218, 3, 0, 0, []), (.iconst 2, 219, 0, 0, 2, []), (.iadd, 220, 0, 0, 0, []), (.iaload, 221, 0, 0, 0, []), (.invokevirtual 21, 222, 26, 0, 0, [3, 12, 0, 0, 600000, 7302250])]
set_option maxRecDepth 100000 in
theorem kl61_ok : ((codeOf 210).drop 61).take kl61.length = kl61 := rfl
def kl73 : List In_ := [(.if_icmp .eq 1012, 225, 907, 0, 0, [])]
set_option maxRecDepth 100000 in
theorem kl73_ok : ((codeOf 210).drop 73).take kl73.length = kl73 := rfl
def kl74 : List In_ := [(.iconst 0, 228, 0, 0, 0, []), (.ireturn, 229, 1, 0, 0, [])]
set_option maxRecDepth 100000 in
theorem kl74_ok : ((codeOf 210).drop 74).take kl74.length = kl74 := rfl
def kl76 : List In_ := [(.aload_n 1, 230, 1, 0, 0, []), (.aload_n 0, 231, 0, 0, 0, []), (.iload_n 3, 232, 3, 0, 0, []), (.iconst 1, 233, 0, 0, 1, []), (.iadd, 234, 0, 0, 0, []), (.iaload, 235, 0, 0, 0, []), (.invokevirtual 22, 236, 31, 0, 0, [2, 11, 0, 0, 600000, 7302250])]
set_option maxRecDepth 100000 in
theorem kl76_ok : ((codeOf 210).drop 76).take kl76.length = kl76 := rfl
def kl83 : List In_ := [(.aload_n 2, 239, 2, 0, 0, []), (.aload_n 0, 240, 0, 0, 0, []), (.iload_n 3, 241, 3, 0, 0, []), (.iconst 1, 242, 0, 0, 1, []), (.iadd, 243, 0, 0, 0, []), (.iaload, 244, 0, 0, 0, []), (.invokevirtual 26, 245, 33, 0, 0, [2, 12, 0, 0, 600000, 7302250])]
set_option maxRecDepth 100000 in
theorem kl83_ok : ((codeOf 210).drop 83).take kl83.length = kl83 := rfl
def kl90 : List In_ := [(.if_icmp .eq 989, 248, 907, 0, 0, [])]
set_option maxRecDepth 100000 in
theorem kl90_ok : ((codeOf 210).drop 90).take kl90.length = kl90 := rfl
def kl91 : List In_ := [(.iconst 0, 251, 0, 0, 0, []), (.ireturn, 252, 1, 0, 0, [])]
set_option maxRecDepth 100000 in
theorem kl91_ok : ((codeOf 210).drop 91).take kl91.length = kl91 := rfl
def kl93 : List In_ := [(.aload_n 1, 253, 1, 0, 0, []), (.aload_n 0, 254, 0, 0, 0, []), (.iload_n 3, 255, 3, 0, 0, []), (.iconst 1, 256, 0, 0, 1, []), (.iadd, 257, 0, 0, 0, []), (.iaload, 258, 0, 0, 0, []), (.aload_n 0, 259, 0, 0, 0, []), (.iload_n 3, 260, 3, 0, 0, []), (.iconst 2, 261, 0, 0, 2, []), (.iadd, 262, 0, 0, 0, []), (.iaload, 263, 0, 0, 0, []), (.aload_n 0, 264, 0, 0, 0, []), (.iload_n 3, 265, 3, 0, 0, []), (.iconst 3, 266, 0, 0, 3, []), (.iadd, 267, 0, 0, 0, []), (.iaload, 268, 0, 0, 0, []), (.aload_n 0, 269, 0, 0, 0, []), (.iload_n 3, 270, 3, 0, 0, []), (.iconst 4, 271, 0, 0, 4, []), (.iadd, 272, 0, 0, 0, []), (.iaload, 273, 0, 0, 0, []), (.invokevirtual 27, 274, 35, 0, 0, [5, 11, 0, 0, 600000, 7302250])]
set_option maxRecDepth 100000 in
theorem kl93_ok : ((codeOf 210).drop 93).take kl93.length = kl93 := rfl
def kl115 : List In_ := [(.aload_n 2, 277, 2, 0, 0, []), (.aload_n 0, 278, 0, 0, 0, []), (.iload_n 3, 279, 3, 0, 0, []), (.iconst 1, 280, 0, 0, 1, []), (.iadd, 281, 0, 0, 0, []), (.iaload, 282, 0, 0, 0, []), (.aload_n 0, 283, 0, 0, 0, []), (.iload_n 3, 284, 3, 0, 0, []), (.iconst 2, 285, 0, 0, 2, []), (.iadd, 286, 0, 0, 0, []), (.iaload, 287, 0, 0, 0, []), (.aload_n 0, 288, 0, 0, 0, []), (.iload_n 3, 289, 3, 0, 0, []), (.iconst 3, 290, 0, 0, 3, []), (.iadd, 291, 0, 0, 0, []), (.iaload, 292, 0, 0, 0, []), (.aload_n 0, 293, 0, 0, 0, []), (.iload_n 3, 294, 3, 0, 0, []), (.iconst 4, 295, 0, 0, 4, []), (.iadd, 296, 0, 0, 0, []), (.iaload, 297, 0, 0, 0, []), (.invokevirtual 31, 298, 37, 0, 0, [5, 12, 0, 0, 600000, 7302250])]
set_option maxRecDepth 100000 in
theorem kl115_ok : ((codeOf 210).drop 115).take kl115.length = kl115 := rfl
def kl137 : List In_ := [(.if_icmp .eq 936, 301, 907, 0, 0, [])]
set_option maxRecDepth 100000 in
theorem kl137_ok : ((codeOf 210).drop 137).take kl137.length = kl137 := rfl
def kl138 : List In_ := [(.iconst 0, 304, 0, 0, 0, []), (.ireturn, 305, 1, 0, 0, [])]
set_option maxRecDepth 100000 in
theorem kl138_ok : ((codeOf 210).drop 138).take kl138.length = kl138 := rfl
def kl140 : List In_ := [(.aload_n 1, 306, 1, 0, 0, []), (.aload_n 0, 307, 0, 0, 0, []), (.iload_n 3, 308, 3, 0, 0, []), (.iconst 1, 309, 0, 0, 1, []), (.iadd, 310, 0, 0, 0, []), (.iaload, 311, 0, 0, 0, []), (.aload_n 0, 312, 0, 0, 0, []), (.iload_n 3, 313, 3, 0, 0, []), (.iconst 2, 314, 0, 0, 2, []), (.iadd, 315, 0, 0, 0, []), (.iaload, 316, 0, 0, 0, []), (.invokevirtual 32, 317, 44, 0, 0, [3, 11, 0, 0, 600000, 7302250])]
set_option maxRecDepth 100000 in
theorem kl140_ok : ((codeOf 210).drop 140).take kl140.length = kl140 := rfl
def kl152 : List In_ := [(.aload_n 2, 320, 2, 0, 0, []), (.aload_n 0, 321, 0, 0, 0, []), (.iload_n 3, 322, 3, 0, 0, []), (.iconst 1, 323, 0, 0, 1, []), (.iadd, 324, 0, 0, 0, []), (.iaload, 325, 0, 0, 0, []), (.aload_n 0, 326, 0, 0, 0, []), (.iload_n 3, 327, 3, 0, 0, []), (.iconst 2, 328, 0, 0, 2, []), (.iadd, 329, 0, 0, 0, []), (.iaload, 330, 0, 0, 0, []), (.invokevirtual 35, 331, 50, 0, 0, [3, 12, 0, 0, 600000, 7302250])]
set_option maxRecDepth 100000 in
theorem kl152_ok : ((codeOf 210).drop 152).take kl152.length = kl152 := rfl
def kl164 : List In_ := [(.if_icmp .eq 903, 334, 907, 0, 0, [])]
set_option maxRecDepth 100000 in
theorem kl164_ok : ((codeOf 210).drop 164).take kl164.length = kl164 := rfl
def kl165 : List In_ := [(.iconst 0, 337, 0, 0, 0, []), (.ireturn, 338, 1, 0, 0, [])]
set_option maxRecDepth 100000 in
theorem kl165_ok : ((codeOf 210).drop 165).take kl165.length = kl165 := rfl
def kl167 : List In_ := [(.aload_n 1, 339, 1, 0, 0, []), (.aload_n 0, 340, 0, 0, 0, []), (.iload_n 3, 341, 3, 0, 0, []), (.iconst 1, 342, 0, 0, 1, []), (.iadd, 343, 0, 0, 0, []), (.iaload, 344, 0, 0, 0, []), (.aload_n 0, 345, 0, 0, 0, []), (.iload_n 3, 346, 3, 0, 0, []), (.iconst 2, 347, 0, 0, 2, []), (.iadd, 348, 0, 0, 0, []), (.iaload, 349, 0, 0, 0, []), (.invokevirtual 36, 350, 52, 0, 0, [3, 11, 0, 0, 600000, 7302250])]
set_option maxRecDepth 100000 in
theorem kl167_ok : ((codeOf 210).drop 167).take kl167.length = kl167 := rfl
def kl179 : List In_ := [(.aload_n 2, 353, 2, 0, 0, []), (.aload_n 0, 354, 0, 0, 0, []), (.iload_n 3, 355, 3, 0, 0, []), (.iconst 1, 356, 0, 0, 1, []), (.iadd, 357, 0, 0, 0, []), (.iaload, 358, 0, 0, 0, []), (.aload_n 0, 359, 0, 0, 0, []), (.iload_n 3, 360, 3, 0, 0, []), (.iconst 2, 361, 0, 0, 2, []), (.iadd, 362, 0, 0, 0, []), (.iaload, 363, 0, 0, 0, []), (.invokevirtual 39, 364, 53, 0, 0, [3, 12, 0, 0, 600000, 7302250])]
set_option maxRecDepth 100000 in
theorem kl179_ok : ((codeOf 210).drop 179).take kl179.length = kl179 := rfl
def kl191 : List In_ := [(.if_icmp .eq 870, 367, 907, 0, 0, [])]
set_option maxRecDepth 100000 in
theorem kl191_ok : ((codeOf 210).drop 191).take kl191.length = kl191 := rfl
def kl192 : List In_ := [(.iconst 0, 370, 0, 0, 0, []), (.ireturn, 371, 1, 0, 0, [])]
set_option maxRecDepth 100000 in
theorem kl192_ok : ((codeOf 210).drop 192).take kl192.length = kl192 := rfl
def kl194 : List In_ := [(.aload_n 1, 372, 1, 0, 0, []), (.aload_n 0, 373, 0, 0, 0, []), (.iload_n 3, 374, 3, 0, 0, []), (.iconst 1, 375, 0, 0, 1, []), (.iadd, 376, 0, 0, 0, []), (.iaload, 377, 0, 0, 0, []), (.aload_n 0, 378, 0, 0, 0, []), (.iload_n 3, 379, 3, 0, 0, []), (.iconst 2, 380, 0, 0, 2, []), (.iadd, 381, 0, 0, 0, []), (.iaload, 382, 0, 0, 0, []), (.invokevirtual 40, 383, 55, 0, 0, [3, 11, 0, 0, 600000, 7302250])]
set_option maxRecDepth 100000 in
theorem kl194_ok : ((codeOf 210).drop 194).take kl194.length = kl194 := rfl
def kl206 : List In_ := [(.aload_n 2, 386, 2, 0, 0, []), (.aload_n 0, 387, 0, 0, 0, []), (.iload_n 3, 388, 3, 0, 0, []), (.iconst 1, 389, 0, 0, 1, []), (.iadd, 390, 0, 0, 0, []), (.iaload, 391, 0, 0, 0, []), (.aload_n 0, 392, 0, 0, 0, []), (.iload_n 3, 393, 3, 0, 0, []), (.iconst 2, 394, 0, 0, 2, []), (.iadd, 395, 0, 0, 0, []), (.iaload, 396, 0, 0, 0, []), (.invokevirtual 43, 397, 57, 0, 0, [3, 12, 0, 0, 600000, 7302250])]
set_option maxRecDepth 100000 in
theorem kl206_ok : ((codeOf 210).drop 206).take kl206.length = kl206 := rfl
def kl218 : List In_ := [(.if_icmp .eq 837, 400, 907, 0, 0, [])]
set_option maxRecDepth 100000 in
theorem kl218_ok : ((codeOf 210).drop 218).take kl218.length = kl218 := rfl
def kl219 : List In_ := [(.iconst 0, 403, 0, 0, 0, []), (.ireturn, 404, 1, 0, 0, [])]
set_option maxRecDepth 100000 in
theorem kl219_ok : ((codeOf 210).drop 219).take kl219.length = kl219 := rfl
def kl221 : List In_ := [(.aload_n 1, 405, 1, 0, 0, []), (.aload_n 0, 406, 0, 0, 0, []), (.iload_n 3, 407, 3, 0, 0, []), (.iconst 1, 408, 0, 0, 1, []), (.iadd, 409, 0, 0, 0, []), (.iaload, 410, 0, 0, 0, []), (.aload_n 0, 411, 0, 0, 0, []), (.iload_n 3, 412, 3, 0, 0, []), (.iconst 2, 413, 0, 0, 2, []), (.iadd, 414, 0, 0, 0, []), (.iaload, 415, 0, 0, 0, []), (.ifCond .eq 7, 416, 235, 0, 0, [])]
set_option maxRecDepth 100000 in
theorem kl221_ok : ((codeOf 210).drop 221).take kl221.length = kl221 := rfl
def kl233 : List In_ := [(.iconst 1, 419, 0, 0, 1, []), (.goto 4, 420, 236, 0, 0, [])]
set_option maxRecDepth 100000 in
theorem kl233_ok : ((codeOf 210).drop 233).take kl233.length = kl233 := rfl
def kl235 : List In_ := [(.iconst 0, 423, 0, 0, 0, []), (.invokevirtual 44, 424, 58, 0, 0, [3, 11, 0, 0, 600000, 7302250])]
set_option maxRecDepth 100000 in
theorem kl235_ok : ((codeOf 210).drop 235).take kl235.length = kl235 := rfl
def kl236 : List In_ := [(.invokevirtual 44, 424, 58, 0, 0, [3, 11, 0, 0, 600000, 7302250])]
set_option maxRecDepth 100000 in
theorem kl236_ok : ((codeOf 210).drop 236).take kl236.length = kl236 := rfl
def kl237 : List In_ := [(.aload_n 2, 427, 2, 0, 0, []), (.aload_n 0, 428, 0, 0, 0, []), (.iload_n 3, 429, 3, 0, 0, []), (.iconst 1, 430, 0, 0, 1, []), (.iadd, 431, 0, 0, 0, []), (.iaload, 432, 0, 0, 0, []), (.aload_n 0, 433, 0, 0, 0, []), (.iload_n 3, 434, 3, 0, 0, []), (.iconst 2, 435, 0, 0, 2, []), (.iadd, 436, 0, 0, 0, []), (.iaload, 437, 0, 0, 0, []), (.ifCond .eq 7, 438, 251, 0, 0, [])]
set_option maxRecDepth 100000 in
theorem kl237_ok : ((codeOf 210).drop 237).take kl237.length = kl237 := rfl
def kl249 : List In_ := [(.iconst 1, 441, 0, 0, 1, []), (.goto 4, 442, 252, 0, 0, [])]
set_option maxRecDepth 100000 in
theorem kl249_ok : ((codeOf 210).drop 249).take kl249.length = kl249 := rfl
def kl251 : List In_ := [(.iconst 0, 445, 0, 0, 0, []), (.invokevirtual 48, 446, 59, 0, 0, [3, 12, 0, 0, 600000, 7302250])]
set_option maxRecDepth 100000 in
theorem kl251_ok : ((codeOf 210).drop 251).take kl251.length = kl251 := rfl
def kl252 : List In_ := [(.invokevirtual 48, 446, 59, 0, 0, [3, 12, 0, 0, 600000, 7302250])]
set_option maxRecDepth 100000 in
theorem kl252_ok : ((codeOf 210).drop 252).take kl252.length = kl252 := rfl
def kl253 : List In_ := [(.if_icmp .eq 788, 449, 907, 0, 0, [])]
set_option maxRecDepth 100000 in
theorem kl253_ok : ((codeOf 210).drop 253).take kl253.length = kl253 := rfl
def kl254 : List In_ := [(.iconst 0, 452, 0, 0, 0, []), (.ireturn, 453, 1, 0, 0, [])]
set_option maxRecDepth 100000 in
theorem kl254_ok : ((codeOf 210).drop 254).take kl254.length = kl254 := rfl
def kl256 : List In_ := [(.aload_n 1, 454, 1, 0, 0, []), (.aload_n 0, 455, 0, 0, 0, []), (.iload_n 3, 456, 3, 0, 0, []), (.iconst 1, 457, 0, 0, 1, []), (.iadd, 458, 0, 0, 0, []), (.iaload, 459, 0, 0, 0, []), (.aload_n 0, 460, 0, 0, 0, []), (.iload_n 3, 461, 3, 0, 0, []), (.iconst 2, 462, 0, 0, 2, []), (.iadd, 463, 0, 0, 0, []), (.iaload, 464, 0, 0, 0, []), (.aload_n 0, 465, 0, 0, 0, []), (.iload_n 3, 466, 3, 0, 0, []), (.iconst 3, 467, 0, 0, 3, []), (.iadd, 468, 0, 0, 0, []), (.iaload, 469, 0, 0, 0, []), (.aload_n 0, 470, 0, 0, 0, []), (.iload_n 3, 471, 3, 0, 0, []), (.iconst 4, 472, 0, 0, 4, []), (.iadd, 473, 0, 0, 0, []), (.iaload, 474, 0, 0, 0, []), (.invokevirtual 49, 475, 61, 0, 0, [5, 11, 0, 0, 600000, 7302250])]
set_option maxRecDepth 100000 in
theorem kl256_ok : ((codeOf 210).drop 256).take kl256.length = kl256 := rfl
def kl278 : List In_ := [(.aload_n 2, 478, 2, 0, 0, []), (.aload_n 0, 479, 0, 0, 0, []), (.iload_n 3, 480, 3, 0, 0, []), (.iconst 1, 481, 0, 0, 1, []), (.iadd, 482, 0, 0, 0, []), (.iaload, 483, 0, 0, 0, []), (.aload_n 0, 484, 0, 0, 0, []), (.iload_n 3, 485, 3, 0, 0, []), (.iconst 2, 486, 0, 0, 2, []), (.iadd, 487, 0, 0, 0, []), (.iaload, 488, 0, 0, 0, []), (.aload_n 0, 489, 0, 0, 0, []), (.iload_n 3, 490, 3, 0, 0, []), (.iconst 3, 491, 0, 0, 3, []), (.iadd, 492, 0, 0, 0, []), (.iaload, 493, 0, 0, 0, []), (.aload_n 0, 494, 0, 0, 0, []), (.iload_n 3, 495, 3, 0, 0, []), (.iconst 4, 496, 0, 0, 4, []), (.iadd, 497, 0, 0, 0, []), (.iaload, 498, 0, 0, 0, []), (.invokevirtual 52, 499, 62, 0, 0, [5, 12, 0, 0, 600000, 7302250])]
set_option maxRecDepth 100000 in
theorem kl278_ok : ((codeOf 210).drop 278).take kl278.length = kl278 := rfl
def kl300 : List In_ := [(.if_icmp .eq 735, 502, 907, 0, 0, [])]
set_option maxRecDepth 100000 in
theorem kl300_ok : ((codeOf 210).drop 300).take kl300.length = kl300 := rfl
def kl301 : List In_ := [(.iconst 0, 505, 0, 0, 0, []), (.ireturn, 506, 1, 0, 0, [])]
set_option maxRecDepth 100000 in
theorem kl301_ok : ((codeOf 210).drop 301).take kl301.length = kl301 := rfl
def kl303 : List In_ := [(.aload_n 1, 507, 1, 0, 0, []), (.aload_n 0, 508, 0, 0, 0, []), (.iload_n 3, 509, 3, 0, 0, []), (.iconst 1, 510, 0, 0, 1, []), (.iadd, 511, 0, 0, 0, []), (.iaload, 512, 0, 0, 0, []), (.invokevirtual 53, 513, 64, 0, 0, [2, 11, 0, 0, 600000, 7302250])]
set_option maxRecDepth 100000 in
theorem kl303_ok : ((codeOf 210).drop 303).take kl303.length = kl303 := rfl
def kl310 : List In_ := [(.aload_n 2, 516, 2, 0, 0, []), (.aload_n 0, 517, 0, 0, 0, []), (.iload_n 3, 518, 3, 0, 0, []), (.iconst 1, 519, 0, 0, 1, []), (.iadd, 520, 0, 0, 0, []), (.iaload, 521, 0, 0, 0, []), (.invokevirtual 56, 522, 65, 0, 0, [2, 12, 0, 0, 600000, 7302250])]
set_option maxRecDepth 100000 in
theorem kl310_ok : ((codeOf 210).drop 310).take kl310.length = kl310 := rfl
def kl317 : List In_ := [(.if_icmp .eq 712, 525, 907, 0, 0, [])]
set_option maxRecDepth 100000 in
theorem kl317_ok : ((codeOf 210).drop 317).take kl317.length = kl317 := rfl
def kl318 : List In_ := [(.iconst 0, 528, 0, 0, 0, []), (.ireturn, 529, 1, 0, 0, [])]
set_option maxRecDepth 100000 in
theorem kl318_ok : ((codeOf 210).drop 318).take kl318.length = kl318 := rfl
def kl320 : List In_ := [(.aload_n 1, 530, 1, 0, 0, []), (.aload_n 0, 531, 0, 0, 0, []), (.iload_n 3, 532, 3, 0, 0, []), (.iconst 1, 533, 0, 0, 1, []), (.iadd, 534, 0, 0, 0, []), (.iaload, 535, 0, 0, 0, []), (.invokevirtual 57, 536, 69, 0, 0, [2, 11, 0, 0, 600000, 7302250])]
set_option maxRecDepth 100000 in
theorem kl320_ok : ((codeOf 210).drop 320).take kl320.length = kl320 := rfl
def kl327 : List In_ := [(.aload_n 2, 539, 2, 0, 0, []), (.aload_n 0, 540, 0, 0, 0, []), (.iload_n 3, 541, 3, 0, 0, []), (.iconst 1, 542, 0, 0, 1, []), (.iadd, 543, 0, 0, 0, []), (.iaload, 544, 0, 0, 0, []), (.invokevirtual 60, 545, 70, 0, 0, [2, 12, 0, 0, 600000, 7302250])]
set_option maxRecDepth 100000 in
theorem kl327_ok : ((codeOf 210).drop 327).take kl327.length = kl327 := rfl
def kl334 : List In_ := [(.if_icmp .eq 689, 548, 907, 0, 0, [])]
set_option maxRecDepth 100000 in
theorem kl334_ok : ((codeOf 210).drop 334).take kl334.length = kl334 := rfl
def kl335 : List In_ := [(.iconst 0, 551, 0, 0, 0, []), (.ireturn, 552, 1, 0, 0, [])]
set_option maxRecDepth 100000 in
theorem kl335_ok : ((codeOf 210).drop 335).take kl335.length = kl335 := rfl
def kl337 : List In_ := [(.aload_n 1, 553, 1, 0, 0, []), (.aload_n 0, 554, 0, 0, 0, []), (.iload_n 3, 555, 3, 0, 0, []), (.iconst 1, 556, 0, 0, 1, []), (.iadd, 557, 0, 0, 0, []), (.iaload, 558, 0, 0, 0, []), (.aload_n 0, 559, 0, 0, 0, []), (.iload_n 3, 560, 3, 0, 0, []), (.iconst 2, 561, 0, 0, 2, []), (.iadd, 562, 0, 0, 0, []), (.iaload, 563, 0, 0, 0, []), (.i2l, 564, 0, 0, 0, []), (.bipush 32, 565, 0, 0, 32, []), (.lshl, 567, 0, 0, 0, []), (.aload_n 0, 568, 0, 0, 0, []), (.iload_n 3, 569, 3, 0, 0, []), (.iconst 3, 570, 0, 0, 3, []), (.iadd, 571, 0, 0, 0, []), (.iaload, 572, 0, 0, 0, []), (.i2l, 573, 0, 0, 0, []), (.ldc2_w 61, 574, 0, 0, 4294967295, []), (.land, 577, 0, 0, 0, []), (.lor, 578, 0, 0, 0, []), (.invokevirtual 63, 579, 72, 0, 0, [3, 11, 0, 0, 600000, 7302250])]
set_option maxRecDepth 100000 in
theorem kl337_ok : ((codeOf 210).drop 337).take kl337.length = kl337 := rfl
def kl361 : List In_ := [(.aload_n 2, 582, 2, 0, 0, []), (.aload_n 0, 583, 0, 0, 0, []), (.iload_n 3, 584, 3, 0, 0, []), (.iconst 1, 585, 0, 0, 1, []), (.iadd, 586, 0, 0, 0, []), (.iaload, 587, 0, 0, 0, []), (.aload_n 0, 588, 0, 0, 0, []), (.iload_n 3, 589, 3, 0, 0, []), (.iconst 2, 590, 0, 0, 2, []), (.iadd, 591, 0, 0, 0, []), (.iaload, 592, 0, 0, 0, []), (.i2l, 593, 0, 0, 0, []), (.bipush 32, 594, 0, 0, 32, []), (.lshl, 596, 0, 0, 0, []), (.aload_n 0, 597, 0, 0, 0, []), (.iload_n 3, 598, 3, 0, 0, []), (.iconst 3, 599, 0, 0, 3, []), (.iadd, 600, 0, 0, 0, []), (.iaload, 601, 0, 0, 0, []), (.i2l, 602, 0, 0, 0, []), (.ldc2_w 61, 603, 0, 0, 4294967295, []), (.land, 606, 0, 0, 0, []), (.lor, 607, 0, 0, 0, []), (.invokevirtual 67, 608, 73, 0, 0, [3, 12, 0, 0, 600000, 7302250])]
set_option maxRecDepth 100000 in
theorem kl361_ok : ((codeOf 210).drop 361).take kl361.length = kl361 := rfl
def kl385 : List In_ := [(.if_icmp .eq 626, 611, 907, 0, 0, [])]
set_option maxRecDepth 100000 in
theorem kl385_ok : ((codeOf 210).drop 385).take kl385.length = kl385 := rfl
def kl386 : List In_ := [(.iconst 0, 614, 0, 0, 0, []), (.ireturn, 615, 1, 0, 0, [])]
set_option maxRecDepth 100000 in
theorem kl386_ok : ((codeOf 210).drop 386).take kl386.length = kl386 := rfl
def kl388 : List In_ := [(.aload_n 1, 616, 1, 0, 0, []), (.aload_n 0, 617, 0, 0, 0, []), (.iload_n 3, 618, 3, 0, 0, []), (.iconst 1, 619, 0, 0, 1, []), (.iadd, 620, 0, 0, 0, []), (.iaload, 621, 0, 0, 0, []), (.invokevirtual 68, 622, 93, 0, 0, [2, 11, 0, 0, 600000, 7302250])]
set_option maxRecDepth 100000 in
theorem kl388_ok : ((codeOf 210).drop 388).take kl388.length = kl388 := rfl
def kl395 : List In_ := [(.aload_n 2, 625, 2, 0, 0, []), (.aload_n 0, 626, 0, 0, 0, []), (.iload_n 3, 627, 3, 0, 0, []), (.iconst 1, 628, 0, 0, 1, []), (.iadd, 629, 0, 0, 0, []), (.iaload, 630, 0, 0, 0, []), (.invokevirtual 71, 631, 103, 0, 0, [2, 12, 0, 0, 600000, 7302250])]
set_option maxRecDepth 100000 in
theorem kl395_ok : ((codeOf 210).drop 395).take kl395.length = kl395 := rfl
def kl402 : List In_ := [(.if_icmp .eq 603, 634, 907, 0, 0, [])]
set_option maxRecDepth 100000 in
theorem kl402_ok : ((codeOf 210).drop 402).take kl402.length = kl402 := rfl
def kl403 : List In_ := [(.iconst 0, 637, 0, 0, 0, []), (.ireturn, 638, 1, 0, 0, [])]
set_option maxRecDepth 100000 in
theorem kl403_ok : ((codeOf 210).drop 403).take kl403.length = kl403 := rfl
def kl405 : List In_ := [(.aload_n 1, 639, 1, 0, 0, []), (.invokevirtual 72, 640, 104, 0, 0, [1, 11, 0, 0, 600000, 7302250])]
set_option maxRecDepth 100000 in
theorem kl405_ok : ((codeOf 210).drop 405).take kl405.length = kl405 := rfl
def kl407 : List In_ := [(.aload_n 2, 643, 2, 0, 0, []), (.invokevirtual 76, 644, 105, 0, 0, [1, 12, 0, 0, 600000, 7302250])]
set_option maxRecDepth 100000 in
theorem kl407_ok : ((codeOf 210).drop 407).take kl407.length = kl407 := rfl
def kl409 : List In_ := [(.if_icmp .eq 590, 647, 907, 0, 0, [])]
set_option maxRecDepth 100000 in
theorem kl409_ok : ((codeOf 210).drop 409).take kl409.length = kl409 := rfl
def kl410 : List In_ := [(.iconst 0, 650, 0, 0, 0, []), (.ireturn, 651, 1, 0, 0, [])]
set_option maxRecDepth 100000 in
theorem kl410_ok : ((codeOf 210).drop 410).take kl410.length = kl410 := rfl
def kl412 : List In_ := [(.aload_n 1, 652, 1, 0, 0, []), (.aload_n 0, 653, 0, 0, 0, []), (.iload_n 3, 654, 3, 0, 0, []), (.iconst 1, 655, 0, 0, 1, []), (.iadd, 656, 0, 0, 0, []), (.iaload, 657, 0, 0, 0, []), (.aload_n 0, 658, 0, 0, 0, []), (.iload_n 3, 659, 3, 0, 0, []), (.iconst 2, 660, 0, 0, 2, []), (.iadd, 661, 0, 0, 0, []), (.iaload, 662, 0, 0, 0, []), (.invokevirtual 77, 663, 108, 0, 0, [3, 11, 0, 0, 600000, 7302250])]
set_option maxRecDepth 100000 in
theorem kl412_ok : ((codeOf 210).drop 412).take kl412.length = kl412 := rfl
def kl424 : List In_ := [(.aload_n 2, 666, 2, 0, 0, []), (.aload_n 0, 667, 0, 0, 0, []), (.iload_n 3, 668, 3, 0, 0, []), (.iconst 1, 669, 0, 0, 1, []), (.iadd, 670, 0, 0, 0, []), (.iaload, 671, 0, 0, 0, []), (.aload_n 0, 672, 0, 0, 0, []), (.iload_n 3, 673, 3, 0, 0, []), (.iconst 2, 674, 0, 0, 2, []), (.iadd, 675, 0, 0, 0, []), (.iaload, 676, 0, 0, 0, []), (.invokevirtual 80, 677, 111, 0, 0, [3, 12, 0, 0, 600000, 7302250])]
set_option maxRecDepth 100000 in
theorem kl424_ok : ((codeOf 210).drop 424).take kl424.length = kl424 := rfl
def kl436 : List In_ := [(.if_icmp .eq 557, 680, 907, 0, 0, [])]
set_option maxRecDepth 100000 in
theorem kl436_ok : ((codeOf 210).drop 436).take kl436.length = kl436 := rfl
def kl437 : List In_ := [(.iconst 0, 683, 0, 0, 0, []), (.ireturn, 684, 1, 0, 0, [])]
set_option maxRecDepth 100000 in
theorem kl437_ok : ((codeOf 210).drop 437).take kl437.length = kl437 := rfl
def kl439 : List In_ := [(.aload_n 1, 685, 1, 0, 0, []), (.aload_n 0, 686, 0, 0, 0, []), (.iload_n 3, 687, 3, 0, 0, []), (.iconst 1, 688, 0, 0, 1, []), (.iadd, 689, 0, 0, 0, []), (.iaload, 690, 0, 0, 0, []), (.aload_n 0, 691, 0, 0, 0, []), (.iload_n 3, 692, 3, 0, 0, []), (.iconst 2, 693, 0, 0, 2, []), (.iadd, 694, 0, 0, 0, []), (.iaload, 695, 0, 0, 0, []), (.invokevirtual 81, 696, 114, 0, 0, [3, 11, 0, 0, 600000, 7302250])]
set_option maxRecDepth 100000 in
theorem kl439_ok : ((codeOf 210).drop 439).take kl439.length = kl439 := rfl
def kl451 : List In_ := [(.aload_n 2, 699, 2, 0, 0, []), (.aload_n 0, 700, 0, 0, 0, []), (.iload_n 3, 701, 3, 0, 0, []), (.iconst 1, 702, 0, 0, 1, []), (.iadd, 703, 0, 0, 0, []), (.iaload, 704, 0, 0, 0, []), (.aload_n 0, 705, 0, 0, 0, []), (.iload_n 3, 706, 3, 0, 0, []), (.iconst 2, 707, 0, 0, 2, []), (.iadd, 708, 0, 0, 0, []), (.iaload, 709, 0, 0, 0, []), (.invokevirtual 84, 710, 117, 0, 0, [3, 12, 0, 0, 600000, 7302250])]
set_option maxRecDepth 100000 in
theorem kl451_ok : ((codeOf 210).drop 451).take kl451.length = kl451 := rfl
def kl463 : List In_ := [(.if_icmp .eq 524, 713, 907, 0, 0, [])]
set_option maxRecDepth 100000 in
theorem kl463_ok : ((codeOf 210).drop 463).take kl463.length = kl463 := rfl
def kl464 : List In_ := [(.iconst 0, 716, 0, 0, 0, []), (.ireturn, 717, 1, 0, 0, [])]
set_option maxRecDepth 100000 in
theorem kl464_ok : ((codeOf 210).drop 464).take kl464.length = kl464 := rfl
def kl466 : List In_ := [(.aload_n 1, 718, 1, 0, 0, []), (.aload_n 0, 719, 0, 0, 0, []), (.iload_n 3, 720, 3, 0, 0, []), (.iconst 1, 721, 0, 0, 1, []), (.iadd, 722, 0, 0, 0, []), (.iaload, 723, 0, 0, 0, []), (.aload_n 0, 724, 0, 0, 0, []), (.iload_n 3, 725, 3, 0, 0, []), (.iconst 2, 726, 0, 0, 2, []), (.iadd, 727, 0, 0, 0, []), (.iaload, 728, 0, 0, 0, []), (.aload_n 0, 729, 0, 0, 0, []), (.iload_n 3, 730, 3, 0, 0, []), (.iconst 3, 731, 0, 0, 3, []), (.iadd, 732, 0, 0, 0, []), (.iaload, 733, 0, 0, 0, []), (.aload_n 0, 734, 0, 0, 0, []), (.iload_n 3, 735, 3, 0, 0, []), (.iconst 4, 736, 0, 0, 4, []), (.iadd, 737, 0, 0, 0, []), (.iaload, 738, 0, 0, 0, []), (.invokevirtual 85, 739, 132, 0, 0, [5, 11, 0, 0, 600000, 7302250])]
set_option maxRecDepth 100000 in
theorem kl466_ok : ((codeOf 210).drop 466).take kl466.length = kl466 := rfl
def kl488 : List In_ := [(.aload_n 2, 742, 2, 0, 0, []), (.aload_n 0, 743, 0, 0, 0, []), (.iload_n 3, 744, 3, 0, 0, []), (.iconst 1, 745, 0, 0, 1, []), (.iadd, 746, 0, 0, 0, []), (.iaload, 747, 0, 0, 0, []), (.aload_n 0, 748, 0, 0, 0, []), (.iload_n 3, 749, 3, 0, 0, []), (.iconst 2, 750, 0, 0, 2, []), (.iadd, 751, 0, 0, 0, []), (.iaload, 752, 0, 0, 0, []), (.aload_n 0, 753, 0, 0, 0, []), (.iload_n 3, 754, 3, 0, 0, []), (.iconst 3, 755, 0, 0, 3, []), (.iadd, 756, 0, 0, 0, []), (.iaload, 757, 0, 0, 0, []), (.aload_n 0, 758, 0, 0, 0, []), (.iload_n 3, 759, 3, 0, 0, []), (.iconst 4, 760, 0, 0, 4, []), (.iadd, 761, 0, 0, 0, []), (.iaload, 762, 0, 0, 0, []), (.invokevirtual 88, 763, 135, 0, 0, [5, 12, 0, 0, 600000, 7302250])]
set_option maxRecDepth 100000 in
theorem kl488_ok : ((codeOf 210).drop 488).take kl488.length = kl488 := rfl
def kl510 : List In_ := [(.if_icmp .eq 471, 766, 907, 0, 0, [])]
set_option maxRecDepth 100000 in
theorem kl510_ok : ((codeOf 210).drop 510).take kl510.length = kl510 := rfl
def kl511 : List In_ := [(.iconst 0, 769, 0, 0, 0, []), (.ireturn, 770, 1, 0, 0, [])]
set_option maxRecDepth 100000 in
theorem kl511_ok : ((codeOf 210).drop 511).take kl511.length = kl511 := rfl
def kl513 : List In_ := [(.aload_n 1, 771, 1, 0, 0, []), (.aload_n 0, 772, 0, 0, 0, []), (.iload_n 3, 773, 3, 0, 0, []), (.iconst 1, 774, 0, 0, 1, []), (.iadd, 775, 0, 0, 0, []), (.iaload, 776, 0, 0, 0, []), (.aload_n 0, 777, 0, 0, 0, []), (.iload_n 3, 778, 3, 0, 0, []), (.iconst 2, 779, 0, 0, 2, []), (.iadd, 780, 0, 0, 0, []), (.iaload, 781, 0, 0, 0, []), (.aload_n 0, 782, 0, 0, 0, []), (.iload_n 3, 783, 3, 0, 0, []), (.iconst 3, 784, 0, 0, 3, []), (.iadd, 785, 0, 0, 0, []), (.iaload, 786, 0, 0, 0, []), (.aload_n 0, 787, 0, 0, 0, []), (.iload_n 3, 788, 3, 0, 0, []), (.iconst 4, 789, 0, 0, 4, []), (.iadd, 790, 0, 0, 0, []), (.iaload, 791, 0, 0, 0, []), (.invokevirtual 89, 792, 139, 0, 0, [5, 11, 0, 0, 600000, 7302250])]
set_option maxRecDepth 100000 in
theorem kl513_ok : ((codeOf 210).drop 513).take kl513.length = kl513 := rfl
def kl535 : List In_ := [(.aload_n 2, 795, 2, 0, 0, []), (.aload_n 0, 796, 0, 0, 0, []), (.iload_n 3, 797, 3, 0, 0, []), (.iconst 1, 798, 0, 0, 1, []), (.iadd, 799, 0, 0, 0, []), (.iaload, 800, 0, 0, 0, []), (.aload_n 0, 801, 0, 0, 0, []), (.iload_n 3, 802, 3, 0, 0, []), (.iconst 2, 803, 0, 0, 2, []), (.iadd, 804, 0, 0, 0, []), (.iaload, 805, 0, 0, 0, []), (.aload_n 0, 806, 0, 0, 0, []), (.iload_n 3, 807, 3, 0, 0, []), (.iconst 3, 808, 0, 0, 3, []), (.iadd, 809, 0, 0, 0, []), (.iaload, 810, 0, 0, 0, []), (.aload_n 0, 811, 0, 0, 0, []), (.iload_n 3, 812, 3, 0, 0, []), (.iconst 4, 813, 0, 0, 4, []), (.iadd, 814, 0, 0, 0, []), (.iaload, 815, 0, 0, 0, []), (.invokevirtual 92, 816, 145, 0, 0, [5, 12, 0, 0, 600000, 7302250])]
set_option maxRecDepth 100000 in
theorem kl535_ok : ((codeOf 210).drop 535).take kl535.length = kl535 := rfl
def kl557 : List In_ := [(.if_icmp .eq 418, 819, 907, 0, 0, [])]
set_option maxRecDepth 100000 in
theorem kl557_ok : ((codeOf 210).drop 557).take kl557.length = kl557 := rfl
def kl558 : List In_ := [(.iconst 0, 822, 0, 0, 0, []), (.ireturn, 823, 1, 0, 0, [])]
set_option maxRecDepth 100000 in
theorem kl558_ok : ((codeOf 210).drop 558).take kl558.length = kl558 := rfl
def kl560 : List In_ := [(.aload_n 1, 824, 1, 0, 0, []), (.aload_n 0, 825, 0, 0, 0, []), (.iload_n 3, 826, 3, 0, 0, []), (.iconst 1, 827, 0, 0, 1, []), (.iadd, 828, 0, 0, 0, []), (.iaload, 829, 0, 0, 0, []), (.aload_n 0, 830, 0, 0, 0, []), (.iload_n 3, 831, 3, 0, 0, []), (.iconst 2, 832, 0, 0, 2, []), (.iadd, 833, 0, 0, 0, []), (.iaload, 834, 0, 0, 0, []), (.aload_n 0, 835, 0, 0, 0, []), (.iload_n 3, 836, 3, 0, 0, []), (.iconst 3, 837, 0, 0, 3, []), (.iadd, 838, 0, 0, 0, []), (.iaload, 839, 0, 0, 0, []), (.invokevirtual 93, 840, 151, 0, 0, [4, 11, 0, 0, 600000, 7302250])]
set_option maxRecDepth 100000 in
theorem kl560_ok : ((codeOf 210).drop 560).take kl560.length = kl560 := rfl
def kl577 : List In_ := [(.aload_n 2, 843, 2, 0, 0, []), (.aload_n 0, 844, 0, 0, 0, []), (.iload_n 3, 845, 3, 0, 0, []), (.iconst 1, 846, 0, 0, 1, []), (.iadd, 847, 0, 0, 0, []), (.iaload, 848, 0, 0, 0, []), (.aload_n 0, 849, 0, 0, 0, []), (.iload_n 3, 850, 3, 0, 0, []), (.iconst 2, 851, 0, 0, 2, []), (.iadd, 852, 0, 0, 0, []), (.iaload, 853, 0, 0, 0, []), (.aload_n 0, 854, 0, 0, 0, []), (.iload_n 3, 855, 3, 0, 0, []), (.iconst 3, 856, 0, 0, 3, []), (.iadd, 857, 0, 0, 0, []), (.iaload, 858, 0, 0, 0, []), (.invokevirtual 97, 859, 156, 0, 0, [4, 12, 0, 0, 600000, 7302250])]
set_option maxRecDepth 100000 in
theorem kl577_ok : ((codeOf 210).drop 577).take kl577.length = kl577 := rfl
def kl594 : List In_ := [(.if_icmp .eq 375, 862, 907, 0, 0, [])]
set_option maxRecDepth 100000 in
theorem kl594_ok : ((codeOf 210).drop 594).take kl594.length = kl594 := rfl
def kl595 : List In_ := [(.iconst 0, 865, 0, 0, 0, []), (.ireturn, 866, 1, 0, 0, [])]
set_option maxRecDepth 100000 in
theorem kl595_ok : ((codeOf 210).drop 595).take kl595.length = kl595 := rfl
def kl597 : List In_ := [(.aload_n 1, 867, 1, 0, 0, []), (.aload_n 0, 868, 0, 0, 0, []), (.iload_n 3, 869, 3, 0, 0, []), (.iconst 1, 870, 0, 0, 1, []), (.iadd, 871, 0, 0, 0, []), (.iaload, 872, 0, 0, 0, []), (.aload_n 0, 873, 0, 0, 0, []), (.iload_n 3, 874, 3, 0, 0, []), (.iconst 2, 875, 0, 0, 2, []), (.iadd, 876, 0, 0, 0, []), (.iaload, 877, 0, 0, 0, []), (.invokevirtual 98, 878, 160, 0, 0, [3, 11, 0, 0, 600000, 7302250])]
set_option maxRecDepth 100000 in
theorem kl597_ok : ((codeOf 210).drop 597).take kl597.length = kl597 := rfl
def kl609 : List In_ := [(.aload_n 2, 881, 2, 0, 0, []), (.aload_n 0, 882, 0, 0, 0, []), (.iload_n 3, 883, 3, 0, 0, []), (.iconst 1, 884, 0, 0, 1, []), (.iadd, 885, 0, 0, 0, []), (.iaload, 886, 0, 0, 0, []), (.aload_n 0, 887, 0, 0, 0, []), (.iload_n 3, 888, 3, 0, 0, []), (.iconst 2, 889, 0, 0, 2, []), (.iadd, 890, 0, 0, 0, []), (.iaload, 891, 0, 0, 0, []), (.invokevirtual 101, 892, 162, 0, 0, [3, 12, 0, 0, 600000, 7302250])]
set_option maxRecDepth 100000 in
theorem kl609_ok : ((codeOf 210).drop 609).take kl609.length = kl609 := rfl
def kl621 : List In_ := [(.if_icmp .eq 342, 895, 907, 0, 0, [])]
set_option maxRecDepth 100000 in
theorem kl621_ok : ((codeOf 210).drop 621).take kl621.length = kl621 := rfl
def kl622 : List In_ := [(.iconst 0, 898, 0, 0, 0, []), (.ireturn, 899, 1, 0, 0, [])]
set_option maxRecDepth 100000 in
theorem kl622_ok : ((codeOf 210).drop 622).take kl622.length = kl622 := rfl
def kl624 : List In_ := [(.aload_n 1, 900, 1, 0, 0, []), (.aload_n 0, 901, 0, 0, 0, []), (.iload_n 3, 902, 3, 0, 0, []), (.iconst 1, 903, 0, 0, 1, []), (.iadd, 904, 0, 0, 0, []), (.iaload, 905, 0, 0, 0, []), (.aload_n 0, 906, 0, 0, 0, []), (.iload_n 3, 907, 3, 0, 0, []), (.iconst 2, 908, 0, 0, 2, []), (.iadd, 909, 0, 0, 0, []), (.iaload, 910, 0, 0, 0, []), (.invokevirtual 102, 911, 163, 0, 0, [3, 11, 0, 0, 600000, 7302250])]
set_option maxRecDepth 100000 in
theorem kl624_ok : ((codeOf 210).drop 624).take kl624.length = kl624 := rfl
def kl636 : List In_ := [(.aload_n 2, 914, 2, 0, 0, []), (.aload_n 0, 915, 0, 0, 0, []), (.iload_n 3, 916, 3, 0, 0, []), (.iconst 1, 917, 0, 0, 1, []), (.iadd, 918, 0, 0, 0, []), (.iaload, 919, 0, 0, 0, []), (.aload_n 0, 920, 0, 0, 0, []), (.iload_n 3, 921, 3, 0, 0, []), (.iconst 2, 922, 0, 0, 2, []), (.iadd, 923, 0, 0, 0, []), (.iaload, 924, 0, 0, 0, []), (.invokevirtual 105, 925, 164, 0, 0, [3, 12, 0, 0, 600000, 7302250])]
set_option maxRecDepth 100000 in
theorem kl636_ok : ((codeOf 210).drop 636).take kl636.length = kl636 := rfl
def kl648 : List In_ := [(.if_icmp .eq 309, 928, 907, 0, 0, [])]
set_option maxRecDepth 100000 in
theorem kl648_ok : ((codeOf 210).drop 648).take kl648.length = kl648 := rfl
def kl649 : List In_ := [(.iconst 0, 931, 0, 0, 0, []), (.ireturn, 932, 1, 0, 0, [])]
set_option maxRecDepth 100000 in
theorem kl649_ok : ((codeOf 210).drop 649).take kl649.length = kl649 := rfl
def kl651 : List In_ := [(.aload_n 1, 933, 1, 0, 0, []), (.aload_n 0, 934, 0, 0, 0, []), (.iload_n 3, 935, 3, 0, 0, []), (.iconst 1, 936, 0, 0, 1, []), (.iadd, 937, 0, 0, 0, []), (.iaload, 938, 0, 0, 0, []), (.aload_n 0, 939, 0, 0, 0, []), (.iload_n 3, 940, 3, 0, 0, []), (.iconst 2, 941, 0, 0, 2, []), (.iadd, 942, 0, 0, 0, []), (.iaload, 943, 0, 0, 0, []), (.aload_n 0, 944, 0, 0, 0, []), (.iload_n 3, 945, 3, 0, 0, []), (.iconst 3, 946, 0, 0, 3, []), (.iadd, 947, 0, 0, 0, []), (.iaload, 948, 0, 0, 0, []), (.invokevirtual 106, 949, 168, 0, 0, [4, 11, 0, 0, 600000, 7302250])]
set_option maxRecDepth 100000 in
theorem kl651_ok : ((codeOf 210).drop 651).take kl651.length = kl651 := rfl
def kl668 : List In_ := [(.aload_n 2, 952, 2, 0, 0, []), (.aload_n 0, 953, 0, 0, 0, []), (.iload_n 3, 954, 3, 0, 0, []), (.iconst 1, 955, 0, 0, 1, []), (.iadd, 956, 0, 0, 0, []), (.iaload, 957, 0, 0, 0, []), (.aload_n 0, 958, 0, 0, 0, []), (.iload_n 3, 959, 3, 0, 0, []), (.iconst 2, 960, 0, 0, 2, []), (.iadd, 961, 0, 0, 0, []), (.iaload, 962, 0, 0, 0, []), (.aload_n 0, 963, 0, 0, 0, []), (.iload_n 3, 964, 3, 0, 0, []), (.iconst 3, 965, 0, 0, 3, []), (.iadd, 966, 0, 0, 0, []), (.iaload, 967, 0, 0, 0, []), (.invokevirtual 109, 968, 170, 0, 0, [4, 12, 0, 0, 600000, 7302250])]
set_option maxRecDepth 100000 in
theorem kl668_ok : ((codeOf 210).drop 668).take kl668.length = kl668 := rfl
def kl685 : List In_ := [(.if_icmp .eq 266, 971, 907, 0, 0, [])]
set_option maxRecDepth 100000 in
theorem kl685_ok : ((codeOf 210).drop 685).take kl685.length = kl685 := rfl
def kl686 : List In_ := [(.iconst 0, 974, 0, 0, 0, []), (.ireturn, 975, 1, 0, 0, [])]
set_option maxRecDepth 100000 in
theorem kl686_ok : ((codeOf 210).drop 686).take kl686.length = kl686 := rfl
def kl688 : List In_ := [(.aload_n 1, 976, 1, 0, 0, []), (.aload_n 0, 977, 0, 0, 0, []), (.iload_n 3, 978, 3, 0, 0, []), (.iconst 1, 979, 0, 0, 1, []), (.iadd, 980, 0, 0, 0, []), (.iaload, 981, 0, 0, 0, []), (.aload_n 0, 982, 0, 0, 0, []), (.iload_n 3, 983, 3, 0, 0, []), (.iconst 2, 984, 0, 0, 2, []), (.iadd, 985, 0, 0, 0, []), (.iaload, 986, 0, 0, 0, []), (.invokevirtual 110, 987, 172, 0, 0, [3, 11, 0, 0, 600000, 7302250])]
set_option maxRecDepth 100000 in
theorem kl688_ok : ((codeOf 210).drop 688).take kl688.length = kl688 := rfl
def kl700 : List In_ := [(.aload_n 2, 990, 2, 0, 0, []), (.aload_n 0, 991, 0, 0, 0, []), (.iload_n 3, 992, 3, 0, 0, []), (.iconst 1, 993, 0, 0, 1, []), (.iadd, 994, 0, 0, 0, []), (.iaload, 995, 0, 0, 0, []), (.aload_n 0, 996, 0, 0, 0, []), (.iload_n 3, 997, 3, 0, 0, []), (.iconst 2, 998, 0, 0, 2, []), (.iadd, 999, 0, 0, 0, []), (.iaload, 1000, 0, 0, 0, []), (.invokevirtual 113, 1001, 173, 0, 0, [3, 12, 0, 0, 600000, 7302250])]
set_option maxRecDepth 100000 in
theorem kl700_ok : ((codeOf 210).drop 700).take kl700.length = kl700 := rfl
def kl712 : List In_ := [(.if_icmp .eq 233, 1004, 907, 0, 0, [])]
set_option maxRecDepth 100000 in
theorem kl712_ok : ((codeOf 210).drop 712).take kl712.length = kl712 := rfl
def kl713 : List In_ := [(.iconst 0, 1007, 0, 0, 0, []), (.ireturn, 1008, 1, 0, 0, [])]
set_option maxRecDepth 100000 in
theorem kl713_ok : ((codeOf 210).drop 713).take kl713.length = kl713 := rfl
def kl715 : List In_ := [(.aload_n 1, 1009, 1, 0, 0, []), (.aload_n 0, 1010, 0, 0, 0, []), (.iload_n 3, 1011, 3, 0, 0, []), (.iconst 1, 1012, 0, 0, 1, []), (.iadd, 1013, 0, 0, 0, []), (.iaload, 1014, 0, 0, 0, []), (.invokevirtual 114, 1015, 175, 0, 0, [2, 11, 0, 0, 600000, 7302250])]
set_option maxRecDepth 100000 in
theorem kl715_ok : ((codeOf 210).drop 715).take kl715.length = kl715 := rfl
def kl722 : List In_ := [(.aload_n 2, 1018, 2, 0, 0, []), (.aload_n 0, 1019, 0, 0, 0, []), (.iload_n 3, 1020, 3, 0, 0, []), (.iconst 1, 1021, 0, 0, 1, []), (.iadd, 1022, 0, 0, 0, []), (.iaload, 1023, 0, 0, 0, []), (.invokevirtual 117, 1024, 177, 0, 0, [2, 12, 0, 0, 600000, 7302250])]
set_option maxRecDepth 100000 in
theorem kl722_ok : ((codeOf 210).drop 722).take kl722.length = kl722 := rfl
def kl729 : List In_ := [(.if_icmp .eq 210, 1027, 907, 0, 0, [])]
set_option maxRecDepth 100000 in
theorem kl729_ok : ((codeOf 210).drop 729).take kl729.length = kl729 := rfl
def kl730 : List In_ := [(.iconst 0, 1030, 0, 0, 0, []), (.ireturn, 1031, 1, 0, 0, [])]
set_option maxRecDepth 100000 in
theorem kl730_ok : ((codeOf 210).drop 730).take kl730.length = kl730 := rfl
def kl732 : List In_ := [(.aload_n 1, 1032, 1, 0, 0, []), (.aload_n 0, 1033, 0, 0, 0, []), (.iload_n 3, 1034, 3, 0, 0, []), (.iconst 1, 1035, 0, 0, 1, []), (.iadd, 1036, 0, 0, 0, []), (.iaload, 1037, 0, 0, 0, []), (.aload_n 0, 1038, 0, 0, 0, []), (.iload_n 3, 1039, 3, 0, 0, []), (.iconst 2, 1040, 0, 0, 2, []), (.iadd, 1041, 0, 0, 0, []), (.iaload, 1042, 0, 0, 0, []), (.invokevirtual 118, 1043, 181, 0, 0, [3, 11, 0, 0, 600000, 7302250])]
set_option maxRecDepth 100000 in
theorem kl732_ok : ((codeOf 210).drop 732).take kl732.length = kl732 := rfl
def kl744 : List In_ := [(.aload_n 2, 1046, 2, 0, 0, []), (.aload_n 0, 1047, 0, 0, 0, []), (.iload_n 3, 1048, 3, 0, 0, []), (.iconst 1, 1049, 0, 0, 1, []), (.iadd, 1050, 0, 0, 0, []), (.iaload, 1051, 0, 0, 0, []), (.aload_n 0, 1052, 0, 0, 0, []), (.iload_n 3, 1053, 3, 0, 0, []), (.iconst 2, 1054, 0, 0, 2, []), (.iadd, 1055, 0, 0, 0, []), (.iaload, 1056, 0, 0, 0, []), (.invokevirtual 121, 1057, 185, 0, 0, [3, 12, 0, 0, 600000, 7302250])]
set_option maxRecDepth 100000 in
theorem kl744_ok : ((codeOf 210).drop 744).take kl744.length = kl744 := rfl
def kl756 : List In_ := [(.if_icmp .eq 177, 1060, 907, 0, 0, [])]
set_option maxRecDepth 100000 in
theorem kl756_ok : ((codeOf 210).drop 756).take kl756.length = kl756 := rfl
def kl757 : List In_ := [(.iconst 0, 1063, 0, 0, 0, []), (.ireturn, 1064, 1, 0, 0, [])]
set_option maxRecDepth 100000 in
theorem kl757_ok : ((codeOf 210).drop 757).take kl757.length = kl757 := rfl
def kl759 : List In_ := [(.aload_n 1, 1065, 1, 0, 0, []), (.aload_n 0, 1066, 0, 0, 0, []), (.iload_n 3, 1067, 3, 0, 0, []), (.iconst 1, 1068, 0, 0, 1, []), (.iadd, 1069, 0, 0, 0, []), (.iaload, 1070, 0, 0, 0, []), (.aload_n 0, 1071, 0, 0, 0, []), (.iload_n 3, 1072, 3, 0, 0, []), (.iconst 2, 1073, 0, 0, 2, []), (.iadd, 1074, 0, 0, 0, []), (.iaload, 1075, 0, 0, 0, []), (.aload_n 0, 1076, 0, 0, 0, []), (.iload_n 3, 1077, 3, 0, 0, []), (.iconst 3, 1078, 0, 0, 3, []), (.iadd, 1079, 0, 0, 0, []), (.iaload, 1080, 0, 0, 0, []), (.aload_n 0, 1081, 0, 0, 0, []), (.iload_n 3, 1082, 3, 0, 0, []), (.iconst 4, 1083, 0, 0, 4, []), (.iadd, 1084, 0, 0, 0, []), (.iaload, 1085, 0, 0, 0, []), (.invokevirtual 122, 1086, 189, 0, 0, [5, 11, 0, 0, 600000, 7302250])]
set_option maxRecDepth 100000 in
theorem kl759_ok : ((codeOf 210).drop 759).take kl759.length = kl759 := rfl
def kl781 : List In_ := [(.aload_n 2, 1089, 2, 0, 0, []), (.aload_n 0, 1090, 0, 0, 0, []), (.iload_n 3, 1091, 3, 0, 0, []), (.iconst 1, 1092, 0, 0, 1, []), (.iadd, 1093, 0, 0, 0, []), (.iaload, 1094, 0, 0, 0, []), (.aload_n 0, 1095, 0, 0, 0, []), (.iload_n 3, 1096, 3, 0, 0, []), (.iconst 2, 1097, 0, 0, 2, []), (.iadd, 1098, 0, 0, 0, []), (.iaload, 1099, 0, 0, 0, []), (.aload_n 0, 1100, 0, 0, 0, []), (.iload_n 3, 1101, 3, 0, 0, []), (.iconst 3, 1102, 0, 0, 3, []), (.iadd, 1103, 0, 0, 0, []), (.iaload, 1104, 0, 0, 0, []), (.aload_n 0, 1105, 0, 0, 0, []), (.iload_n 3, 1106, 3, 0, 0, []), (.iconst 4, 1107, 0, 0, 4, []), (.iadd, 1108, 0, 0, 0, []), (.iaload, 1109, 0, 0, 0, []), (.invokevirtual 125, 1110, 193, 0, 0, [5, 12, 0, 0, 600000, 7302250])]
set_option maxRecDepth 100000 in
theorem kl781_ok : ((codeOf 210).drop 781).take kl781.length = kl781 := rfl
def kl803 : List In_ := [(.if_icmp .eq 124, 1113, 907, 0, 0, [])]
set_option maxRecDepth 100000 in
theorem kl803_ok : ((codeOf 210).drop 803).take kl803.length = kl803 := rfl
def kl804 : List In_ := [(.iconst 0, 1116, 0, 0, 0, []), (.ireturn, 1117, 1, 0, 0, [])]
set_option maxRecDepth 100000 in
theorem kl804_ok : ((codeOf 210).drop 804).take kl804.length = kl804 := rfl
def kl806 : List In_ := [(.aload_n 1, 1118, 1, 0, 0, []), (.aload_n 0, 1119, 0, 0, 0, []), (.iload_n 3, 1120, 3, 0, 0, []), (.iconst 1, 1121, 0, 0, 1, []), (.iadd, 1122, 0, 0, 0, []), (.iaload, 1123, 0, 0, 0, []), (.aload_n 0, 1124, 0, 0, 0, []), (.iload_n 3, 1125, 3, 0, 0, []), (.iconst 2, 1126, 0, 0, 2, []), (.iadd, 1127, 0, 0, 0, []), (.iaload, 1128, 0, 0, 0, []), (.invokevirtual 126, 1129, 196, 0, 0, [3, 11, 0, 0, 600000, 7302250])]
set_option maxRecDepth 100000 in
theorem kl806_ok : ((codeOf 210).drop 806).take kl806.length = kl806 := rfl
def kl818 : List In_ := [(.aload_n 2, 1132, 2, 0, 0, []), (.aload_n 0, 1133, 0, 0, 0, []), (.iload_n 3, 1134, 3, 0, 0, []), (.iconst 1, 1135, 0, 0, 1, []), (.iadd, 1136, 0, 0, 0, []), (.iaload, 1137, 0, 0, 0, []), (.aload_n 0, 1138, 0, 0, 0, []), (.iload_n 3, 1139, 3, 0, 0, []), (.iconst 2, 1140, 0, 0, 2, []), (.iadd, 1141, 0, 0, 0, []), (.iaload, 1142, 0, 0, 0, []), (.invokevirtual 129, 1143, 197, 0, 0, [3, 12, 0, 0, 600000, 7302250])]
set_option maxRecDepth 100000 in
theorem kl818_ok : ((codeOf 210).drop 818).take kl818.length = kl818 := rfl
def kl830 : List In_ := [(.if_icmp .eq 91, 1146, 907, 0, 0, [])]
set_option maxRecDepth 100000 in
theorem kl830_ok : ((codeOf 210).drop 830).take kl830.length = kl830 := rfl
def kl831 : List In_ := [(.iconst 0, 1149, 0, 0, 0, []), (.ireturn, 1150, 1, 0, 0, [])]
set_option maxRecDepth 100000 in
theorem kl831_ok : ((codeOf 210).drop 831).take kl831.length = kl831 := rfl
def kl833 : List In_ := [(.aload_n 1, 1151, 1, 0, 0, []), (.aload_n 0, 1152, 0, 0, 0, []), (.iload_n 3, 1153, 3, 0, 0, []), (.iconst 1, 1154, 0, 0, 1, []), (.iadd, 1155, 0, 0, 0, []), (.iaload, 1156, 0, 0, 0, []), (.aload_n 0, 1157, 0, 0, 0, []), (.iload_n 3, 1158, 3, 0, 0, []), (.iconst 2, 1159, 0, 0, 2, []), (.iadd, 1160, 0, 0, 0, []), (.iaload, 1161, 0, 0, 0, []), (.aload_n 0, 1162, 0, 0, 0, []), (.iload_n 3, 1163, 3, 0, 0, []), (.iconst 3, 1164, 0, 0, 3, []), (.iadd, 1165, 0, 0, 0, []), (.iaload, 1166, 0, 0, 0, []), (.invokevirtual 130, 1167, 200, 0, 0, [4, 11, 0, 0, 600000, 7302250])]
set_option maxRecDepth 100000 in
theorem kl833_ok : ((codeOf 210).drop 833).take kl833.length = kl833 := rfl
def kl850 : List In_ := [(.aload_n 2, 1170, 2, 0, 0, []), (.aload_n 0, 1171, 0, 0, 0, []), (.iload_n 3, 1172, 3, 0, 0, []), (.iconst 1, 1173, 0, 0, 1, []), (.iadd, 1174, 0, 0, 0, []), (.iaload, 1175, 0, 0, 0, []), (.aload_n 0, 1176, 0, 0, 0, []), (.iload_n 3, 1177, 3, 0, 0, []), (.iconst 2, 1178, 0, 0, 2, []), (.iadd, 1179, 0, 0, 0, []), (.iaload, 1180, 0, 0, 0, []), (.aload_n 0, 1181, 0, 0, 0, []), (.iload_n 3, 1182, 3, 0, 0, []), (.iconst 3, 1183, 0, 0, 3, []), (.iadd, 1184, 0, 0, 0, []), (.iaload, 1185, 0, 0, 0, []), (.invokevirtual 133, 1186, 201, 0, 0, [4, 12, 0, 0, 600000, 7302250])]
set_option maxRecDepth 100000 in
theorem kl850_ok : ((codeOf 210).drop 850).take kl850.length = kl850 := rfl
def kl867 : List In_ := [(.if_icmp .eq 48, 1189, 907, 0, 0, [])]
set_option maxRecDepth 100000 in
theorem kl867_ok : ((codeOf 210).drop 867).take kl867.length = kl867 := rfl
def kl868 : List In_ := [(.iconst 0, 1192, 0, 0, 0, []), (.ireturn, 1193, 1, 0, 0, [])]
set_option maxRecDepth 100000 in
theorem kl868_ok : ((codeOf 210).drop 868).take kl868.length = kl868 := rfl
def kl870 : List In_ := [(.aload_n 1, 1194, 1, 0, 0, []), (.aload_n 0, 1195, 0, 0, 0, []), (.iload_n 3, 1196, 3, 0, 0, []), (.iconst 1, 1197, 0, 0, 1, []), (.iadd, 1198, 0, 0, 0, []), (.iaload, 1199, 0, 0, 0, []), (.aload_n 0, 1200, 0, 0, 0, []), (.iload_n 3, 1201, 3, 0, 0, []), (.iconst 2, 1202, 0, 0, 2, []), (.iadd, 1203, 0, 0, 0, []), (.iaload, 1204, 0, 0, 0, []), (.aload_n 0, 1205, 0, 0, 0, []), (.iload_n 3, 1206, 3, 0, 0, []), (.iconst 3, 1207, 0, 0, 3, []), (.iadd, 1208, 0, 0, 0, []), (.iaload, 1209, 0, 0, 0, []), (.invokevirtual 134, 1210, 206, 0, 0, [4, 11, 0, 0, 600000, 7302250])]
set_option maxRecDepth 100000 in
theorem kl870_ok : ((codeOf 210).drop 870).take kl870.length = kl870 := rfl
def kl887 : List In_ := [(.aload_n 2, 1213, 2, 0, 0, []), (.aload_n 0, 1214, 0, 0, 0, []), (.iload_n 3, 1215, 3, 0, 0, []), (.iconst 1, 1216, 0, 0, 1, []), (.iadd, 1217, 0, 0, 0, []), (.iaload, 1218, 0, 0, 0, []), (.aload_n 0, 1219, 0, 0, 0, []), (.iload_n 3, 1220, 3, 0, 0, []), (.iconst 2, 1221, 0, 0, 2, []), (.iadd, 1222, 0, 0, 0, []), (.iaload, 1223, 0, 0, 0, []), (.aload_n 0, 1224, 0, 0, 0, []), (.iload_n 3, 1225, 3, 0, 0, []), (.iconst 3, 1226, 0, 0, 3, []), (.iadd, 1227, 0, 0, 0, []), (.iaload, 1228, 0, 0, 0, []), (.invokevirtual 137, 1229, 209, 0, 0, [4, 12, 0, 0, 600000, 7302250])]
set_option maxRecDepth 100000 in
theorem kl887_ok : ((codeOf 210).drop 887).take kl887.length = kl887 := rfl
def kl904 : List In_ := [(.if_icmp .eq 5, 1232, 907, 0, 0, [])]
set_option maxRecDepth 100000 in
theorem kl904_ok : ((codeOf 210).drop 904).take kl904.length = kl904 := rfl
def kl905 : List In_ := [(.iconst 0, 1235, 0, 0, 0, []), (.ireturn, 1236, 1, 0, 0, [])]
set_option maxRecDepth 100000 in
theorem kl905_ok : ((codeOf 210).drop 905).take kl905.length = kl905 := rfl
def kl907 : List In_ := [(.iinc 3 5, 1237, 3, 0, 5, []), (.goto (-1222), 1240, 10, 0, 0, [])]
set_option maxRecDepth 100000 in
theorem kl907_ok : ((codeOf 210).drop 907).take kl907.length = kl907 := rfl
def kl909 : List In_ := [(.iconst 1, 1243, 0, 0, 1, []), (.ireturn, 1244, 1, 0, 0, [])]
set_option maxRecDepth 100000 in
theorem kl909_ok : ((codeOf 210).drop 909).take kl909.length = kl909 := rfl
