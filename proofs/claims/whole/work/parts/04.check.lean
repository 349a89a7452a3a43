def cNL : List String := ["SharedPages$Journal", "SharedPages$Line", "SharedPages$Matcher", "SharedPages$Merger", "SharedPages$Page", "SharedPages$Revision", "SharedPages$Screen", "SharedPages$Span", "SharedPages$Text", "SharedPages$Viewer", "SharedPages", "SharedPagesModel", "SharedPagesLaw"]
def nC : Nat := 12
def cF_0 : u_T := fun k => match k with
  | 0 => ("SharedPages$Journal", "made", "I", false)
  | 1 => ("SharedPages$Journal", "cutAfter", "I", false)
  | 2 => ("SharedPages$Journal", "down", "Z", false)
  | 3 => ("SharedPages$Journal", "closed", "Z", false)
  | _ => ("SharedPages$Journal", "needed", "I", false)
def cF_1 : u_T := fun k => match k with
  | 0 => ("SharedPages$Line", "codes", "[C", true)
  | _ => ("SharedPages$Line", "count", "I", false)
def cF_2 : u_T := fun k => match k with
  | 0 => ("SharedPages$Matcher", "most", "[I", true)
  | _ => ("SharedPages$Matcher", "inNext", "[I", true)
def cF_3 : u_T := fun k => match k with
  | 0 => ("SharedPages$Merger", "matcher", "LSharedPages$Matcher;", true)
  | 1 => ("SharedPages$Merger", "inFirst", "[I", true)
  | 2 => ("SharedPages$Merger", "inSecond", "[I", true)
  | 3 => ("SharedPages$Merger", "old", "LSharedPages$Span;", true)
  | 4 => ("SharedPages$Merger", "first", "LSharedPages$Span;", true)
  | 5 => ("SharedPages$Merger", "second", "LSharedPages$Span;", true)
  | 6 => ("SharedPages$Merger", "merged", "LSharedPages$Text;", true)
  | 7 => ("SharedPages$Merger", "begun", "Z", false)
  | _ => ("SharedPages$Merger", "tooLong", "Z", false)
def cF_4 : u_T := fun k => match k with
  | 0 => ("SharedPages$Page", "revisions", "[LSharedPages$Revision;", true)
  | _ => ("SharedPages$Page", "newest", "I", false)
def cF_5 : u_T := fun k => match k with
  | 0 => ("SharedPages$Revision", "text", "LSharedPages$Text;", true)
  | 1 => ("SharedPages$Revision", "gone", "Z", true)
  | 2 => ("SharedPages$Revision", "space", "I", true)
  | _ => ("SharedPages$Revision", "steps", "I", true)
def cF_6 : u_T := fun k => match k with
  | 0 => ("SharedPages$Screen", "codes", "[C", true)
  | 1 => ("SharedPages$Screen", "count", "I", false)
  | 2 => ("SharedPages$Screen", "block", "I", false)
  | _ => ("SharedPages$Screen", "pagesThere", "I", false)
def cF_7 : u_T := fun k => match k with
  | 0 => ("SharedPages$Span", "text", "LSharedPages$Text;", false)
  | 1 => ("SharedPages$Span", "from", "I", false)
  | _ => ("SharedPages$Span", "behind", "I", false)
def cF_8 : u_T := fun k => match k with
  | 0 => ("SharedPages$Text", "codes", "[C", true)
  | 1 => ("SharedPages$Text", "starts", "[I", true)
  | 2 => ("SharedPages$Text", "count", "I", false)
  | _ => ("SharedPages$Text", "lines", "I", false)
def cF_9 : u_T := fun k => match k with
  | 0 => ("SharedPages$Viewer", "pages", "[LSharedPages$Page;", true)
  | 1 => ("SharedPages$Viewer", "line", "LSharedPages$Line;", true)
  | 2 => ("SharedPages$Viewer", "screen", "LSharedPages$Screen;", true)
  | _ => ("SharedPages$Viewer", "pagesThere", "I", false)
def cF_10 : u_T := fun k => match k with
  | 0 => ("SharedPages", "every", "I", true)
  | 1 => ("SharedPages", "draft", "LSharedPages$Text;", true)
  | 2 => ("SharedPages", "empty", "LSharedPages$Text;", true)
  | 3 => ("SharedPages", "pages", "[LSharedPages$Page;", true)
  | 4 => ("SharedPages", "matcher", "LSharedPages$Matcher;", true)
  | 5 => ("SharedPages", "merger", "LSharedPages$Merger;", true)
  | 6 => ("SharedPages", "viewer", "LSharedPages$Viewer;", true)
  | 7 => ("SharedPages", "journal", "LSharedPages$Journal;", true)
  | 8 => ("SharedPages", "revisionsMade", "I", false)
  | 9 => ("SharedPages", "pending", "LSharedPages$Revision;", false)
  | _ => ("SharedPages", "pendingPage", "I", false)
def cF_11 : u_T := fun k => match k with
  | 0 => ("SharedPagesModel", "text", "[I", true)
  | 1 => ("SharedPagesModel", "size", "[I", true)
  | 2 => ("SharedPagesModel", "made", "I", false)
  | 3 => ("SharedPagesModel", "pageOf", "[I", true)
  | 4 => ("SharedPagesModel", "gone", "[Z", true)
  | 5 => ("SharedPagesModel", "every", "I", true)
  | 6 => ("SharedPagesModel", "least", "[I", true)
  | 7 => ("SharedPagesModel", "withA", "[I", true)
  | 8 => ("SharedPagesModel", "withB", "[I", true)
  | 9 => ("SharedPagesModel", "down", "Z", false)
  | 10 => ("SharedPagesModel", "cutAt", "I", false)
  | 11 => ("SharedPagesModel", "blocks", "I", false)
  | 12 => ("SharedPagesModel", "closed", "Z", false)
  | 13 => ("SharedPagesModel", "written", "I", false)
  | 14 => ("SharedPagesModel", "line", "[I", true)
  | 15 => ("SharedPagesModel", "width", "I", false)
  | 16 => ("SharedPagesModel", "depth", "I", false)
  | 17 => ("SharedPagesModel", "inside", "[I", true)
  | 18 => ("SharedPagesModel", "next", "[I", true)
  | 19 => ("SharedPagesModel", "filler", "[I", true)
  | 20 => ("SharedPagesModel", "out", "[I", true)
  | _ => ("SharedPagesModel", "outs", "I", false)
def vwCl : List vw_C := [("SharedPages$Journal", cF_0, 5), ("SharedPages$Line", cF_1, 2), ("SharedPages$Matcher", cF_2, 2), ("SharedPages$Merger", cF_3, 9), ("SharedPages$Page", cF_4, 2), ("SharedPages$Revision", cF_5, 4), ("SharedPages$Screen", cF_6, 4), ("SharedPages$Span", cF_7, 3), ("SharedPages$Text", cF_8, 4), ("SharedPages$Viewer", cF_9, 4), ("SharedPages", cF_10, 11), ("SharedPagesModel", cF_11, 22)]
def fNL : List Nat := [5, 2, 2, 9, 2, 4, 4, 3, 4, 4, 11, 22]
def fN (c : Nat) : Nat := fNL.getD c 0
def fCL : List (List Nat) := [[0, 0, 1, 1, 0], [3, 0], [3, 3], [3, 3, 3, 3, 3, 3, 3, 1, 1], [3, 0], [3, 1, 0, 0], [3, 0, 0, 0], [3, 0, 0], [3, 3, 0, 0], [3, 3, 3, 0], [0, 3, 3, 3, 3, 3, 3, 3, 0, 3, 0], [3, 3, 0, 3, 3, 0, 3, 3, 3, 1, 0, 0, 1, 0, 3, 0, 0, 3, 3, 3, 3, 0]]
def fC (c k : Nat) : Nat := (fCL.getD c []).getD k 3
def fFL : List (List Bool) := [[false, false, false, false, false], [true, false], [true, true], [true, true, true, true, true, true, true, false, false], [true, false], [true, true, true, true], [true, false, false, false], [false, false, false], [true, true, false, false], [true, true, true, false], [true, true, true, true, true, true, true, true, false, false, false], [true, true, false, true, true, true, true, true, true, false, false, false, false, false, true, false, false, true, true, true, true, false]]
def fF (c k : Nat) : Bool := (fFL.getD c []).getD k false
def fI (c k : Nat) : Bool := decide (fC c k ≠ 3)
def nS : Nat := 17
def K0 : Nat := 19
def stx (j : Nat) : String := (["<h", "</h", "</li>", "</ul>", "</p>", "<ul>", "<li>", "<p>", "</b>", "<b>", "<a>", "<u>", "</a>", "</u>", "&amp;", "&lt;", "&gt;"] : List String).getD j ""
def lenS : List Nat := [2, 3, 5, 5, 4, 4, 4, 3, 4, 3, 3, 3, 4, 4, 5, 4, 4]
def bytS : List (List Int32) := [[60, 104], [60, 47, 104], [60, 47, 108, 105, 62], [60, 47, 117, 108, 62], [60, 47, 112, 62], [60, 117, 108, 62], [60, 108, 105, 62], [60, 112, 62], [60, 47, 98, 62], [60, 98, 62], [60, 97, 62], [60, 117, 62], [60, 47, 97, 62], [60, 47, 117, 62], [38, 97, 109, 112, 59], [38, 108, 116, 59], [38, 103, 116, 59]]
def FLL : List (Nat × Nat × (Nat × Nat)) := [(0, 9, (0, 1)), (0, 13, (0, 0)), (0, 16, (0, 2)), (0, 20, (0, 3)), (0, 23, (0, 4)), (1, 9, (1, 0)), (1, 24, (1, 1)), (2, 11, (2, 0)), (2, 15, (2, 1)), (3, 9, (3, 1)), (3, 15, (3, 2)), (3, 21, (3, 3)), (3, 25, (3, 4)), (3, 28, (3, 5)), (3, 34, (3, 6)), (3, 38, (3, 0)), (3, 68, (3, 8)), (3, 84, (3, 7)), (3, 95, (7, 1)), (3, 99, (7, 2)), (3, 102, (7, 0)), (4, 11, (4, 0)), (4, 17, (4, 1)), (4, 21, (5, 1)), (5, 7, (5, 0)), (5, 13, (5, 1)), (5, 17, (5, 2)), (5, 21, (5, 3)), (6, 9, (6, 0)), (6, 15, (6, 1)), (6, 19, (6, 2)), (6, 22, (6, 3)), (7, 7, (7, 0)), (7, 13, (7, 1)), (7, 17, (7, 2)), (8, 9, (8, 0)), (8, 15, (8, 1)), (8, 26, (8, 2)), (8, 30, (8, 3)), (9, 12, (9, 1)), (9, 21, (9, 2)), (9, 25, (9, 0)), (9, 35, (5, 0)), (9, 61, (9, 3)), (10, 12, (10, 1)), (10, 16, (10, 2)), (10, 21, (10, 3)), (10, 28, (10, 4)), (10, 37, (10, 5)), (10, 44, (10, 7)), (10, 57, (10, 0)), (10, 74, (10, 6)), (10, 118, (10, 8)), (10, 136, (5, 0)), (10, 155, (5, 1)), (10, 165, (5, 3)), (10, 172, (5, 2)), (10, 209, (10, 9)), (10, 213, (10, 10)), (11, 7, (11, 0)), (11, 13, (11, 1)), (11, 16, (11, 3)), (11, 19, (11, 4)), (11, 23, (11, 6)), (11, 26, (11, 7)), (11, 29, (11, 8)), (11, 32, (11, 10)), (11, 36, (11, 14)), (11, 39, (11, 17)), (11, 42, (11, 18)), (11, 45, (11, 19)), (11, 48, (11, 20)), (11, 51, (11, 5)), (11, 76, (11, 2)), (11, 104, (11, 11)), (11, 107, (11, 13)), (11, 110, (11, 12)), (11, 114, (11, 9)), (11, 145, (11, 15)), (11, 164, (11, 21)), (11, 185, (11, 16))]
def CLL : List (Nat × Nat × Nat) := [(3, 18, 7), (3, 31, 8), (4, 9, 5), (9, 9, 1), (9, 18, 6), (10, 9, 8), (10, 19, 4), (10, 25, 2), (10, 32, 3), (10, 41, 0), (10, 61, 5), (10, 69, 9), (12, 7, 10), (12, 18, 11)]
def MLL : List (Nat × Nat × Nat) := [(0, 1, 1052), (0, 26, 1049), (1, 3, 1052), (1, 15, 70), (1, 21, 72), (1, 28, 67), (1, 32, 17), (1, 36, 12), (1, 40, 13), (1, 43, 21), (2, 3, 1052), (2, 18, 25), (2, 22, 68), (2, 28, 26), (2, 32, 78), (2, 36, 23), (2, 40, 27), (2, 44, 1050), (2, 50, 72), (3, 3, 1052), (3, 20, 58), (3, 33, 64), (3, 42, 31), (3, 46, 68), (3, 50, 60), (3, 54, 32), (3, 58, 34), (3, 62, 62), (3, 65, 61), (3, 72, 23), (3, 78, 59), (3, 81, 76), (3, 87, 63), (3, 91, 33), (3, 105, 35), (3, 109, 70), (3, 113, 71), (3, 116, 67), (3, 120, 73), (4, 3, 1052), (5, 1, 1052), (6, 3, 1052), (6, 25, 15), (6, 31, 10), (6, 33, 49), (6, 38, 50), (6, 42, 53), (6, 48, 14), (6, 52, 51), (6, 57, 56), (6, 61, 52), (6, 68, 57), (6, 78, 13), (6, 86, 20), (6, 90, 11), (6, 94, 54), (6, 97, 55), (6, 100, 111), (6, 118, 1054), (6, 123, 1055), (7, 1, 1052), (7, 20, 68), (7, 26, 78), (8, 3, 1052), (8, 19, 79), (8, 22, 77), (8, 33, 1051), (8, 39, 72), (9, 3, 1052), (9, 11, 7), (9, 20, 43), (9, 29, 38), (9, 41, 68), (9, 47, 8), (9, 51, 85), (9, 54, 81), (9, 58, 86), (9, 65, 44), (9, 69, 87), (9, 73, 49), (9, 76, 45), (9, 79, 46), (9, 83, 16), (9, 87, 17), (9, 91, 111), (9, 95, 10), (9, 96, 20), (9, 100, 11), (9, 101, 40), (9, 104, 47), (9, 107, 88), (9, 111, 18), (9, 114, 19), (9, 117, 9), (9, 121, 48), (10, 3, 1052), (10, 11, 64), (10, 27, 22), (10, 34, 28), (10, 43, 0), (10, 48, 1049), (10, 54, 1050), (10, 63, 42), (10, 66, 36), (10, 71, 80), (10, 78, 110), (10, 82, 73), (10, 85, 69), (10, 89, 71), (10, 93, 74), (10, 97, 75), (10, 101, 76), (10, 104, 66), (10, 108, 67), (10, 112, 112), (10, 115, 37), (10, 121, 65), (10, 124, 114), (10, 128, 115), (10, 132, 39), (10, 139, 38), (10, 143, 30), (10, 147, 29), (10, 151, 113), (10, 159, 101), (10, 162, 77), (10, 168, 40), (10, 175, 81), (10, 178, 82), (10, 181, 83), (10, 184, 84), (10, 187, 2), (10, 190, 4), (10, 193, 6), (10, 196, 117), (10, 199, 1), (10, 202, 24), (10, 206, 5), (10, 216, 116), (10, 219, 41), (10, 222, 3), (11, 1, 1052), (11, 54, 119), (11, 58, 121), (11, 62, 122), (11, 65, 123), (11, 69, 120), (11, 72, 126), (11, 79, 127), (11, 83, 128), (11, 86, 129), (11, 89, 131), (11, 93, 125), (11, 96, 134), (11, 100, 132), (11, 117, 136), (11, 120, 135), (11, 124, 138), (11, 128, 139), (11, 132, 124), (11, 136, 130), (11, 139, 133), (11, 142, 146), (11, 148, 154), (11, 151, 153), (11, 154, 155), (11, 158, 156), (11, 161, 157), (11, 167, 160), (11, 171, 161), (11, 175, 162), (11, 178, 164), (11, 182, 163), (11, 188, 167), (11, 191, 166), (11, 194, 165), (12, 9, 173), (12, 15, 89), (12, 20, 118), (12, 21, 90), (12, 25, 147), (12, 26, 91), (12, 30, 148), (12, 31, 92), (12, 35, 149), (12, 36, 93), (12, 39, 150), (12, 40, 94), (12, 44, 151), (12, 45, 95), (12, 49, 152), (12, 50, 96), (12, 54, 137), (12, 55, 97), (12, 58, 140), (12, 59, 98), (12, 62, 141), (12, 63, 99), (12, 66, 142), (12, 67, 100), (12, 70, 143), (12, 71, 101), (12, 74, 144), (12, 75, 102), (12, 78, 145), (12, 79, 103), (12, 82, 158), (12, 83, 104), (12, 86, 159), (12, 87, 105), (12, 90, 168), (12, 91, 106), (12, 94, 169), (12, 95, 107), (12, 98, 170), (12, 99, 108), (12, 102, 171), (12, 103, 109), (12, 106, 172)]
def SLL : List (Nat × Nat × Nat) := [(6, 36, 0), (6, 46, 1), (6, 55, 2), (6, 64, 3), (6, 66, 4), (6, 72, 5), (6, 74, 6), (6, 76, 7), (6, 82, 8), (6, 84, 9), (6, 104, 10), (6, 106, 11), (6, 108, 12), (6, 110, 13), (6, 112, 14), (6, 114, 15), (6, 116, 16)]
def RCL : List Nat := [4, 5]
def nM : Nat := 174
def yML : List MethodName := [⟨"SharedPages$Journal", "<init>", "()V"⟩, ⟨"SharedPages$Journal", "writesMade", "()I"⟩, ⟨"SharedPages$Journal", "isDown", "()Z"⟩, ⟨"SharedPages$Journal", "wasClosed", "()Z"⟩, ⟨"SharedPages$Journal", "cutNextAfter", "(I)V"⟩, ⟨"SharedPages$Journal", "carryOut", "(I)Z"⟩, ⟨"SharedPages$Journal", "recoverWith", "(I)I"⟩, ⟨"SharedPages$Line", "<init>", "()V"⟩, ⟨"SharedPages$Line", "take", "(LSharedPages$Text;IC)V"⟩, ⟨"SharedPages$Line", "becomeMark", "(C)V"⟩, ⟨"SharedPages$Line", "count", "()I"⟩, ⟨"SharedPages$Line", "code", "(I)C"⟩, ⟨"SharedPages$Line", "has", "(IC)Z"⟩, ⟨"SharedPages$Line", "hasTwo", "(IC)Z"⟩, ⟨"SharedPages$Line", "isItem", "()Z"⟩, ⟨"SharedPages$Line", "headingLevel", "()I"⟩, ⟨"SharedPages$Line", "isInclude", "()Z"⟩, ⟨"SharedPages$Line", "includedLetter", "()C"⟩, ⟨"SharedPages$Line", "includedPage", "()I"⟩, ⟨"SharedPages$Line", "includedFiller", "()C"⟩, ⟨"SharedPages$Line", "isLink", "(I)Z"⟩, ⟨"SharedPages$Line", "hasLetter", "(I)Z"⟩, ⟨"SharedPages$Matcher", "<init>", "()V"⟩, ⟨"SharedPages$Matcher", "match", "(LSharedPages$Text;LSharedPages$Text;[I)V"⟩, ⟨"SharedPages$Matcher", "deltaSpace", "(LSharedPages$Text;LSharedPages$Text;)I"⟩, ⟨"SharedPages$Matcher", "countMost", "(LSharedPages$Text;LSharedPages$Text;)V"⟩, ⟨"SharedPages$Matcher", "skipTo", "(LSharedPages$Text;ILSharedPages$Text;I)I"⟩, ⟨"SharedPages$Matcher", "linesSpace", "(LSharedPages$Text;II)I"⟩, ⟨"SharedPages$Merger", "<init>", "(LSharedPages$Matcher;)V"⟩, ⟨"SharedPages$Merger", "merged", "()LSharedPages$Text;"⟩, ⟨"SharedPages$Merger", "merge", "(LSharedPages$Text;LSharedPages$Text;LSharedPages$Text;)I"⟩, ⟨"SharedPages$Merger", "begin", "(LSharedPages$Text;LSharedPages$Text;LSharedPages$Text;)V"⟩, ⟨"SharedPages$Merger", "putOutPart", "()Z"⟩, ⟨"SharedPages$Merger", "putOutLines", "(LSharedPages$Span;)V"⟩, ⟨"SharedPages$Merger", "putOutLine", "(LSharedPages$Text;I)V"⟩, ⟨"SharedPages$Merger", "putOutCharacter", "(C)V"⟩, ⟨"SharedPages$Page", "<init>", "(LSharedPages$Revision;)V"⟩, ⟨"SharedPages$Page", "newestNumber", "()I"⟩, ⟨"SharedPages$Page", "newest", "()LSharedPages$Revision;"⟩, ⟨"SharedPages$Page", "revision", "(I)LSharedPages$Revision;"⟩, ⟨"SharedPages$Page", "isThere", "()Z"⟩, ⟨"SharedPages$Page", "append", "(LSharedPages$Revision;)I"⟩, ⟨"SharedPages$Revision", "<init>", "(LSharedPages$Text;ZII)V"⟩, ⟨"SharedPages$Screen", "<init>", "()V"⟩, ⟨"SharedPages$Screen", "begin", "(I)V"⟩, ⟨"SharedPages$Screen", "count", "()I"⟩, ⟨"SharedPages$Screen", "code", "(I)C"⟩, ⟨"SharedPages$Screen", "isFull", "()Z"⟩, ⟨"SharedPages$Screen", "add", "(LSharedPages$Line;)V"⟩, ⟨"SharedPages$Screen", "endBlock", "()V"⟩, ⟨"SharedPages$Screen", "writeHeadingMark", "(Ljava/lang/String;I)V"⟩, ⟨"SharedPages$Screen", "beginItem", "()V"⟩, ⟨"SharedPages$Screen", "beginPlain", "()V"⟩, ⟨"SharedPages$Screen", "addContent", "(LSharedPages$Line;I)V"⟩, ⟨"SharedPages$Screen", "writeLink", "(C)V"⟩, ⟨"SharedPages$Screen", "writeEscaped", "(C)V"⟩, ⟨"SharedPages$Screen", "write", "(Ljava/lang/String;)V"⟩, ⟨"SharedPages$Screen", "writeCharacter", "(C)V"⟩, ⟨"SharedPages$Span", "<init>", "()V"⟩, ⟨"SharedPages$Span", "begin", "(LSharedPages$Text;)V"⟩, ⟨"SharedPages$Span", "reachTo", "(I)V"⟩, ⟨"SharedPages$Span", "reachEnd", "()V"⟩, ⟨"SharedPages$Span", "goOnBehind", "()V"⟩, ⟨"SharedPages$Span", "same", "(LSharedPages$Span;)Z"⟩, ⟨"SharedPages$Text", "<init>", "()V"⟩, ⟨"SharedPages$Text", "<init>", "(LSharedPages$Text;)V"⟩, ⟨"SharedPages$Text", "count", "()I"⟩, ⟨"SharedPages$Text", "code", "(I)C"⟩, ⟨"SharedPages$Text", "lineCount", "()I"⟩, ⟨"SharedPages$Text", "hasLine", "(I)Z"⟩, ⟨"SharedPages$Text", "lineStart", "(I)I"⟩, ⟨"SharedPages$Text", "lineEnd", "(I)I"⟩, ⟨"SharedPages$Text", "lineLength", "(I)I"⟩, ⟨"SharedPages$Text", "append", "(C)Z"⟩, ⟨"SharedPages$Text", "insert", "(IC)Z"⟩, ⟨"SharedPages$Text", "takeOut", "(I)V"⟩, ⟨"SharedPages$Text", "makeEmpty", "()V"⟩, ⟨"SharedPages$Text", "copyFrom", "(LSharedPages$Text;)V"⟩, ⟨"SharedPages$Text", "sameLine", "(ILSharedPages$Text;I)Z"⟩, ⟨"SharedPages$Text", "findLines", "()V"⟩, ⟨"SharedPages$Viewer", "<init>", "([LSharedPages$Page;)V"⟩, ⟨"SharedPages$Viewer", "linksOf", "(I)I"⟩, ⟨"SharedPages$Viewer", "pagesLinkingTo", "(I)I"⟩, ⟨"SharedPages$Viewer", "view", "(I)I"⟩, ⟨"SharedPages$Viewer", "viewed", "(I)I"⟩, ⟨"SharedPages$Viewer", "linksOfLine", "()I"⟩, ⟨"SharedPages$Viewer", "findPagesThere", "()I"⟩, ⟨"SharedPages$Viewer", "expand", "(ICII)V"⟩, ⟨"SharedPages$Viewer", "markFor", "(II)C"⟩, ⟨"SharedPages", "<init>", "(I)V"⟩, ⟨"SharedPages", "type", "(C)Z"⟩, ⟨"SharedPages", "put", "(IC)Z"⟩, ⟨"SharedPages", "drop", "(I)Z"⟩, ⟨"SharedPages", "clear", "()V"⟩, ⟨"SharedPages", "length", "()I"⟩, ⟨"SharedPages", "at", "(I)I"⟩, ⟨"SharedPages", "save", "(II)I"⟩, ⟨"SharedPages", "revert", "(II)I"⟩, ⟨"SharedPages", "remove", "(I)I"⟩, ⟨"SharedPages", "load", "(II)I"⟩, ⟨"SharedPages", "latest", "(I)I"⟩, ⟨"SharedPages", "there", "(I)Z"⟩, ⟨"SharedPages", "size", "(II)I"⟩, ⟨"SharedPages", "links", "(I)I"⟩, ⟨"SharedPages", "backlinks", "(I)I"⟩, ⟨"SharedPages", "show", "(I)I"⟩, ⟨"SharedPages", "shown", "(I)I"⟩, ⟨"SharedPages", "cut", "(I)Z"⟩, ⟨"SharedPages", "recover", "(I)I"⟩, ⟨"SharedPages", "writes", "()I"⟩, ⟨"SharedPages", "isPrinted", "(C)Z"⟩, ⟨"SharedPages", "pageBit", "(C)I"⟩, ⟨"SharedPages", "isUsable", "(I)Z"⟩, ⟨"SharedPages", "hasRevision", "(II)Z"⟩, ⟨"SharedPages", "withText", "(LSharedPages$Page;LSharedPages$Text;)LSharedPages$Revision;"⟩, ⟨"SharedPages", "makeRevision", "(ILSharedPages$Revision;)I"⟩, ⟨"SharedPages", "keep", "(ILSharedPages$Revision;)I"⟩, ⟨"SharedPages", "endPending", "()V"⟩, ⟨"SharedPagesModel", "<init>", "(I)V"⟩, ⟨"SharedPagesModel", "many", "(I)I"⟩, ⟨"SharedPagesModel", "lines", "(I)I"⟩, ⟨"SharedPagesModel", "start", "(II)I"⟩, ⟨"SharedPagesModel", "stop", "(II)I"⟩, ⟨"SharedPagesModel", "equal", "(IIII)Z"⟩, ⟨"SharedPagesModel", "alike", "(IIIIII)Z"⟩, ⟨"SharedPagesModel", "match", "(IIZ)V"⟩, ⟨"SharedPagesModel", "note", "(IIZ)V"⟩, ⟨"SharedPagesModel", "isPage", "(I)Z"⟩, ⟨"SharedPagesModel", "count", "(I)I"⟩, ⟨"SharedPagesModel", "find", "(II)I"⟩, ⟨"SharedPagesModel", "isThere", "(I)Z"⟩, ⟨"SharedPagesModel", "delta", "(III)Z"⟩, ⟨"SharedPagesModel", "sizeOf", "(III)I"⟩, ⟨"SharedPagesModel", "stepsOf", "(II)I"⟩, ⟨"SharedPagesModel", "copy", "(II)V"⟩, ⟨"SharedPagesModel", "make", "(IIZ)I"⟩, ⟨"SharedPagesModel", "enter", "()V"⟩, ⟨"SharedPagesModel", "save", "(II)I"⟩, ⟨"SharedPagesModel", "merge", "(II)Z"⟩, ⟨"SharedPagesModel", "emit", "(III)V"⟩, ⟨"SharedPagesModel", "revert", "(II)I"⟩, ⟨"SharedPagesModel", "remove", "(I)I"⟩, ⟨"SharedPagesModel", "load", "(II)I"⟩, ⟨"SharedPagesModel", "latest", "(I)I"⟩, ⟨"SharedPagesModel", "there", "(I)Z"⟩, ⟨"SharedPagesModel", "size", "(II)I"⟩, ⟨"SharedPagesModel", "insert", "(II)Z"⟩, ⟨"SharedPagesModel", "type", "(C)Z"⟩, ⟨"SharedPagesModel", "put", "(IC)Z"⟩, ⟨"SharedPagesModel", "drop", "(I)Z"⟩, ⟨"SharedPagesModel", "clear", "()V"⟩, ⟨"SharedPagesModel", "length", "()I"⟩, ⟨"SharedPagesModel", "at", "(I)I"⟩, ⟨"SharedPagesModel", "look", "(III)I"⟩, ⟨"SharedPagesModel", "letter", "(I)Z"⟩, ⟨"SharedPagesModel", "includes", "()Z"⟩, ⟨"SharedPagesModel", "linked", "(II)Z"⟩, ⟨"SharedPagesModel", "linksOf", "(I)I"⟩, ⟨"SharedPagesModel", "links", "(I)I"⟩, ⟨"SharedPagesModel", "backlinks", "(I)I"⟩, ⟨"SharedPagesModel", "show1", "(I)V"⟩, ⟨"SharedPagesModel", "tag", "(ZII)V"⟩, ⟨"SharedPagesModel", "named", "(III)V"⟩, ⟨"SharedPagesModel", "content", "(I)V"⟩, ⟨"SharedPagesModel", "kind", "()I"⟩, ⟨"SharedPagesModel", "render", "(I)V"⟩, ⟨"SharedPagesModel", "barred", "()Z"⟩, ⟨"SharedPagesModel", "enterPage", "(II)V"⟩, ⟨"SharedPagesModel", "show", "(I)I"⟩, ⟨"SharedPagesModel", "shown", "(I)I"⟩, ⟨"SharedPagesModel", "cut", "(I)Z"⟩, ⟨"SharedPagesModel", "recover", "(I)I"⟩, ⟨"SharedPagesModel", "writes", "()I"⟩, ⟨"SharedPagesLaw", "cell", "([II)I"⟩]
def yM (m : Nat) : MethodName := (sm_nth yML m).getD ⟨"", "", ""⟩
def bML : List ByteArray := [prog_2_method_1_code, prog_2_method_2_code, prog_2_method_3_code, prog_2_method_4_code, prog_2_method_5_code, prog_2_method_6_code, prog_2_method_7_code, prog_3_method_1_code, prog_3_method_2_code, prog_3_method_3_code, prog_3_method_4_code, prog_3_method_5_code, prog_3_method_6_code, prog_3_method_7_code, prog_3_method_8_code, prog_3_method_9_code, prog_3_method_10_code, prog_3_method_11_code, prog_3_method_12_code, prog_3_method_13_code, prog_3_method_14_code, prog_3_method_15_code, prog_4_method_1_code, prog_4_method_2_code, prog_4_method_3_code, prog_4_method_4_code, prog_4_method_5_code, prog_4_method_6_code, prog_5_method_1_code, prog_5_method_2_code, prog_5_method_3_code, prog_5_method_4_code, prog_5_method_5_code, prog_5_method_6_code, prog_5_method_7_code, prog_5_method_8_code, prog_6_method_1_code, prog_6_method_2_code, prog_6_method_3_code, prog_6_method_4_code, prog_6_method_5_code, prog_6_method_6_code, prog_7_method_1_code, prog_8_method_1_code, prog_8_method_2_code, prog_8_method_3_code, prog_8_method_4_code, prog_8_method_5_code, prog_8_method_6_code, prog_8_method_7_code, prog_8_method_8_code, prog_8_method_9_code, prog_8_method_10_code, prog_8_method_11_code, prog_8_method_12_code, prog_8_method_13_code, prog_8_method_14_code, prog_8_method_15_code, prog_9_method_1_code, prog_9_method_2_code, prog_9_method_3_code, prog_9_method_4_code, prog_9_method_5_code, prog_9_method_6_code, prog_10_method_1_code, prog_10_method_2_code, prog_10_method_3_code, prog_10_method_4_code, prog_10_method_5_code, prog_10_method_6_code, prog_10_method_7_code, prog_10_method_8_code, prog_10_method_9_code, prog_10_method_10_code, prog_10_method_11_code, prog_10_method_12_code, prog_10_method_13_code, prog_10_method_14_code, prog_10_method_15_code, prog_10_method_16_code, prog_11_method_1_code, prog_11_method_2_code, prog_11_method_3_code, prog_11_method_4_code, prog_11_method_5_code, prog_11_method_6_code, prog_11_method_7_code, prog_11_method_8_code, prog_11_method_9_code, prog_1_method_1_code, prog_1_method_2_code, prog_1_method_3_code, prog_1_method_4_code, prog_1_method_5_code, prog_1_method_6_code, prog_1_method_7_code, prog_1_method_8_code, prog_1_method_9_code, prog_1_method_10_code, prog_1_method_11_code, prog_1_method_12_code, prog_1_method_13_code, prog_1_method_14_code, prog_1_method_15_code, prog_1_method_16_code, prog_1_method_17_code, prog_1_method_18_code, prog_1_method_19_code, prog_1_method_20_code, prog_1_method_21_code, prog_1_method_22_code, prog_1_method_23_code, prog_1_method_24_code, prog_1_method_25_code, prog_1_method_26_code, prog_1_method_27_code, prog_1_method_28_code, prog_1_method_29_code, prog_13_method_1_code, prog_13_method_2_code, prog_13_method_3_code, prog_13_method_4_code, prog_13_method_5_code, prog_13_method_6_code, prog_13_method_7_code, prog_13_method_8_code, prog_13_method_9_code, prog_13_method_10_code, prog_13_method_11_code, prog_13_method_12_code, prog_13_method_13_code, prog_13_method_14_code, prog_13_method_15_code, prog_13_method_16_code, prog_13_method_17_code, prog_13_method_18_code, prog_13_method_19_code, prog_13_method_20_code, prog_13_method_21_code, prog_13_method_22_code, prog_13_method_23_code, prog_13_method_24_code, prog_13_method_25_code, prog_13_method_26_code, prog_13_method_27_code, prog_13_method_28_code, prog_13_method_29_code, prog_13_method_30_code, prog_13_method_31_code, prog_13_method_32_code, prog_13_method_33_code, prog_13_method_34_code, prog_13_method_35_code, prog_13_method_36_code, prog_13_method_37_code, prog_13_method_38_code, prog_13_method_39_code, prog_13_method_40_code, prog_13_method_41_code, prog_13_method_42_code, prog_13_method_43_code, prog_13_method_44_code, prog_13_method_45_code, prog_13_method_46_code, prog_13_method_47_code, prog_13_method_48_code, prog_13_method_49_code, prog_13_method_50_code, prog_13_method_51_code, prog_13_method_52_code, prog_13_method_53_code, prog_13_method_54_code, prog_13_method_55_code, method_2_code]
def bM (m : Nat) : ByteArray := (sm_nth bML m).getD ByteArray.empty
def lML : List Nat := [1, 1, 1, 1, 2, 5, 3, 1, 7, 2, 1, 2, 3, 3, 1, 2, 1, 1, 1, 1, 2, 2, 1, 6, 9, 6, 7, 5, 2, 1, 5, 4, 1, 3, 4, 2, 2, 1, 1, 2, 1, 2, 5, 1, 2, 1, 2, 1, 3, 1, 3, 1, 1, 5, 3, 2, 3, 2, 1, 2, 2, 1, 1, 3, 1, 2, 1, 2, 1, 2, 2, 2, 2, 2, 3, 5, 1, 2, 6, 2, 2, 5, 4, 2, 2, 3, 3, 9, 4, 4, 2, 3, 2, 1, 1, 2, 5, 3, 2, 3, 2, 2, 3, 2, 2, 2, 2, 2, 3, 1, 1, 2, 2, 3, 4, 3, 3, 1, 2, 2, 4, 5, 4, 9, 8, 9, 4, 1, 4, 5, 3, 4, 10, 7, 4, 8, 1, 6, 13, 7, 4, 2, 4, 2, 2, 4, 4, 2, 4, 5, 1, 1, 2, 6, 2, 2, 3, 8, 2, 4, 2, 4, 4, 6, 1, 4, 4, 3, 5, 2, 2, 4, 1, 2]
def lM (m : Nat) : Nat := (sm_nth lML m).getD 0
def rML : List (Option FieldType) := [(Option.none : Option Jvm.ClassFile.FieldType), (Option.some Jvm.ClassFile.FieldType.int), (Option.some Jvm.ClassFile.FieldType.boolean), (Option.some Jvm.ClassFile.FieldType.boolean), (Option.none : Option Jvm.ClassFile.FieldType), (Option.some Jvm.ClassFile.FieldType.boolean), (Option.some Jvm.ClassFile.FieldType.int), (Option.none : Option Jvm.ClassFile.FieldType), (Option.none : Option Jvm.ClassFile.FieldType), (Option.none : Option Jvm.ClassFile.FieldType), (Option.some Jvm.ClassFile.FieldType.int), (Option.some Jvm.ClassFile.FieldType.char), (Option.some Jvm.ClassFile.FieldType.boolean), (Option.some Jvm.ClassFile.FieldType.boolean), (Option.some Jvm.ClassFile.FieldType.boolean), (Option.some Jvm.ClassFile.FieldType.int), (Option.some Jvm.ClassFile.FieldType.boolean), (Option.some Jvm.ClassFile.FieldType.char), (Option.some Jvm.ClassFile.FieldType.int), (Option.some Jvm.ClassFile.FieldType.char), (Option.some Jvm.ClassFile.FieldType.boolean), (Option.some Jvm.ClassFile.FieldType.boolean), (Option.none : Option Jvm.ClassFile.FieldType), (Option.none : Option Jvm.ClassFile.FieldType), (Option.some Jvm.ClassFile.FieldType.int), (Option.none : Option Jvm.ClassFile.FieldType), (Option.some Jvm.ClassFile.FieldType.int), (Option.some Jvm.ClassFile.FieldType.int), (Option.none : Option Jvm.ClassFile.FieldType), (Option.some (Jvm.ClassFile.FieldType.object "SharedPages$Text")), (Option.some Jvm.ClassFile.FieldType.int), (Option.none : Option Jvm.ClassFile.FieldType), (Option.some Jvm.ClassFile.FieldType.boolean), (Option.none : Option Jvm.ClassFile.FieldType), (Option.none : Option Jvm.ClassFile.FieldType), (Option.none : Option Jvm.ClassFile.FieldType), (Option.none : Option Jvm.ClassFile.FieldType), (Option.some Jvm.ClassFile.FieldType.int), (Option.some (Jvm.ClassFile.FieldType.object "SharedPages$Revision")), (Option.some (Jvm.ClassFile.FieldType.object "SharedPages$Revision")), (Option.some Jvm.ClassFile.FieldType.boolean), (Option.some Jvm.ClassFile.FieldType.int), (Option.none : Option Jvm.ClassFile.FieldType), (Option.none : Option Jvm.ClassFile.FieldType), (Option.none : Option Jvm.ClassFile.FieldType), (Option.some Jvm.ClassFile.FieldType.int), (Option.some Jvm.ClassFile.FieldType.char), (Option.some Jvm.ClassFile.FieldType.boolean), (Option.none : Option Jvm.ClassFile.FieldType), (Option.none : Option Jvm.ClassFile.FieldType), (Option.none : Option Jvm.ClassFile.FieldType), (Option.none : Option Jvm.ClassFile.FieldType), (Option.none : Option Jvm.ClassFile.FieldType), (Option.none : Option Jvm.ClassFile.FieldType), (Option.none : Option Jvm.ClassFile.FieldType), (Option.none : Option Jvm.ClassFile.FieldType), (Option.none : Option Jvm.ClassFile.FieldType), (Option.none : Option Jvm.ClassFile.FieldType), (Option.none : Option Jvm.ClassFile.FieldType), (Option.none : Option Jvm.ClassFile.FieldType), (Option.none : Option Jvm.ClassFile.FieldType), (Option.none : Option Jvm.ClassFile.FieldType), (Option.none : Option Jvm.ClassFile.FieldType), (Option.some Jvm.ClassFile.FieldType.boolean), (Option.none : Option Jvm.ClassFile.FieldType), (Option.none : Option Jvm.ClassFile.FieldType), (Option.some Jvm.ClassFile.FieldType.int), (Option.some Jvm.ClassFile.FieldType.char), (Option.some Jvm.ClassFile.FieldType.int), (Option.some Jvm.ClassFile.FieldType.boolean), (Option.some Jvm.ClassFile.FieldType.int), (Option.some Jvm.ClassFile.FieldType.int), (Option.some Jvm.ClassFile.FieldType.int), (Option.some Jvm.ClassFile.FieldType.boolean), (Option.some Jvm.ClassFile.FieldType.boolean), (Option.none : Option Jvm.ClassFile.FieldType), (Option.none : Option Jvm.ClassFile.FieldType), (Option.none : Option Jvm.ClassFile.FieldType), (Option.some Jvm.ClassFile.FieldType.boolean), (Option.none : Option Jvm.ClassFile.FieldType), (Option.none : Option Jvm.ClassFile.FieldType), (Option.some Jvm.ClassFile.FieldType.int), (Option.some Jvm.ClassFile.FieldType.int), (Option.some Jvm.ClassFile.FieldType.int), (Option.some Jvm.ClassFile.FieldType.int), (Option.some Jvm.ClassFile.FieldType.int), (Option.some Jvm.ClassFile.FieldType.int), (Option.none : Option Jvm.ClassFile.FieldType), (Option.some Jvm.ClassFile.FieldType.char), (Option.none : Option Jvm.ClassFile.FieldType), (Option.some Jvm.ClassFile.FieldType.boolean), (Option.some Jvm.ClassFile.FieldType.boolean), (Option.some Jvm.ClassFile.FieldType.boolean), (Option.none : Option Jvm.ClassFile.FieldType), (Option.some Jvm.ClassFile.FieldType.int), (Option.some Jvm.ClassFile.FieldType.int), (Option.some Jvm.ClassFile.FieldType.int), (Option.some Jvm.ClassFile.FieldType.int), (Option.some Jvm.ClassFile.FieldType.int), (Option.some Jvm.ClassFile.FieldType.int), (Option.some Jvm.ClassFile.FieldType.int), (Option.some Jvm.ClassFile.FieldType.boolean), (Option.some Jvm.ClassFile.FieldType.int), (Option.some Jvm.ClassFile.FieldType.int), (Option.some Jvm.ClassFile.FieldType.int), (Option.some Jvm.ClassFile.FieldType.int), (Option.some Jvm.ClassFile.FieldType.int), (Option.some Jvm.ClassFile.FieldType.boolean), (Option.some Jvm.ClassFile.FieldType.int), (Option.some Jvm.ClassFile.FieldType.int), (Option.some Jvm.ClassFile.FieldType.boolean), (Option.some Jvm.ClassFile.FieldType.int), (Option.some Jvm.ClassFile.FieldType.boolean), (Option.some Jvm.ClassFile.FieldType.boolean), (Option.some (Jvm.ClassFile.FieldType.object "SharedPages$Revision")), (Option.some Jvm.ClassFile.FieldType.int), (Option.some Jvm.ClassFile.FieldType.int), (Option.none : Option Jvm.ClassFile.FieldType), (Option.none : Option Jvm.ClassFile.FieldType), (Option.some Jvm.ClassFile.FieldType.int), (Option.some Jvm.ClassFile.FieldType.int), (Option.some Jvm.ClassFile.FieldType.int), (Option.some Jvm.ClassFile.FieldType.int), (Option.some Jvm.ClassFile.FieldType.boolean), (Option.some Jvm.ClassFile.FieldType.boolean), (Option.none : Option Jvm.ClassFile.FieldType), (Option.none : Option Jvm.ClassFile.FieldType), (Option.some Jvm.ClassFile.FieldType.boolean), (Option.some Jvm.ClassFile.FieldType.int), (Option.some Jvm.ClassFile.FieldType.int), (Option.some Jvm.ClassFile.FieldType.boolean), (Option.some Jvm.ClassFile.FieldType.boolean), (Option.some Jvm.ClassFile.FieldType.int), (Option.some Jvm.ClassFile.FieldType.int), (Option.none : Option Jvm.ClassFile.FieldType), (Option.some Jvm.ClassFile.FieldType.int), (Option.none : Option Jvm.ClassFile.FieldType), (Option.some Jvm.ClassFile.FieldType.int), (Option.some Jvm.ClassFile.FieldType.boolean), (Option.none : Option Jvm.ClassFile.FieldType), (Option.some Jvm.ClassFile.FieldType.int), (Option.some Jvm.ClassFile.FieldType.int), (Option.some Jvm.ClassFile.FieldType.int), (Option.some Jvm.ClassFile.FieldType.int), (Option.some Jvm.ClassFile.FieldType.boolean), (Option.some Jvm.ClassFile.FieldType.int), (Option.some Jvm.ClassFile.FieldType.boolean), (Option.some Jvm.ClassFile.FieldType.boolean), (Option.some Jvm.ClassFile.FieldType.boolean), (Option.some Jvm.ClassFile.FieldType.boolean), (Option.none : Option Jvm.ClassFile.FieldType), (Option.some Jvm.ClassFile.FieldType.int), (Option.some Jvm.ClassFile.FieldType.int), (Option.some Jvm.ClassFile.FieldType.int), (Option.some Jvm.ClassFile.FieldType.boolean), (Option.some Jvm.ClassFile.FieldType.boolean), (Option.some Jvm.ClassFile.FieldType.boolean), (Option.some Jvm.ClassFile.FieldType.int), (Option.some Jvm.ClassFile.FieldType.int), (Option.some Jvm.ClassFile.FieldType.int), (Option.none : Option Jvm.ClassFile.FieldType), (Option.none : Option Jvm.ClassFile.FieldType), (Option.none : Option Jvm.ClassFile.FieldType), (Option.none : Option Jvm.ClassFile.FieldType), (Option.some Jvm.ClassFile.FieldType.int), (Option.none : Option Jvm.ClassFile.FieldType), (Option.some Jvm.ClassFile.FieldType.boolean), (Option.none : Option Jvm.ClassFile.FieldType), (Option.some Jvm.ClassFile.FieldType.int), (Option.some Jvm.ClassFile.FieldType.int), (Option.some Jvm.ClassFile.FieldType.boolean), (Option.some Jvm.ClassFile.FieldType.int), (Option.some Jvm.ClassFile.FieldType.int), (Option.some Jvm.ClassFile.FieldType.int)]
def rM (m : Nat) : Option FieldType := (sm_nth rML m).getD none
def oML : List Nat := [0, 0, 0, 0, 0, 0, 0, 1, 1, 1, 1, 1, 1, 1, 1, 1, 1, 1, 1, 1, 1, 1, 2, 2, 2, 2, 2, 2, 3, 3, 3, 3, 3, 3, 3, 3, 4, 4, 4, 4, 4, 4, 5, 6, 6, 6, 6, 6, 6, 6, 6, 6, 6, 6, 6, 6, 6, 6, 7, 7, 7, 7, 7, 7, 8, 8, 8, 8, 8, 8, 8, 8, 8, 8, 8, 8, 8, 8, 8, 8, 9, 9, 9, 9, 9, 9, 9, 9, 9, 10, 10, 10, 10, 10, 10, 10, 10, 10, 10, 10, 10, 10, 10, 10, 10, 10, 10, 10, 10, 10, 10, 10, 10, 10, 10, 10, 10, 10, 11, 11, 11, 11, 11, 11, 11, 11, 11, 11, 11, 11, 11, 11, 11, 11, 11, 11, 11, 11, 11, 11, 11, 11, 11, 11, 11, 11, 11, 11, 11, 11, 11, 11, 11, 11, 11, 11, 11, 11, 11, 11, 11, 11, 11, 11, 11, 11, 11, 11, 11, 11, 11, 11, 11, 12]
def oM (m : Nat) : Nat := (sm_nth oML m).getD 0
def mKL : List Nat := [2, 0, 0, 0, 0, 0, 0, 2, 0, 0, 0, 0, 0, 0, 0, 0, 0, 0, 0, 0, 0, 0, 2, 0, 0, 0, 0, 1, 2, 0, 0, 0, 0, 0, 0, 0, 2, 0, 0, 0, 0, 0, 2, 2, 0, 0, 0, 0, 0, 0, 0, 0, 0, 0, 0, 0, 0, 0, 2, 0, 0, 0, 0, 0, 2, 2, 0, 0, 0, 0, 0, 0, 0, 0, 0, 0, 0, 0, 0, 0, 2, 0, 0, 0, 0, 0, 0, 0, 0, 2, 0, 0, 0, 0, 0, 0, 0, 0, 0, 0, 0, 0, 0, 0, 0, 0, 0, 0, 0, 0, 1, 1, 0, 0, 0, 0, 0, 0, 2, 0, 0, 0, 0, 0, 0, 0, 0, 1, 0, 0, 0, 0, 0, 0, 0, 0, 0, 0, 0, 0, 0, 0, 0, 0, 0, 0, 0, 0, 0, 0, 0, 0, 0, 0, 0, 0, 0, 0, 0, 0, 0, 0, 0, 0, 0, 0, 0, 0, 0, 0, 0, 0, 0, 1]
def mK (m : Nat) : Nat := (sm_nth mKL m).getD 9
def mAL : List Nat := [1, 1, 1, 1, 2, 2, 2, 1, 4, 2, 1, 2, 3, 3, 1, 1, 1, 1, 1, 1, 2, 2, 1, 4, 3, 3, 5, 3, 2, 1, 4, 4, 1, 2, 3, 2, 2, 1, 1, 2, 1, 2, 5, 1, 2, 1, 2, 1, 2, 1, 3, 1, 1, 3, 2, 2, 2, 2, 1, 2, 2, 1, 1, 2, 1, 2, 1, 2, 1, 2, 2, 2, 2, 2, 3, 2, 1, 2, 4, 1, 2, 2, 2, 2, 2, 1, 1, 5, 3, 2, 2, 3, 2, 1, 1, 2, 3, 3, 2, 3, 2, 2, 3, 2, 2, 2, 2, 2, 2, 1, 1, 1, 2, 3, 3, 3, 3, 1, 2, 2, 2, 3, 3, 5, 7, 4, 4, 1, 2, 3, 2, 4, 4, 3, 3, 4, 1, 3, 3, 4, 3, 2, 3, 2, 2, 3, 3, 2, 3, 2, 1, 1, 2, 4, 2, 1, 3, 2, 2, 2, 2, 4, 4, 2, 1, 2, 1, 3, 2, 2, 2, 2, 1, 2]
def mA (m : Nat) : Nat := (sm_nth mAL m).getD 99
def mI (m : Nat) : Bool := decide (mK m = 2)
def mRL : List Nat := [4, 0, 1, 1, 4, 1, 0, 4, 4, 4, 0, 2, 1, 1, 1, 0, 1, 2, 0, 2, 1, 1, 4, 4, 0, 4, 0, 0, 4, 3, 0, 4, 1, 4, 4, 4, 4, 0, 3, 3, 1, 0, 4, 4, 4, 0, 2, 1, 4, 4, 4, 4, 4, 4, 4, 4, 4, 4, 4, 4, 4, 4, 4, 1, 4, 4, 0, 2, 0, 1, 0, 0, 0, 1, 1, 4, 4, 4, 1, 4, 4, 0, 0, 0, 0, 0, 0, 4, 2, 4, 1, 1, 1, 4, 0, 0, 0, 0, 0, 0, 0, 1, 0, 0, 0, 0, 0, 1, 0, 0, 1, 0, 1, 1, 3, 0, 0, 4, 4, 0, 0, 0, 0, 1, 1, 4, 4, 1, 0, 0, 1, 1, 0, 0, 4, 0, 4, 0, 1, 4, 0, 0, 0, 0, 1, 0, 1, 1, 1, 1, 4, 0, 0, 0, 1, 1, 1, 0, 0, 0, 4, 4, 4, 4, 0, 4, 1, 4, 0, 0, 1, 0, 0, 0]
def mR (m : Nat) : Nat := (sm_nth mRL m).getD 9
/-! the check of an instruction of the small machine against the decoded one. Wanted ahead: FLL, CLL, MLL, SLL, fN, fC, fF, RCL -/
def lk2 {α : Type} : List (Nat × Nat × α) → Nat → Nat → Option α
  | [], _, _ => none
  | (a, b, v) :: t, x, y => if a = x ∧ b = y then some v else lk2 t x y
theorem lk2_mem {α : Type} {x y : Nat} {v : α} : ∀ {l : List (Nat × Nat × α)}, lk2 l x y = some v → (x, y, v) ∈ l := by
  intro l
  induction l with
  | nil => intro h; cases h
  | cons q t ih =>
    obtain ⟨a, b, w⟩ := q
    intro h
    simp only [lk2] at h
    split at h
    · rename_i e
      obtain ⟨rfl, rfl⟩ := e
      cases h
      exact List.mem_cons_self
    · exact List.mem_cons_of_mem _ (ih h)
def lkB (a pc : Nat) (off : Int) : Bool := decide ((pc : Int) + off = (a : Int))
/-- oc: the number of the method's class; ini: is it a constructor; rt: its answer's code (0 int, 1 boolean, 2 char, 3 reference, 4 nothing) -/
def lkI (oc : Nat) (ini : Bool) (rt nL pc len : Nat) (i : Ins) (x : Instr) : Bool :=
  match i.1 with
  | 0 => match x with
    | .iconst v => decide (len = 1) && decide (Int32.ofInt v = i.2.1)
    | .bipush v => decide (len = 2) && decide ((Int8.ofInt v).toInt32 = i.2.1)
    | .sipush v => decide (len = 3) && decide ((Int16.ofInt v).toInt32 = i.2.1)
    | _ => false
  | 1 => match x with
    | .iload_n k => decide (len = 1) && decide ((k : Nat) = i.2.2.1)
    | .iload k => decide (len = 2) && decide (k = i.2.2.1)
    | _ => false
  | 2 => match x with
    | .aload_n k => decide (len = 1) && decide ((k : Nat) = i.2.2.1)
    | .aload k => decide (len = 2) && decide (k = i.2.2.1)
    | _ => false
  | 3 => match x with
    | .istore_n k => decide (len = 1) && decide ((k : Nat) = i.2.2.1) && decide (i.2.2.1 < nL)
    | .istore k => decide (len = 2) && decide (k = i.2.2.1) && decide (i.2.2.1 < nL)
    | _ => false
  | 4 => match x with
    | .astore_n k => decide (len = 1) && decide ((k : Nat) = i.2.2.1) && decide (i.2.2.1 < nL)
    | .astore k => decide (len = 2) && decide (k = i.2.2.1) && decide (i.2.2.1 < nL)
    | _ => false
  | 5 => match x with
    | .iinc k v => decide (len = 3) && decide (k = i.2.2.1) && decide (Int32.ofInt v = i.2.1) && decide (i.2.2.1 < nL)
    | _ => false
  | 6 => match x with
    | .iadd => decide (len = 1)
    | _ => false
  | 7 => match x with
    | .isub => decide (len = 1)
    | _ => false
  | 8 => match x with
    | .imul => decide (len = 1)
    | _ => false
  | 9 => match x with
    | .idiv => decide (len = 1)
    | _ => false
  | 10 => match x with
    | .irem => decide (len = 1)
    | _ => false
  | 11 => match x with
    | .iand => decide (len = 1)
    | _ => false
  | 12 => match x with
    | .ior => decide (len = 1)
    | _ => false
  | 13 => match x with
    | .ixor => decide (len = 1)
    | _ => false
  | 14 => match x with
    | .ishl => decide (len = 1)
    | _ => false
  | 15 => match x with
    | .ishr => decide (len = 1)
    | _ => false
  | 16 => match x with
    | .ineg => decide (len = 1)
    | _ => false
  | 17 => match x with
    | .i2c => decide (len = 1)
    | _ => false
  | 20 => match x with
    | .dup => decide (len = 1)
    | _ => false
  | 21 => match x with
    | .dup_x1 => decide (len = 1)
    | _ => false
  | 22 => match x with
    | .dup2 => decide (len = 1)
    | _ => false
  | 23 => match x with
    | .pop => decide (len = 1)
    | _ => false
  | 30 => match x with
    | .getfield j => decide (len = 3) && decide (lk2 FLL oc j = some (i.2.2.1, i.2.2.2.1)) && decide (fC i.2.2.1 i.2.2.2.1 ≠ 3)
    | _ => false
  | 31 => match x with
    | .getfield j => decide (len = 3) && decide (lk2 FLL oc j = some (i.2.2.1, i.2.2.2.1)) && decide (fC i.2.2.1 i.2.2.2.1 = 3)
    | _ => false
  | 32 => match x with
    | .putfield j => decide (len = 3) && decide (lk2 FLL oc j = some (i.2.2.1, i.2.2.2.1)) && decide (fC i.2.2.1 i.2.2.2.1 = i.2.2.2.2.getD 1 0) && decide (i.2.2.2.2.getD 1 0 < 3) && (!(fF i.2.2.1 i.2.2.2.1) || (ini && decide (oc = i.2.2.1)))
    | _ => false
  | 33 => match x with
    | .putfield j => decide (len = 3) && decide (lk2 FLL oc j = some (i.2.2.1, i.2.2.2.1)) && decide (fC i.2.2.1 i.2.2.2.1 = 3) && (!(fF i.2.2.1 i.2.2.2.1) || (ini && decide (oc = i.2.2.1)))
    | _ => false
  | 34 => match x with
    | .iaload => decide (len = 1)
    | _ => false
  | 35 => match x with
    | .caload => decide (len = 1)
    | _ => false
  | 36 => match x with
    | .baload => decide (len = 1)
    | _ => false
  | 37 => match x with
    | .aaload => decide (len = 1) && decide (i.2.2.1 ∈ RCL)
    | _ => false
  | 38 => match x with
    | .iastore => decide (len = 1)
    | _ => false
  | 39 => match x with
    | .castore => decide (len = 1)
    | _ => false
  | 40 => match x with
    | .bastore => decide (len = 1)
    | _ => false
  | 41 => match x with
    | .aastore => decide (len = 1) && decide (i.2.2.1 ∈ RCL)
    | _ => false
  | 42 => match x with
    | .newarray .int => decide (len = 2) && decide (i.2.2.1 = 1)
    | .newarray .char => decide (len = 2) && decide (i.2.2.1 = 2)
    | .newarray .boolean => decide (len = 2) && decide (i.2.2.1 = 3)
    | _ => false
  | 43 => match x with
    | .anewarray j => decide (len = 3) && decide (lk2 CLL oc j = some i.2.2.1) && decide (i.2.2.1 ∈ RCL)
    | _ => false
  | 44 => match x with
    | .new j => decide (len = 3) && decide (lk2 CLL oc j = some i.2.2.1) && decide (i.2.2.2.1 = fN i.2.2.1)
    | _ => false
  | 45 => match x with
    | .arraylength => decide (len = 1)
    | _ => false
  | 46 => match x with
    | .iaload => decide (len = 1)
    | _ => false
  | 47 => match x with
    | .goto off => decide (len = 3) && lkB i.2.2.1 pc off
    | _ => false
  | 48 => match x with
    | .ldc j => decide (len = 2) && decide (lk2 SLL oc j = some i.2.2.1)
    | _ => false
  | 49 => match x with
    | .invokestatic j => decide (len = 3) && decide (lk2 MLL oc j = some 1049)
    | _ => false
  | 50 => match x with
    | .invokestatic j => decide (len = 3) && decide (lk2 MLL oc j = some 1050)
    | _ => false
  | 51 => match x with
    | .invokestatic j => decide (len = 3) && decide (lk2 MLL oc j = some 1051)
    | _ => false
  | 52 => match x with
    | .invokespecial j => decide (len = 3) && decide (lk2 MLL oc j = some 1052)
    | _ => false
  | 53 => match x with
    | .aconst_null => decide (len = 1)
    | _ => false
  | 54 => match x with
    | .invokevirtual j => decide (len = 3) && decide (lk2 MLL oc j = some 1054)
    | _ => false
  | 55 => match x with
    | .invokevirtual j => decide (len = 3) && decide (lk2 MLL oc j = some 1055)
    | _ => false
  | 70 => match x with
    | .if_icmp .eq off => decide (len = 3) && lkB i.2.2.1 pc off
    | _ => false
  | 71 => match x with
    | .if_icmp .ne off => decide (len = 3) && lkB i.2.2.1 pc off
    | _ => false
  | 72 => match x with
    | .if_icmp .lt off => decide (len = 3) && lkB i.2.2.1 pc off
    | _ => false
  | 73 => match x with
    | .if_icmp .ge off => decide (len = 3) && lkB i.2.2.1 pc off
    | _ => false
  | 74 => match x with
    | .if_icmp .gt off => decide (len = 3) && lkB i.2.2.1 pc off
    | _ => false
  | 75 => match x with
    | .if_icmp .le off => decide (len = 3) && lkB i.2.2.1 pc off
    | _ => false
  | 80 => match x with
    | .ifCond .eq off => decide (len = 3) && lkB i.2.2.1 pc off
    | _ => false
  | 81 => match x with
    | .ifCond .ne off => decide (len = 3) && lkB i.2.2.1 pc off
    | _ => false
  | 82 => match x with
    | .ifCond .lt off => decide (len = 3) && lkB i.2.2.1 pc off
    | _ => false
  | 83 => match x with
    | .ifCond .ge off => decide (len = 3) && lkB i.2.2.1 pc off
    | _ => false
  | 84 => match x with
    | .ifCond .gt off => decide (len = 3) && lkB i.2.2.1 pc off
    | _ => false
  | 85 => match x with
    | .ifCond .le off => decide (len = 3) && lkB i.2.2.1 pc off
    | _ => false
  | 90 => match x with
    | .ifnull off => decide (len = 3) && lkB i.2.2.1 pc off
    | _ => false
  | 91 => match x with
    | .ifnonnull off => decide (len = 3) && lkB i.2.2.1 pc off
    | _ => false
  | 100 => match x with
    | .ireturn => decide (len = 1) && decide (rt = i.2.2.1) && decide (rt < 3)
    | _ => false
  | 101 => match x with
    | .areturn => decide (len = 1) && decide (rt = 3)
    | _ => false
  | 102 => match x with
    | .return_ => decide (len = 1) && decide (rt = 4)
    | _ => false
  | 110 => match x with
    | .invokevirtual j => decide (len = 3) && decide (lk2 MLL oc j = some i.2.2.1) && decide (mK i.2.2.1 = 0) && decide (i.2.2.2.1 = mA i.2.2.1)
    | .invokestatic j => decide (len = 3) && decide (lk2 MLL oc j = some i.2.2.1) && decide (mK i.2.2.1 = 1) && decide (i.2.2.2.1 = mA i.2.2.1)
    | .invokespecial j => decide (len = 3) && decide (lk2 MLL oc j = some i.2.2.1) && decide (mK i.2.2.1 = 2) && decide (i.2.2.2.1 = mA i.2.2.1)
    | _ => false
  | 120 => match x with
    | .tableswitch df lo hi offs => decide (lo = 0) && decide (hi + 1 = (offs.size : Int)) && lkB i.2.2.1 pc df && decide (i.2.2.2.2.length = offs.size) && (List.range offs.size).all (fun j => lkB (i.2.2.2.2.getD j 0) pc (offs.getD j 0))
    | _ => false
  | _ => false
def chkL (oc : Nat) (ini : Bool) (rt nL : Nat) (cc : ByteArray) : SC → Nat → Bool
  | [], _ => true
  | none :: t, pc => chkL oc ini rt nL cc t (pc + 1)
  | some (i, len) :: t, pc => (match decode cc pc with
    | .ok (x, n) => decide (n = len) && lkI oc ini rt nL pc len i x
    | .error _ => false) && chkL oc ini rt nL cc t (pc + 1)
theorem chkL_spec {oc : Nat} {ini : Bool} {rt nL : Nat} {cc : ByteArray} : ∀ (C : SC) (pc0 k : Nat) (i : Ins) (len : Nat), chkL oc ini rt nL cc C pc0 = true → sm_nth C k = some (some (i, len)) → ∃ x, decode cc (pc0 + k) = .ok (x, len) ∧ lkI oc ini rt nL (pc0 + k) len i x = true := by
  intro C
  induction C with
  | nil => intro pc0 k i len _ h; simp [sm_nth] at h
  | cons q t ih =>
    intro pc0 k i len hc h
    cases k with
    | zero =>
      simp only [sm_nth, Option.some.injEq] at h
      subst h
      simp only [chkL, Bool.and_eq_true] at hc
      have h1 := hc.1
      split at h1
      · rename_i x n hd
        simp only [Bool.and_eq_true, decide_eq_true_eq] at h1
        obtain ⟨rfl, h2⟩ := h1
        exact ⟨x, hd, h2⟩
      · cases h1
    | succ k =>
      simp only [sm_nth] at h
      have hc2 : chkL oc ini rt nL cc t (pc0 + 1) = true := by
        cases q with
        | none => exact hc
        | some q =>
          obtain ⟨i', len'⟩ := q
          simp only [chkL, Bool.and_eq_true] at hc
          exact hc.2
      have h3 := ih (pc0 + 1) k i len hc2 h
      rw [show pc0 + 1 + k = pc0 + (k + 1) by omega] at h3
      exact h3
