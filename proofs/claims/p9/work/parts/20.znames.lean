/-! The claim's own tables, written by a program out of claim/Statement.lean: classes, fields, words, methods. -/
def zfl : List (List (String × String × String × Bool)) := [[("DiodeLink", "nameAtHand", "LDiodeLink$Bytes;", true), ("DiodeLink", "dataAtHand", "LDiodeLink$Bytes;", true), ("DiodeLink", "sender", "LDiodeLink$Sender;", true), ("DiodeLink", "slots", "[LDiodeLink$Bytes;", true), ("DiodeLink", "rules", "LDiodeLink$Rules;", true), ("DiodeLink", "journal", "LDiodeLink$Journal;", true), ("DiodeLink", "receiver", "LDiodeLink$Receiver;", true), ("DiodeLink", "packetsSent", "I", false)],
  [("DiodeLink$Bytes", "row", "[I", true), ("DiodeLink$Bytes", "size", "I", false)],
  [("DiodeLink$Edition", "items", "[LDiodeLink$Bytes;", true), ("DiodeLink$Edition", "number", "I", false), ("DiodeLink$Edition", "itemCount", "I", false)],
  [("DiodeLink$Folder", "names", "[LDiodeLink$Bytes;", true), ("DiodeLink$Folder", "contents", "[LDiodeLink$Bytes;", true), ("DiodeLink$Folder", "editions", "[LDiodeLink$Edition;", true), ("DiodeLink$Folder", "files", "I", false), ("DiodeLink$Folder", "latest", "I", false)],
  [("DiodeLink$Journal", "numbers", "[I", true), ("DiodeLink$Journal", "links", "[J", true), ("DiodeLink$Journal", "linked", "LDiodeLink$Bytes;", true), ("DiodeLink$Journal", "entries", "I", false), ("DiodeLink$Journal", "linkBeforeKept", "J", false), ("DiodeLink$Journal", "latestLink", "J", false)],
  [("DiodeLink$Receiver", "known", "[LDiodeLink$Version;", true), ("DiodeLink$Receiver", "shown", "[LDiodeLink$Version;", true), ("DiodeLink$Receiver", "rows", "LDiodeLink$Rows;", true), ("DiodeLink$Receiver", "rules", "LDiodeLink$Rules;", true), ("DiodeLink$Receiver", "journal", "LDiodeLink$Journal;", true), ("DiodeLink$Receiver", "greatestLife", "I", false), ("DiodeLink$Receiver", "dropped", "I", false)],
  [("DiodeLink$Rows", "keys", "[I", true), ("DiodeLink$Rows", "masks", "[I", true), ("DiodeLink$Rows", "values", "[J", true), ("DiodeLink$Rows", "used", "I", false)],
  [("DiodeLink$Rules", "signs", "[Z", true), ("DiodeLink$Rules", "firsts", "[Z", true), ("DiodeLink$Rules", "mostBytes", "I", false), ("DiodeLink$Rules", "mostFiles", "I", false)],
  [("DiodeLink$Sender", "folders", "[LDiodeLink$Folder;", true), ("DiodeLink$Sender", "nextPlaces", "[I", true), ("DiodeLink$Sender", "life", "I", false), ("DiodeLink$Sender", "turn", "I", false)],
  [("DiodeLink$Version", "items", "[LDiodeLink$Bytes;", true), ("DiodeLink$Version", "solved", "[Z", true), ("DiodeLink$Version", "held", "[Z", true), ("DiodeLink$Version", "nameAt", "[I", true), ("DiodeLink$Version", "nameSizes", "[I", true), ("DiodeLink$Version", "fileSizes", "[I", true), ("DiodeLink$Version", "fileHashes", "[J", true), ("DiodeLink$Version", "number", "I", false), ("DiodeLink$Version", "state", "I", false), ("DiodeLink$Version", "files", "I", false), ("DiodeLink$Version", "good", "Z", false)],
  [("DiodeLinkModel", "thrown", "I", false), ("DiodeLinkModel", "named", "I", false), ("DiodeLinkModel", "given", "I", false), ("DiodeLinkModel", "name", "[I", true), ("DiodeLinkModel", "data", "[I", true), ("DiodeLinkModel", "files", "[I", true), ("DiodeLinkModel", "nameSize", "[I", true), ("DiodeLinkModel", "names", "[I", true), ("DiodeLinkModel", "fileSize", "[I", true), ("DiodeLinkModel", "fileData", "[I", true), ("DiodeLinkModel", "versions", "[I", true), ("DiodeLinkModel", "keptItems", "[I", true), ("DiodeLinkModel", "keptSize", "[I", true), ("DiodeLinkModel", "keptData", "[I", true), ("DiodeLinkModel", "life", "I", false), ("DiodeLinkModel", "turn", "I", false), ("DiodeLinkModel", "sent", "I", false), ("DiodeLinkModel", "goes", "[I", true), ("DiodeLinkModel", "slots", "[I", true), ("DiodeLinkModel", "filled", "[Z", true), ("DiodeLinkModel", "found", "[I", true), ("DiodeLinkModel", "greatest", "I", false), ("DiodeLinkModel", "known", "[I", true), ("DiodeLinkModel", "good", "[Z", true), ("DiodeLinkModel", "count", "[I", true), ("DiodeLinkModel", "verdict", "[I", true), ("DiodeLinkModel", "size", "[I", true), ("DiodeLinkModel", "solved", "[Z", true), ("DiodeLinkModel", "bytes", "[I", true), ("DiodeLinkModel", "held", "[Z", true), ("DiodeLinkModel", "rows", "I", false), ("DiodeLinkModel", "rowItem", "[I", true), ("DiodeLinkModel", "rowBlock", "[I", true), ("DiodeLinkModel", "rowMask", "[I", true), ("DiodeLinkModel", "rowBytes", "[J", true), ("DiodeLinkModel", "dropped", "I", false), ("DiodeLinkModel", "mostSize", "I", false), ("DiodeLinkModel", "mostFiles", "I", false), ("DiodeLinkModel", "badSign", "[Z", true), ("DiodeLinkModel", "badFirst", "[Z", true), ("DiodeLinkModel", "released", "[I", true), ("DiodeLinkModel", "releases", "[I", true), ("DiodeLinkModel", "earlier", "[I", true), ("DiodeLinkModel", "releasedFiles", "[I", true), ("DiodeLinkModel", "releasedNames", "[I", true), ("DiodeLinkModel", "releasedSize", "[I", true), ("DiodeLinkModel", "releasedData", "[I", true), ("DiodeLinkModel", "entries", "I", false), ("DiodeLinkModel", "before", "J", false), ("DiodeLinkModel", "entry", "[I", true), ("DiodeLinkModel", "links", "[J", true)]]
def zty : List (List FieldType) := [[.object "DiodeLink$Bytes", .object "DiodeLink$Bytes", .object "DiodeLink$Sender", .array (.object "DiodeLink$Bytes"), .object "DiodeLink$Rules", .object "DiodeLink$Journal", .object "DiodeLink$Receiver", .int],
  [.array (.int), .int],
  [.array (.object "DiodeLink$Bytes"), .int, .int],
  [.array (.object "DiodeLink$Bytes"), .array (.object "DiodeLink$Bytes"), .array (.object "DiodeLink$Edition"), .int, .int],
  [.array (.int), .array (.long), .object "DiodeLink$Bytes", .int, .long, .long],
  [.array (.object "DiodeLink$Version"), .array (.object "DiodeLink$Version"), .object "DiodeLink$Rows", .object "DiodeLink$Rules", .object "DiodeLink$Journal", .int, .int],
  [.array (.int), .array (.int), .array (.long), .int],
  [.array (.boolean), .array (.boolean), .int, .int],
  [.array (.object "DiodeLink$Folder"), .array (.int), .int, .int],
  [.array (.object "DiodeLink$Bytes"), .array (.boolean), .array (.boolean), .array (.int), .array (.int), .array (.int), .array (.long), .int, .int, .int, .boolean],
  [.int, .int, .int, .array (.int), .array (.int), .array (.int), .array (.int), .array (.int), .array (.int), .array (.int), .array (.int), .array (.int), .array (.int), .array (.int), .int, .int, .int, .array (.int), .array (.int), .array (.boolean), .array (.int), .int, .array (.int), .array (.boolean), .array (.int), .array (.int), .array (.int), .array (.boolean), .array (.int), .array (.boolean), .int, .array (.int), .array (.int), .array (.int), .array (.long), .int, .int, .int, .array (.boolean), .array (.boolean), .array (.int), .array (.int), .array (.int), .array (.int), .array (.int), .array (.int), .array (.int), .int, .long, .array (.int), .array (.long)]]
def zdf : List (List Value) := [[.null, .null, .null, .null, .null, .null, .null, .int 0],
  [.null, .int 0],
  [.null, .int 0, .int 0],
  [.null, .null, .null, .int 0, .int 0],
  [.null, .null, .null, .int 0, .long 0, .long 0],
  [.null, .null, .null, .null, .null, .int 0, .int 0],
  [.null, .null, .null, .int 0],
  [.null, .null, .int 0, .int 0],
  [.null, .null, .int 0, .int 0],
  [.null, .null, .null, .null, .null, .null, .null, .int 0, .int 0, .int 0, .int 0],
  [.int 0, .int 0, .int 0, .null, .null, .null, .null, .null, .null, .null, .null, .null, .null, .null, .int 0, .int 0, .int 0, .null, .null, .null, .null, .int 0, .null, .null, .null, .null, .null, .null, .null, .null, .int 0, .null, .null, .null, .null, .int 0, .int 0, .int 0, .null, .null, .null, .null, .null, .null, .null, .null, .null, .int 0, .long 0, .null, .null]]
def zT (ci : Nat) : u_T := fun k => (zfl.getD ci []).getD k ("", "", "", false)
def zcl : List vw_C := [("DiodeLink", zT 0, 8), ("DiodeLink$Bytes", zT 1, 2), ("DiodeLink$Edition", zT 2, 3), ("DiodeLink$Folder", zT 3, 5), ("DiodeLink$Journal", zT 4, 6), ("DiodeLink$Receiver", zT 5, 7), ("DiodeLink$Rows", zT 6, 4), ("DiodeLink$Rules", zT 7, 4), ("DiodeLink$Sender", zT 8, 4), ("DiodeLink$Version", zT 9, 11), ("DiodeLinkModel", zT 10, 51)]
def zfty : Nat → Nat → FieldType := fun ci k => (zty.getD ci []).getD k .int
def zfdef : Nat → List Value := fun ci => zdf.getD ci []
def zTs0 : List Cond := [
  Cond.laysFinal "DiodeLink" "DiodeLink" "nameAtHand" "LDiodeLink$Bytes;",
  Cond.laysFinal "DiodeLink" "DiodeLink" "dataAtHand" "LDiodeLink$Bytes;",
  Cond.laysFinal "DiodeLink" "DiodeLink" "sender" "LDiodeLink$Sender;",
  Cond.laysFinal "DiodeLink" "DiodeLink" "slots" "[LDiodeLink$Bytes;",
  Cond.laysFinal "DiodeLink" "DiodeLink" "rules" "LDiodeLink$Rules;",
  Cond.laysFinal "DiodeLink" "DiodeLink" "journal" "LDiodeLink$Journal;",
  Cond.laysFinal "DiodeLink" "DiodeLink" "receiver" "LDiodeLink$Receiver;",
  Cond.lays "DiodeLink" "DiodeLink" "packetsSent" "I",
  Cond.laysFinal "DiodeLink$Bytes" "DiodeLink$Bytes" "row" "[I",
  Cond.lays "DiodeLink$Bytes" "DiodeLink$Bytes" "size" "I",
  Cond.laysFinal "DiodeLink$Edition" "DiodeLink$Edition" "items" "[LDiodeLink$Bytes;",
  Cond.lays "DiodeLink$Edition" "DiodeLink$Edition" "number" "I",
  Cond.lays "DiodeLink$Edition" "DiodeLink$Edition" "itemCount" "I",
  Cond.laysFinal "DiodeLink$Folder" "DiodeLink$Folder" "names" "[LDiodeLink$Bytes;",
  Cond.laysFinal "DiodeLink$Folder" "DiodeLink$Folder" "contents" "[LDiodeLink$Bytes;",
  Cond.laysFinal "DiodeLink$Folder" "DiodeLink$Folder" "editions" "[LDiodeLink$Edition;",
  Cond.lays "DiodeLink$Folder" "DiodeLink$Folder" "files" "I",
  Cond.lays "DiodeLink$Folder" "DiodeLink$Folder" "latest" "I",
  Cond.laysFinal "DiodeLink$Journal" "DiodeLink$Journal" "numbers" "[I",
  Cond.laysFinal "DiodeLink$Journal" "DiodeLink$Journal" "links" "[J",
  Cond.laysFinal "DiodeLink$Journal" "DiodeLink$Journal" "linked" "LDiodeLink$Bytes;",
  Cond.lays "DiodeLink$Journal" "DiodeLink$Journal" "entries" "I",
  Cond.lays "DiodeLink$Journal" "DiodeLink$Journal" "linkBeforeKept" "J",
  Cond.lays "DiodeLink$Journal" "DiodeLink$Journal" "latestLink" "J",
  Cond.laysFinal "DiodeLink$Receiver" "DiodeLink$Receiver" "known" "[LDiodeLink$Version;",
  Cond.laysFinal "DiodeLink$Receiver" "DiodeLink$Receiver" "shown" "[LDiodeLink$Version;",
  Cond.laysFinal "DiodeLink$Receiver" "DiodeLink$Receiver" "rows" "LDiodeLink$Rows;",
  Cond.laysFinal "DiodeLink$Receiver" "DiodeLink$Receiver" "rules" "LDiodeLink$Rules;",
  Cond.laysFinal "DiodeLink$Receiver" "DiodeLink$Receiver" "journal" "LDiodeLink$Journal;",
  Cond.lays "DiodeLink$Receiver" "DiodeLink$Receiver" "greatestLife" "I",
  Cond.lays "DiodeLink$Receiver" "DiodeLink$Receiver" "dropped" "I",
  Cond.laysFinal "DiodeLink$Rows" "DiodeLink$Rows" "keys" "[I",
  Cond.laysFinal "DiodeLink$Rows" "DiodeLink$Rows" "masks" "[I",
  Cond.laysFinal "DiodeLink$Rows" "DiodeLink$Rows" "values" "[J",
  Cond.lays "DiodeLink$Rows" "DiodeLink$Rows" "used" "I",
  Cond.laysFinal "DiodeLink$Rules" "DiodeLink$Rules" "signs" "[Z",
  Cond.laysFinal "DiodeLink$Rules" "DiodeLink$Rules" "firsts" "[Z",
  Cond.lays "DiodeLink$Rules" "DiodeLink$Rules" "mostBytes" "I",
  Cond.lays "DiodeLink$Rules" "DiodeLink$Rules" "mostFiles" "I",
  Cond.laysFinal "DiodeLink$Sender" "DiodeLink$Sender" "folders" "[LDiodeLink$Folder;"]
def zTs1 : List Cond := [
  Cond.laysFinal "DiodeLink$Sender" "DiodeLink$Sender" "nextPlaces" "[I",
  Cond.lays "DiodeLink$Sender" "DiodeLink$Sender" "life" "I",
  Cond.lays "DiodeLink$Sender" "DiodeLink$Sender" "turn" "I",
  Cond.laysFinal "DiodeLink$Version" "DiodeLink$Version" "items" "[LDiodeLink$Bytes;",
  Cond.laysFinal "DiodeLink$Version" "DiodeLink$Version" "solved" "[Z",
  Cond.laysFinal "DiodeLink$Version" "DiodeLink$Version" "held" "[Z",
  Cond.laysFinal "DiodeLink$Version" "DiodeLink$Version" "nameAt" "[I",
  Cond.laysFinal "DiodeLink$Version" "DiodeLink$Version" "nameSizes" "[I",
  Cond.laysFinal "DiodeLink$Version" "DiodeLink$Version" "fileSizes" "[I",
  Cond.laysFinal "DiodeLink$Version" "DiodeLink$Version" "fileHashes" "[J",
  Cond.lays "DiodeLink$Version" "DiodeLink$Version" "number" "I",
  Cond.lays "DiodeLink$Version" "DiodeLink$Version" "state" "I",
  Cond.lays "DiodeLink$Version" "DiodeLink$Version" "files" "I",
  Cond.lays "DiodeLink$Version" "DiodeLink$Version" "good" "Z",
  Cond.lays "DiodeLinkModel" "DiodeLinkModel" "thrown" "I",
  Cond.lays "DiodeLinkModel" "DiodeLinkModel" "named" "I",
  Cond.lays "DiodeLinkModel" "DiodeLinkModel" "given" "I",
  Cond.laysFinal "DiodeLinkModel" "DiodeLinkModel" "name" "[I",
  Cond.laysFinal "DiodeLinkModel" "DiodeLinkModel" "data" "[I",
  Cond.laysFinal "DiodeLinkModel" "DiodeLinkModel" "files" "[I",
  Cond.laysFinal "DiodeLinkModel" "DiodeLinkModel" "nameSize" "[I",
  Cond.laysFinal "DiodeLinkModel" "DiodeLinkModel" "names" "[I",
  Cond.laysFinal "DiodeLinkModel" "DiodeLinkModel" "fileSize" "[I",
  Cond.laysFinal "DiodeLinkModel" "DiodeLinkModel" "fileData" "[I",
  Cond.laysFinal "DiodeLinkModel" "DiodeLinkModel" "versions" "[I",
  Cond.laysFinal "DiodeLinkModel" "DiodeLinkModel" "keptItems" "[I",
  Cond.laysFinal "DiodeLinkModel" "DiodeLinkModel" "keptSize" "[I",
  Cond.laysFinal "DiodeLinkModel" "DiodeLinkModel" "keptData" "[I",
  Cond.lays "DiodeLinkModel" "DiodeLinkModel" "life" "I",
  Cond.lays "DiodeLinkModel" "DiodeLinkModel" "turn" "I",
  Cond.lays "DiodeLinkModel" "DiodeLinkModel" "sent" "I",
  Cond.laysFinal "DiodeLinkModel" "DiodeLinkModel" "goes" "[I",
  Cond.laysFinal "DiodeLinkModel" "DiodeLinkModel" "slots" "[I",
  Cond.laysFinal "DiodeLinkModel" "DiodeLinkModel" "filled" "[Z",
  Cond.laysFinal "DiodeLinkModel" "DiodeLinkModel" "found" "[I",
  Cond.lays "DiodeLinkModel" "DiodeLinkModel" "greatest" "I",
  Cond.laysFinal "DiodeLinkModel" "DiodeLinkModel" "known" "[I",
  Cond.laysFinal "DiodeLinkModel" "DiodeLinkModel" "good" "[Z",
  Cond.laysFinal "DiodeLinkModel" "DiodeLinkModel" "count" "[I",
  Cond.laysFinal "DiodeLinkModel" "DiodeLinkModel" "verdict" "[I"]
def zTs2 : List Cond := [
  Cond.laysFinal "DiodeLinkModel" "DiodeLinkModel" "size" "[I",
  Cond.laysFinal "DiodeLinkModel" "DiodeLinkModel" "solved" "[Z",
  Cond.laysFinal "DiodeLinkModel" "DiodeLinkModel" "bytes" "[I",
  Cond.laysFinal "DiodeLinkModel" "DiodeLinkModel" "held" "[Z",
  Cond.lays "DiodeLinkModel" "DiodeLinkModel" "rows" "I",
  Cond.laysFinal "DiodeLinkModel" "DiodeLinkModel" "rowItem" "[I",
  Cond.laysFinal "DiodeLinkModel" "DiodeLinkModel" "rowBlock" "[I",
  Cond.laysFinal "DiodeLinkModel" "DiodeLinkModel" "rowMask" "[I",
  Cond.laysFinal "DiodeLinkModel" "DiodeLinkModel" "rowBytes" "[J",
  Cond.lays "DiodeLinkModel" "DiodeLinkModel" "dropped" "I",
  Cond.lays "DiodeLinkModel" "DiodeLinkModel" "mostSize" "I",
  Cond.lays "DiodeLinkModel" "DiodeLinkModel" "mostFiles" "I",
  Cond.laysFinal "DiodeLinkModel" "DiodeLinkModel" "badSign" "[Z",
  Cond.laysFinal "DiodeLinkModel" "DiodeLinkModel" "badFirst" "[Z",
  Cond.laysFinal "DiodeLinkModel" "DiodeLinkModel" "released" "[I",
  Cond.laysFinal "DiodeLinkModel" "DiodeLinkModel" "releases" "[I",
  Cond.laysFinal "DiodeLinkModel" "DiodeLinkModel" "earlier" "[I",
  Cond.laysFinal "DiodeLinkModel" "DiodeLinkModel" "releasedFiles" "[I",
  Cond.laysFinal "DiodeLinkModel" "DiodeLinkModel" "releasedNames" "[I",
  Cond.laysFinal "DiodeLinkModel" "DiodeLinkModel" "releasedSize" "[I",
  Cond.laysFinal "DiodeLinkModel" "DiodeLinkModel" "releasedData" "[I",
  Cond.lays "DiodeLinkModel" "DiodeLinkModel" "entries" "I",
  Cond.lays "DiodeLinkModel" "DiodeLinkModel" "before" "J",
  Cond.laysFinal "DiodeLinkModel" "DiodeLinkModel" "entry" "[I",
  Cond.laysFinal "DiodeLinkModel" "DiodeLinkModel" "links" "[J",
  Cond.methodLink "DiodeLink" 1 ⟨"java/lang/Object", "<init>", "()V"⟩,
  Cond.instanceMethod objectInit,
  Cond.code objectInit ⟨#[0xb1]⟩ 1 none,
  Cond.classLink "DiodeLink" 7 "DiodeLink$Bytes",
  Cond.instantiable "DiodeLink$Bytes" 2,
  Cond.initialized "DiodeLink$Bytes",
  Cond.methodLink "DiodeLink" 11 ⟨"DiodeLink$Bytes", "<init>", "(I)V"⟩,
  Cond.fieldLink "DiodeLink" 14 "DiodeLink" "nameAtHand" "LDiodeLink$Bytes;",
  Cond.fieldLink "DiodeLink" 18 "DiodeLink" "dataAtHand" "LDiodeLink$Bytes;",
  Cond.classLink "DiodeLink" 21 "DiodeLink$Sender",
  Cond.instantiable "DiodeLink$Sender" 4,
  Cond.initialized "DiodeLink$Sender",
  Cond.methodLink "DiodeLink" 23 ⟨"DiodeLink$Sender", "<init>", "()V"⟩,
  Cond.fieldLink "DiodeLink" 24 "DiodeLink" "sender" "LDiodeLink$Sender;",
  Cond.classLink "DiodeLink" 7 "DiodeLink$Bytes"]
def zTs3 : List Cond := [
  Cond.fieldLink "DiodeLink" 28 "DiodeLink" "slots" "[LDiodeLink$Bytes;",
  Cond.classLink "DiodeLink" 32 "DiodeLink$Rules",
  Cond.instantiable "DiodeLink$Rules" 4,
  Cond.initialized "DiodeLink$Rules",
  Cond.fieldLink "DiodeLink" 35 "DiodeLink" "rules" "LDiodeLink$Rules;",
  Cond.classLink "DiodeLink" 39 "DiodeLink$Journal",
  Cond.instantiable "DiodeLink$Journal" 6,
  Cond.initialized "DiodeLink$Journal",
  Cond.fieldLink "DiodeLink" 42 "DiodeLink" "journal" "LDiodeLink$Journal;",
  Cond.classLink "DiodeLink" 46 "DiodeLink$Receiver",
  Cond.instantiable "DiodeLink$Receiver" 7,
  Cond.initialized "DiodeLink$Receiver",
  Cond.methodLink "DiodeLink" 48 ⟨"DiodeLink$Receiver", "<init>", "(LDiodeLink$Rules;LDiodeLink$Journal;)V"⟩,
  Cond.fieldLink "DiodeLink" 51 "DiodeLink" "receiver" "LDiodeLink$Receiver;",
  Cond.fieldLink "DiodeLink" 55 "DiodeLink" "packetsSent" "I",
  Cond.methodLink "DiodeLink" 133 ⟨"DiodeLink", "checkSlot", "(I)V"⟩,
  Cond.classLink "DiodeLink" 59 "java/lang/IllegalArgumentException",
  Cond.initialized "java/lang/IllegalArgumentException",
  Cond.methodLink "DiodeLink" 144 ⟨"DiodeLink$Bytes", "turn", "(II)V"⟩,
  Cond.methodLink "DiodeLink" 82 ⟨"DiodeLink", "isFolder", "(I)Z"⟩,
  Cond.methodLink "DiodeLink" 66 ⟨"DiodeLink$Bytes", "size", "()I"⟩,
  Cond.constant "DiodeLink" 250 (Int32.ofInt (65535)),
  Cond.methodLink "DiodeLink" 113 ⟨"DiodeLink", "checkFolder", "(I)V"⟩,
  Cond.methodLink "DiodeLink" 116 ⟨"DiodeLink$Sender", "makeVersion", "(I)I"⟩,
  Cond.classLink "DiodeLink" 73 "java/lang/IllegalStateException",
  Cond.initialized "java/lang/IllegalStateException",
  Cond.methodLink "DiodeLink" 242 ⟨"DiodeLink$Receiver", "dropped", "()I"⟩,
  Cond.methodLink "DiodeLink" 245 ⟨"DiodeLink$Receiver", "allRows", "()I"⟩,
  Cond.methodLink "DiodeLink" 70 ⟨"DiodeLink$Bytes", "limit", "()I"⟩,
  Cond.methodLink "DiodeLink" 78 ⟨"DiodeLink$Bytes", "append", "(JI)V"⟩,
  Cond.methodLink "DiodeLink" 188 ⟨"DiodeLink$Receiver", "shown", "(I)LDiodeLink$Version;"⟩,
  Cond.methodLink "DiodeLink" 196 ⟨"DiodeLink$Version", "files", "()I"⟩,
  Cond.classLink "DiodeLink" 199 "java/lang/IndexOutOfBoundsException",
  Cond.initialized "java/lang/IndexOutOfBoundsException",
  Cond.methodLink "DiodeLink" 204 ⟨"DiodeLink$Version", "fileSize", "(I)I"⟩,
  Cond.methodLink "DiodeLink" 207 ⟨"DiodeLink$Version", "nameSize", "(I)I"⟩,
  Cond.methodLink "DiodeLink" 210 ⟨"DiodeLink$Version", "item", "(I)LDiodeLink$Bytes;"⟩,
  Cond.methodLink "DiodeLink" 214 ⟨"DiodeLink$Bytes", "at", "(I)I"⟩,
  Cond.methodLink "DiodeLink" 217 ⟨"DiodeLink$Version", "namePlace", "(I)I"⟩,
  Cond.methodLink "DiodeLink" 173 ⟨"DiodeLink", "checkVersion", "(II)V"⟩]
def zTs4 : List Cond := [
  Cond.methodLink "DiodeLink" 176 ⟨"DiodeLink$Receiver", "stateOf", "(II)I"⟩,
  Cond.methodLink "DiodeLink" 148 ⟨"DiodeLink$Receiver", "listen", "(LDiodeLink$Bytes;)I"⟩,
  Cond.methodLink "DiodeLink" 239 ⟨"DiodeLink$Journal", "linksHold", "()Z"⟩,
  Cond.methodLink "DiodeLink" 222 ⟨"DiodeLink$Journal", "entries", "()I"⟩,
  Cond.methodLink "DiodeLink" 225 ⟨"DiodeLink$Journal", "keeps", "(I)Z"⟩,
  Cond.methodLink "DiodeLink" 230 ⟨"DiodeLink$Journal", "link", "(I)J"⟩,
  Cond.methodLink "DiodeLink" 234 ⟨"DiodeLink$Journal", "number", "(II)I"⟩,
  Cond.methodLink "DiodeLink" 138 ⟨"DiodeLink$Bytes", "number", "(II)J"⟩,
  Cond.methodLink "DiodeLink" 181 ⟨"DiodeLink$Receiver", "rowsOf", "(IIII)I"⟩,
  Cond.methodLink "DiodeLink" 185 ⟨"DiodeLink$Receiver", "letOut", "(I)I"⟩,
  Cond.methodLink "DiodeLink" 192 ⟨"DiodeLink$Version", "number", "()I"⟩,
  Cond.methodLink "DiodeLink" 90 ⟨"DiodeLink$Sender", "folder", "(I)LDiodeLink$Folder;"⟩,
  Cond.methodLink "DiodeLink" 107 ⟨"DiodeLink$Folder", "takeOut", "(LDiodeLink$Bytes;)Z"⟩,
  Cond.methodLink "DiodeLink" 100 ⟨"DiodeLink$Bytes", "clear", "()V"⟩,
  Cond.methodLink "DiodeLink" 161 ⟨"DiodeLink$Receiver", "loseRows", "()V"⟩,
  Cond.methodLink "DiodeLink" 152 ⟨"DiodeLink$Sender", "beginLife", "()Z"⟩,
  Cond.methodLink "DiodeLink" 158 ⟨"DiodeLink$Sender", "life", "()I"⟩,
  Cond.methodLink "DiodeLink" 164 ⟨"DiodeLink$Rules", "greatestValue", "(I)I"⟩,
  Cond.methodLink "DiodeLink" 169 ⟨"DiodeLink$Rules", "set", "(IIZ)V"⟩,
  Cond.methodLink "DiodeLink" 122 ⟨"java/lang/Math", "floorMod", "(II)I"⟩,
  Cond.methodLink "DiodeLink" 128 ⟨"DiodeLink$Sender", "fillNext", "(LDiodeLink$Bytes;)Z"⟩,
  Cond.methodLink "DiodeLink" 236 ⟨"DiodeLink$Journal", "turn", "(III)V"⟩,
  Cond.methodLink "DiodeLink" 86 ⟨"DiodeLink$Bytes", "isName", "(II)Z"⟩,
  Cond.methodLink "DiodeLink" 94 ⟨"DiodeLink$Folder", "put", "(LDiodeLink$Bytes;LDiodeLink$Bytes;)I"⟩,
  Cond.methodLink "DiodeLink$Bytes" 3 ⟨"java/lang/Object", "<init>", "()V"⟩,
  Cond.instanceMethod objectInit,
  Cond.code objectInit ⟨#[0xb1]⟩ 1 none,
  Cond.fieldLink "DiodeLink$Bytes" 9 "DiodeLink$Bytes" "size" "I",
  Cond.arrayClass .int,
  Cond.fieldLink "DiodeLink$Bytes" 15 "DiodeLink$Bytes" "row" "[I",
  Cond.methodLink "DiodeLink$Bytes" 28 ⟨"DiodeLink$Bytes", "at", "(I)I"⟩,
  Cond.methodLink "DiodeLink$Bytes" 36 ⟨"DiodeLink$Bytes", "append", "(JI)V"⟩,
  Cond.methodLink "DiodeLink$Bytes" 54 ⟨"DiodeLink$Bytes", "compareParts", "(IILDiodeLink$Bytes;II)I"⟩,
  Cond.methodLink "DiodeLink$Bytes" 19 ⟨"java/lang/Math", "min", "(II)I"⟩,
  Cond.static ⟨"java/lang/Math", "min", "(II)I"⟩,
  Cond.initialized "java/lang/Math",
  Cond.code Lib.Math.min.name Lib.Math.min.code 2 (some .int),
  Cond.methodLink "DiodeLink$Bytes" 40 ⟨"DiodeLink$Bytes", "resize", "(I)V"⟩,
  Cond.methodLink "DiodeLink$Bytes" 44 ⟨"java/lang/System", "arraycopy", "(Ljava/lang/Object;ILjava/lang/Object;II)V"⟩,
  Cond.native ⟨"java/lang/System", "arraycopy", "(Ljava/lang/Object;ILjava/lang/Object;II)V"⟩]
def zTs5 : List Cond := [
  Cond.static ⟨"java/lang/System", "arraycopy", "(Ljava/lang/Object;ILjava/lang/Object;II)V"⟩,
  Cond.initialized "java/lang/System",
  Cond.constantLong "DiodeLink$Bytes" 50 (Int64.ofInt (-3750763034362895579)),
  Cond.constantLong "DiodeLink$Bytes" 52 (Int64.ofInt (1099511628211)),
  Cond.methodLink "DiodeLink$Bytes" 32 ⟨"DiodeLink$Bytes", "put", "(II)V"⟩,
  Cond.methodLink "DiodeLink$Bytes" 25 ⟨"java/lang/Math", "max", "(II)I"⟩,
  Cond.static ⟨"java/lang/Math", "max", "(II)I"⟩,
  Cond.initialized "java/lang/Math",
  Cond.code Lib.Math.max.name Lib.Math.max.code 2 (some .int),
  Cond.methodLink "DiodeLink$Cut" 9 ⟨"java/lang/Math", "max", "(II)I"⟩,
  Cond.static ⟨"java/lang/Math", "max", "(II)I"⟩,
  Cond.initialized "java/lang/Math",
  Cond.code Lib.Math.max.name Lib.Math.max.code 2 (some .int),
  Cond.constant "DiodeLink$Cut" 23 (Int32.ofInt (40503)),
  Cond.methodLink "DiodeLink$Cut" 18 ⟨"DiodeLink$Cut", "pieces", "(II)I"⟩,
  Cond.methodLink "DiodeLink$Cut" 15 ⟨"java/lang/Math", "min", "(II)I"⟩,
  Cond.static ⟨"java/lang/Math", "min", "(II)I"⟩,
  Cond.initialized "java/lang/Math",
  Cond.code Lib.Math.min.name Lib.Math.min.code 2 (some .int),
  Cond.methodLink "DiodeLink$Edition" 3 ⟨"java/lang/Object", "<init>", "()V"⟩,
  Cond.instanceMethod objectInit,
  Cond.code objectInit ⟨#[0xb1]⟩ 1 none,
  Cond.classLink "DiodeLink$Edition" 9 "DiodeLink$Bytes",
  Cond.fieldLink "DiodeLink$Edition" 11 "DiodeLink$Edition" "items" "[LDiodeLink$Bytes;",
  Cond.fieldLink "DiodeLink$Edition" 17 "DiodeLink$Edition" "number" "I",
  Cond.fieldLink "DiodeLink$Edition" 21 "DiodeLink$Edition" "itemCount" "I",
  Cond.classLink "DiodeLink$Edition" 9 "DiodeLink$Bytes",
  Cond.instantiable "DiodeLink$Bytes" 2,
  Cond.initialized "DiodeLink$Bytes",
  Cond.methodLink "DiodeLink$Edition" 24 ⟨"DiodeLink$Bytes", "<init>", "(I)V"⟩,
  Cond.methodLink "DiodeLink$Edition" 36 ⟨"DiodeLink$Bytes", "append", "(JI)V"⟩,
  Cond.methodLink "DiodeLink$Edition" 51 ⟨"DiodeLink$Bytes", "size", "()I"⟩,
  Cond.methodLink "DiodeLink$Edition" 61 ⟨"DiodeLink$Cut", "blocks", "(I)I"⟩,
  Cond.methodLink "DiodeLink$Edition" 67 ⟨"DiodeLink$Cut", "packets", "(II)I"⟩,
  Cond.methodLink "DiodeLink$Edition" 33 ⟨"DiodeLink$Bytes", "clear", "()V"⟩,
  Cond.methodLink "DiodeLink$Edition" 71 ⟨"DiodeLink$Edition", "appendPlace", "(LDiodeLink$Bytes;III)V"⟩,
  Cond.methodLink "DiodeLink$Edition" 75 ⟨"DiodeLink$Edition", "sum", "(III)J"⟩,
  Cond.methodLink "DiodeLink$Edition" 57 ⟨"DiodeLink$Bytes", "hash", "(I)J"⟩,
  Cond.methodLink "DiodeLink$Edition" 27 ⟨"DiodeLink$Folder", "files", "()I"⟩,
  Cond.methodLink "DiodeLink$Edition" 40 ⟨"DiodeLink$Folder", "content", "(I)LDiodeLink$Bytes;"⟩]
def zTs6 : List Cond := [
  Cond.methodLink "DiodeLink$Edition" 44 ⟨"DiodeLink$Bytes", "copyFrom", "(LDiodeLink$Bytes;)V"⟩,
  Cond.methodLink "DiodeLink$Edition" 48 ⟨"DiodeLink$Folder", "name", "(I)LDiodeLink$Bytes;"⟩,
  Cond.methodLink "DiodeLink$Edition" 54 ⟨"DiodeLink$Bytes", "appendAll", "(LDiodeLink$Bytes;)V"⟩,
  Cond.methodLink "DiodeLink$Edition" 79 ⟨"DiodeLink$Cut", "pieces", "(II)I"⟩,
  Cond.methodLink "DiodeLink$Edition" 82 ⟨"DiodeLink$Cut", "mask", "(IIIII)I"⟩,
  Cond.methodLink "DiodeLink$Edition" 86 ⟨"DiodeLink$Bytes", "number", "(II)J"⟩,
  Cond.methodLink "DiodeLink$Folder" 3 ⟨"java/lang/Object", "<init>", "()V"⟩,
  Cond.instanceMethod objectInit,
  Cond.code objectInit ⟨#[0xb1]⟩ 1 none,
  Cond.classLink "DiodeLink$Folder" 9 "DiodeLink$Bytes",
  Cond.fieldLink "DiodeLink$Folder" 11 "DiodeLink$Folder" "names" "[LDiodeLink$Bytes;",
  Cond.fieldLink "DiodeLink$Folder" 17 "DiodeLink$Folder" "contents" "[LDiodeLink$Bytes;",
  Cond.classLink "DiodeLink$Folder" 20 "DiodeLink$Edition",
  Cond.fieldLink "DiodeLink$Folder" 22 "DiodeLink$Folder" "editions" "[LDiodeLink$Edition;",
  Cond.fieldLink "DiodeLink$Folder" 26 "DiodeLink$Folder" "files" "I",
  Cond.fieldLink "DiodeLink$Folder" 30 "DiodeLink$Folder" "latest" "I",
  Cond.classLink "DiodeLink$Folder" 9 "DiodeLink$Bytes",
  Cond.instantiable "DiodeLink$Bytes" 2,
  Cond.initialized "DiodeLink$Bytes",
  Cond.methodLink "DiodeLink$Folder" 33 ⟨"DiodeLink$Bytes", "<init>", "(I)V"⟩,
  Cond.classLink "DiodeLink$Folder" 20 "DiodeLink$Edition",
  Cond.instantiable "DiodeLink$Edition" 3,
  Cond.initialized "DiodeLink$Edition",
  Cond.methodLink "DiodeLink$Folder" 36 ⟨"DiodeLink$Edition", "<init>", "()V"⟩,
  Cond.methodLink "DiodeLink$Folder" 57 ⟨"DiodeLink$Bytes", "compareAll", "(LDiodeLink$Bytes;)I"⟩,
  Cond.methodLink "DiodeLink$Folder" 53 ⟨"DiodeLink$Edition", "record", "(ILDiodeLink$Folder;)V"⟩,
  Cond.methodLink "DiodeLink$Folder" 37 ⟨"DiodeLink$Folder", "placeOf", "(LDiodeLink$Bytes;)I"⟩,
  Cond.methodLink "DiodeLink$Folder" 41 ⟨"DiodeLink$Folder", "isAt", "(ILDiodeLink$Bytes;)Z"⟩,
  Cond.methodLink "DiodeLink$Folder" 45 ⟨"DiodeLink$Folder", "moveFile", "(II)V"⟩,
  Cond.methodLink "DiodeLink$Folder" 49 ⟨"DiodeLink$Bytes", "copyFrom", "(LDiodeLink$Bytes;)V"⟩,
  Cond.methodLink "DiodeLink$Journal" 3 ⟨"java/lang/Object", "<init>", "()V"⟩,
  Cond.instanceMethod objectInit,
  Cond.code objectInit ⟨#[0xb1]⟩ 1 none,
  Cond.fieldLink "DiodeLink$Journal" 11 "DiodeLink$Journal" "numbers" "[I",
  Cond.arrayClass .long,
  Cond.fieldLink "DiodeLink$Journal" 15 "DiodeLink$Journal" "links" "[J",
  Cond.classLink "DiodeLink$Journal" 19 "DiodeLink$Bytes",
  Cond.instantiable "DiodeLink$Bytes" 2,
  Cond.initialized "DiodeLink$Bytes",
  Cond.methodLink "DiodeLink$Journal" 21 ⟨"DiodeLink$Bytes", "<init>", "(I)V"⟩]
def zTs7 : List Cond := [
  Cond.fieldLink "DiodeLink$Journal" 24 "DiodeLink$Journal" "linked" "LDiodeLink$Bytes;",
  Cond.fieldLink "DiodeLink$Journal" 28 "DiodeLink$Journal" "entries" "I",
  Cond.fieldLink "DiodeLink$Journal" 32 "DiodeLink$Journal" "linkBeforeKept" "J",
  Cond.fieldLink "DiodeLink$Journal" 36 "DiodeLink$Journal" "latestLink" "J",
  Cond.methodLink "DiodeLink$Journal" 60 ⟨"DiodeLink$Bytes", "clear", "()V"⟩,
  Cond.methodLink "DiodeLink$Journal" 63 ⟨"DiodeLink$Bytes", "append", "(JI)V"⟩,
  Cond.methodLink "DiodeLink$Journal" 67 ⟨"DiodeLink$Journal", "number", "(II)I"⟩,
  Cond.methodLink "DiodeLink$Journal" 70 ⟨"DiodeLink$Bytes", "hash", "(I)J"⟩,
  Cond.methodLink "DiodeLink$Journal" 47 ⟨"DiodeLink$Journal", "link", "(I)J"⟩,
  Cond.methodLink "DiodeLink$Journal" 43 ⟨"DiodeLink$Journal", "place", "(II)I"⟩,
  Cond.methodLink "DiodeLink$Journal" 51 ⟨"DiodeLink$Journal", "dueLink", "(JI)J"⟩,
  Cond.methodLink "DiodeLink$Journal" 55 ⟨"java/lang/Math", "max", "(II)I"⟩,
  Cond.static ⟨"java/lang/Math", "max", "(II)I"⟩,
  Cond.initialized "java/lang/Math",
  Cond.code Lib.Math.max.name Lib.Math.max.code 2 (some .int),
  Cond.methodLink "DiodeLink$Journal" 39 ⟨"DiodeLink$Journal", "firstKept", "()I"⟩,
  Cond.methodLink "DiodeLink$Receiver" 3 ⟨"java/lang/Object", "<init>", "()V"⟩,
  Cond.instanceMethod objectInit,
  Cond.code objectInit ⟨#[0xb1]⟩ 1 none,
  Cond.classLink "DiodeLink$Receiver" 11 "DiodeLink$Version",
  Cond.fieldLink "DiodeLink$Receiver" 13 "DiodeLink$Receiver" "known" "[LDiodeLink$Version;",
  Cond.fieldLink "DiodeLink$Receiver" 17 "DiodeLink$Receiver" "shown" "[LDiodeLink$Version;",
  Cond.classLink "DiodeLink$Receiver" 20 "DiodeLink$Rows",
  Cond.instantiable "DiodeLink$Rows" 4,
  Cond.initialized "DiodeLink$Rows",
  Cond.fieldLink "DiodeLink$Receiver" 23 "DiodeLink$Receiver" "rows" "LDiodeLink$Rows;",
  Cond.fieldLink "DiodeLink$Receiver" 27 "DiodeLink$Receiver" "greatestLife" "I",
  Cond.fieldLink "DiodeLink$Receiver" 31 "DiodeLink$Receiver" "dropped" "I",
  Cond.fieldLink "DiodeLink$Receiver" 34 "DiodeLink$Receiver" "rules" "LDiodeLink$Rules;",
  Cond.fieldLink "DiodeLink$Receiver" 38 "DiodeLink$Receiver" "journal" "LDiodeLink$Journal;",
  Cond.classLink "DiodeLink$Receiver" 11 "DiodeLink$Version",
  Cond.instantiable "DiodeLink$Version" 11,
  Cond.initialized "DiodeLink$Version",
  Cond.methodLink "DiodeLink$Receiver" 42 ⟨"DiodeLink$Version", "<init>", "()V"⟩,
  Cond.methodLink "DiodeLink$Receiver" 43 ⟨"DiodeLink$Rows", "used", "()I"⟩,
  Cond.methodLink "DiodeLink$Receiver" 54 ⟨"DiodeLink$Bytes", "at", "(I)I"⟩,
  Cond.methodLink "DiodeLink$Receiver" 60 ⟨"DiodeLink$Bytes", "number", "(II)J"⟩,
  Cond.methodLink "DiodeLink$Receiver" 163 ⟨"DiodeLink$Cut", "blocks", "(I)I"⟩,
  Cond.methodLink "DiodeLink$Receiver" 168 ⟨"DiodeLink$Cut", "packets", "(II)I"⟩,
  Cond.methodLink "DiodeLink$Receiver" 171 ⟨"DiodeLink$Receiver", "leastOf", "(I)LDiodeLink$Version;"⟩]
def zTs8 : List Cond := [
  Cond.methodLink "DiodeLink$Receiver" 92 ⟨"DiodeLink$Version", "number", "()I"⟩,
  Cond.methodLink "DiodeLink$Receiver" 101 ⟨"DiodeLink$Rows", "owner", "(II)I"⟩,
  Cond.methodLink "DiodeLink$Receiver" 105 ⟨"DiodeLink$Rows", "key", "(III)I"⟩,
  Cond.methodLink "DiodeLink$Receiver" 180 ⟨"DiodeLink$Rows", "drop", "(II)V"⟩,
  Cond.methodLink "DiodeLink$Receiver" 112 ⟨"DiodeLink$Receiver", "knownAt", "(II)LDiodeLink$Version;"⟩,
  Cond.methodLink "DiodeLink$Receiver" 248 ⟨"DiodeLink$Version", "clearItem", "(I)V"⟩,
  Cond.methodLink "DiodeLink$Receiver" 251 ⟨"DiodeLink$Receiver", "dropItemRows", "(LDiodeLink$Version;II)V"⟩,
  Cond.methodLink "DiodeLink$Receiver" 128 ⟨"java/lang/Math", "max", "(II)I"⟩,
  Cond.static ⟨"java/lang/Math", "max", "(II)I"⟩,
  Cond.initialized "java/lang/Math",
  Cond.code Lib.Math.max.name Lib.Math.max.code 2 (some .int),
  Cond.methodLink "DiodeLink$Receiver" 187 ⟨"DiodeLink$Version", "hasSolved", "(I)Z"⟩,
  Cond.methodLink "DiodeLink$Receiver" 109 ⟨"DiodeLink$Rows", "rowsIn", "(II)I"⟩,
  Cond.methodLink "DiodeLink$Receiver" 190 ⟨"DiodeLink$Version", "item", "(I)LDiodeLink$Bytes;"⟩,
  Cond.methodLink "DiodeLink$Receiver" 194 ⟨"DiodeLink$Bytes", "size", "()I"⟩,
  Cond.methodLink "DiodeLink$Receiver" 242 ⟨"DiodeLink$Version", "files", "()I"⟩,
  Cond.methodLink "DiodeLink$Receiver" 254 ⟨"DiodeLink$Receiver", "holdByOther", "(III)Z"⟩,
  Cond.methodLink "DiodeLink$Receiver" 258 ⟨"DiodeLink$Version", "holds", "(I)Z"⟩,
  Cond.methodLink "DiodeLink$Receiver" 261 ⟨"DiodeLink$Version", "heldLike", "(LDiodeLink$Version;I)I"⟩,
  Cond.methodLink "DiodeLink$Receiver" 265 ⟨"DiodeLink$Version", "holdCopy", "(ILDiodeLink$Bytes;)V"⟩,
  Cond.methodLink "DiodeLink$Receiver" 274 ⟨"DiodeLink$Rules", "brokenBy", "(ILDiodeLink$Version;)I"⟩,
  Cond.methodLink "DiodeLink$Receiver" 115 ⟨"DiodeLink$Version", "become", "(I)V"⟩,
  Cond.methodLink "DiodeLink$Receiver" 122 ⟨"DiodeLink$Journal", "enter", "(IIII)V"⟩,
  Cond.methodLink "DiodeLink$Receiver" 213 ⟨"DiodeLink$Bytes", "resize", "(I)V"⟩,
  Cond.methodLink "DiodeLink$Receiver" 150 ⟨"DiodeLink$Receiver", "maskOf", "(LDiodeLink$Bytes;)I"⟩,
  Cond.methodLink "DiodeLink$Receiver" 216 ⟨"DiodeLink$Rows", "add", "(IIJ)V"⟩,
  Cond.methodLink "DiodeLink$Receiver" 200 ⟨"DiodeLink$Receiver", "piecesOf", "(LDiodeLink$Bytes;)I"⟩,
  Cond.methodLink "DiodeLink$Receiver" 220 ⟨"DiodeLink$Rows", "piece", "(II)J"⟩,
  Cond.methodLink "DiodeLink$Receiver" 223 ⟨"DiodeLink$Bytes", "putNumber", "(IJI)V"⟩,
  Cond.methodLink "DiodeLink$Receiver" 227 ⟨"DiodeLink$Version", "solve", "(II)V"⟩,
  Cond.methodLink "DiodeLink$Receiver" 64 ⟨"DiodeLink$Receiver", "find", "(II)LDiodeLink$Version;"⟩,
  Cond.methodLink "DiodeLink$Receiver" 174 ⟨"DiodeLink$Rows", "firstKey", "(I)I"⟩,
  Cond.methodLink "DiodeLink$Receiver" 177 ⟨"DiodeLink$Rows", "lastKey", "(I)I"⟩,
  Cond.methodLink "DiodeLink$Receiver" 184 ⟨"DiodeLink$Version", "begin", "(I)V"⟩,
  Cond.methodLink "DiodeLink$Receiver" 94 ⟨"DiodeLink$Version", "state", "()I"⟩,
  Cond.methodLink "DiodeLink$Receiver" 269 ⟨"DiodeLink$Version", "isWhole", "()Z"⟩,
  Cond.methodLink "DiodeLink$Receiver" 118 ⟨"DiodeLink$Version", "showFrom", "(LDiodeLink$Version;)V"⟩,
  Cond.methodLink "DiodeLink$Receiver" 50 ⟨"DiodeLink$Receiver", "whyDropped", "(LDiodeLink$Bytes;)I"⟩,
  Cond.methodLink "DiodeLink$Receiver" 68 ⟨"DiodeLink$Receiver", "keepRow", "(LDiodeLink$Version;ILDiodeLink$Bytes;)Z"⟩,
  Cond.methodLink "DiodeLink$Receiver" 72 ⟨"DiodeLink$Version", "isComplete", "(I)Z"⟩]
def zTs9 : List Cond := [
  Cond.methodLink "DiodeLink$Receiver" 76 ⟨"DiodeLink$Receiver", "lookAt", "(LDiodeLink$Version;II)V"⟩,
  Cond.methodLink "DiodeLink$Receiver" 80 ⟨"DiodeLink$Receiver", "holdAlike", "(I)V"⟩,
  Cond.methodLink "DiodeLink$Receiver" 84 ⟨"DiodeLink$Receiver", "leastToJudge", "(I)LDiodeLink$Version;"⟩,
  Cond.methodLink "DiodeLink$Receiver" 88 ⟨"DiodeLink$Receiver", "judge", "(LDiodeLink$Version;I)V"⟩,
  Cond.methodLink "DiodeLink$Receiver" 230 ⟨"DiodeLink$Version", "isGood", "()Z"⟩,
  Cond.methodLink "DiodeLink$Receiver" 233 ⟨"DiodeLink$Receiver", "lookAtFile", "(LDiodeLink$Version;II)V"⟩,
  Cond.methodLink "DiodeLink$Receiver" 236 ⟨"DiodeLink$Version", "readManifest", "()Z"⟩,
  Cond.methodLink "DiodeLink$Receiver" 239 ⟨"DiodeLink$Receiver", "forgetItem", "(LDiodeLink$Version;II)V"⟩,
  Cond.methodLink "DiodeLink$Receiver" 245 ⟨"DiodeLink$Version", "holdIfRight", "(I)Z"⟩,
  Cond.methodLink "DiodeLink$Receiver" 47 ⟨"DiodeLink$Rows", "dropAll", "()V"⟩,
  Cond.methodLink "DiodeLink$Receiver" 207 ⟨"DiodeLink$Rows", "ownerAt", "(I)I"⟩,
  Cond.methodLink "DiodeLink$Receiver" 210 ⟨"DiodeLink$Receiver", "greatestOf", "(I)I"⟩,
  Cond.methodLink "DiodeLink$Receiver" 203 ⟨"DiodeLink$Cut", "mask", "(IIIII)I"⟩,
  Cond.methodLink "DiodeLink$Receiver" 197 ⟨"DiodeLink$Cut", "pieces", "(II)I"⟩,
  Cond.methodLink "DiodeLink$Receiver" 97 ⟨"DiodeLink$Version", "isSolved", "(II)Z"⟩,
  Cond.methodLink "DiodeLink$Receiver" 133 ⟨"DiodeLink$Bytes", "hash", "(I)J"⟩,
  Cond.methodLink "DiodeLink$Receiver" 137 ⟨"DiodeLink$Receiver", "noteLife", "(I)V"⟩,
  Cond.methodLink "DiodeLink$Receiver" 140 ⟨"DiodeLink$Receiver", "canBe", "(LDiodeLink$Bytes;)Z"⟩,
  Cond.methodLink "DiodeLink$Receiver" 144 ⟨"DiodeLink$Receiver", "learn", "(II)LDiodeLink$Version;"⟩,
  Cond.methodLink "DiodeLink$Receiver" 147 ⟨"DiodeLink$Receiver", "hasOtherSize", "(LDiodeLink$Version;ILDiodeLink$Bytes;)Z"⟩,
  Cond.methodLink "DiodeLink$Receiver" 153 ⟨"DiodeLink$Rows", "tells", "(II)Z"⟩,
  Cond.methodLink "DiodeLink$Receiver" 156 ⟨"DiodeLink$Rows", "isFull", "()Z"⟩,
  Cond.methodLink "DiodeLink$Receiver" 160 ⟨"DiodeLink$Receiver", "makeRoom", "()Z"⟩,
  Cond.methodLink "DiodeLink$Rows" 3 ⟨"java/lang/Object", "<init>", "()V"⟩,
  Cond.instanceMethod objectInit,
  Cond.code objectInit ⟨#[0xb1]⟩ 1 none,
  Cond.fieldLink "DiodeLink$Rows" 11 "DiodeLink$Rows" "keys" "[I",
  Cond.fieldLink "DiodeLink$Rows" 15 "DiodeLink$Rows" "masks" "[I",
  Cond.fieldLink "DiodeLink$Rows" 18 "DiodeLink$Rows" "values" "[J",
  Cond.fieldLink "DiodeLink$Rows" 22 "DiodeLink$Rows" "used" "I",
  Cond.methodLink "DiodeLink$Rows" 30 ⟨"DiodeLink$Rows", "isFull", "()Z"⟩,
  Cond.methodLink "DiodeLink$Rows" 26 ⟨"DiodeLink$Rows", "hasPivotIn", "(III)Z"⟩,
  Cond.methodLink "DiodeLink$Rules" 3 ⟨"java/lang/Object", "<init>", "()V"⟩,
  Cond.instanceMethod objectInit,
  Cond.code objectInit ⟨#[0xb1]⟩ 1 none,
  Cond.arrayClass .boolean,
  Cond.fieldLink "DiodeLink$Rules" 11 "DiodeLink$Rules" "signs" "[Z",
  Cond.fieldLink "DiodeLink$Rules" 15 "DiodeLink$Rules" "firsts" "[Z",
  Cond.fieldLink "DiodeLink$Rules" 18 "DiodeLink$Rules" "mostBytes" "I",
  Cond.fieldLink "DiodeLink$Rules" 22 "DiodeLink$Rules" "mostFiles" "I"]
def zTs10 : List Cond := [
  Cond.methodLink "DiodeLink$Rules" 25 ⟨"DiodeLink$Version", "files", "()I"⟩,
  Cond.methodLink "DiodeLink$Rules" 31 ⟨"DiodeLink$Rules", "isBrokenByFile", "(ILDiodeLink$Version;I)Z"⟩,
  Cond.methodLink "DiodeLink$Rules" 43 ⟨"DiodeLink$Version", "item", "(I)LDiodeLink$Bytes;"⟩,
  Cond.methodLink "DiodeLink$Rules" 52 ⟨"DiodeLink$Version", "namePlace", "(I)I"⟩,
  Cond.methodLink "DiodeLink$Rules" 55 ⟨"DiodeLink$Version", "nameSize", "(I)I"⟩,
  Cond.methodLink "DiodeLink$Rules" 47 ⟨"DiodeLink$Bytes", "at", "(I)I"⟩,
  Cond.methodLink "DiodeLink$Rules" 35 ⟨"DiodeLink$Version", "fileSize", "(I)I"⟩,
  Cond.methodLink "DiodeLink$Rules" 39 ⟨"DiodeLink$Rules", "hasBadSign", "(LDiodeLink$Version;I)Z"⟩,
  Cond.methodLink "DiodeLink$Sender" 3 ⟨"java/lang/Object", "<init>", "()V"⟩,
  Cond.instanceMethod objectInit,
  Cond.code objectInit ⟨#[0xb1]⟩ 1 none,
  Cond.classLink "DiodeLink$Sender" 9 "DiodeLink$Folder",
  Cond.fieldLink "DiodeLink$Sender" 11 "DiodeLink$Sender" "folders" "[LDiodeLink$Folder;",
  Cond.fieldLink "DiodeLink$Sender" 17 "DiodeLink$Sender" "nextPlaces" "[I",
  Cond.fieldLink "DiodeLink$Sender" 21 "DiodeLink$Sender" "life" "I",
  Cond.fieldLink "DiodeLink$Sender" 25 "DiodeLink$Sender" "turn" "I",
  Cond.classLink "DiodeLink$Sender" 9 "DiodeLink$Folder",
  Cond.instantiable "DiodeLink$Folder" 5,
  Cond.initialized "DiodeLink$Folder",
  Cond.methodLink "DiodeLink$Sender" 28 ⟨"DiodeLink$Folder", "<init>", "()V"⟩,
  Cond.methodLink "DiodeLink$Sender" 29 ⟨"DiodeLink$Sender", "beginRounds", "()V"⟩,
  Cond.methodLink "DiodeLink$Sender" 44 ⟨"DiodeLink$Sender", "oldestAge", "(I)I"⟩,
  Cond.methodLink "DiodeLink$Sender" 47 ⟨"DiodeLink$Sender", "youngestAge", "(I)I"⟩,
  Cond.methodLink "DiodeLink$Sender" 50 ⟨"DiodeLink$Folder", "edition", "(I)LDiodeLink$Edition;"⟩,
  Cond.methodLink "DiodeLink$Sender" 54 ⟨"DiodeLink$Edition", "packets", "()I"⟩,
  Cond.methodLink "DiodeLink$Sender" 59 ⟨"DiodeLink$Edition", "fillPacket", "(LDiodeLink$Bytes;III)V"⟩,
  Cond.methodLink "DiodeLink$Sender" 36 ⟨"DiodeLink$Sender", "packetsOf", "(I)I"⟩,
  Cond.methodLink "DiodeLink$Sender" 40 ⟨"DiodeLink$Sender", "fillFrom", "(LDiodeLink$Bytes;II)V"⟩,
  Cond.methodLink "DiodeLink$Sender" 32 ⟨"DiodeLink$Folder", "makeVersion", "()I"⟩,
  Cond.methodLink "DiodeLink$Version" 3 ⟨"java/lang/Object", "<init>", "()V"⟩,
  Cond.instanceMethod objectInit,
  Cond.code objectInit ⟨#[0xb1]⟩ 1 none,
  Cond.classLink "DiodeLink$Version" 9 "DiodeLink$Bytes",
  Cond.fieldLink "DiodeLink$Version" 11 "DiodeLink$Version" "items" "[LDiodeLink$Bytes;",
  Cond.fieldLink "DiodeLink$Version" 17 "DiodeLink$Version" "solved" "[Z",
  Cond.fieldLink "DiodeLink$Version" 21 "DiodeLink$Version" "held" "[Z",
  Cond.fieldLink "DiodeLink$Version" 24 "DiodeLink$Version" "nameAt" "[I",
  Cond.fieldLink "DiodeLink$Version" 28 "DiodeLink$Version" "nameSizes" "[I",
  Cond.fieldLink "DiodeLink$Version" 31 "DiodeLink$Version" "fileSizes" "[I",
  Cond.fieldLink "DiodeLink$Version" 34 "DiodeLink$Version" "fileHashes" "[J"]
def zTs11 : List Cond := [
  Cond.fieldLink "DiodeLink$Version" 38 "DiodeLink$Version" "number" "I",
  Cond.fieldLink "DiodeLink$Version" 42 "DiodeLink$Version" "state" "I",
  Cond.fieldLink "DiodeLink$Version" 45 "DiodeLink$Version" "files" "I",
  Cond.fieldLink "DiodeLink$Version" 48 "DiodeLink$Version" "good" "Z",
  Cond.classLink "DiodeLink$Version" 9 "DiodeLink$Bytes",
  Cond.instantiable "DiodeLink$Bytes" 2,
  Cond.initialized "DiodeLink$Bytes",
  Cond.methodLink "DiodeLink$Version" 52 ⟨"DiodeLink$Bytes", "<init>", "(I)V"⟩,
  Cond.methodLink "DiodeLink$Version" 55 ⟨"DiodeLink$Version", "clearItem", "(I)V"⟩,
  Cond.methodLink "DiodeLink$Version" 58 ⟨"DiodeLink$Bytes", "clear", "()V"⟩,
  Cond.methodLink "DiodeLink$Version" 61 ⟨"DiodeLink$Version", "isSolved", "(II)Z"⟩,
  Cond.methodLink "DiodeLink$Version" 96 ⟨"DiodeLink$Bytes", "copyFrom", "(LDiodeLink$Bytes;)V"⟩,
  Cond.methodLink "DiodeLink$Version" 65 ⟨"DiodeLink$Bytes", "size", "()I"⟩,
  Cond.methodLink "DiodeLink$Version" 69 ⟨"DiodeLink$Cut", "blocks", "(I)I"⟩,
  Cond.methodLink "DiodeLink$Version" 92 ⟨"DiodeLink$Bytes", "hash", "(I)J"⟩,
  Cond.methodLink "DiodeLink$Version" 88 ⟨"DiodeLink$Bytes", "compareParts", "(IILDiodeLink$Bytes;II)I"⟩,
  Cond.methodLink "DiodeLink$Version" 75 ⟨"DiodeLink$Bytes", "at", "(I)I"⟩,
  Cond.methodLink "DiodeLink$Version" 78 ⟨"DiodeLink$Bytes", "number", "(II)J"⟩,
  Cond.methodLink "DiodeLink$Version" 81 ⟨"DiodeLink$Bytes", "isName", "(II)Z"⟩,
  Cond.methodLink "DiodeLink$Version" 84 ⟨"DiodeLink$Version", "isBehindLast", "(I)Z"⟩,
  Cond.methodLink "DiodeLink$Version" 100 ⟨"java/lang/System", "arraycopy", "(Ljava/lang/Object;ILjava/lang/Object;II)V"⟩,
  Cond.native ⟨"java/lang/System", "arraycopy", "(Ljava/lang/Object;ILjava/lang/Object;II)V"⟩,
  Cond.static ⟨"java/lang/System", "arraycopy", "(Ljava/lang/Object;ILjava/lang/Object;II)V"⟩,
  Cond.initialized "java/lang/System",
  Cond.methodLink "DiodeLinkLaw" 36 ⟨"DiodeLink", "alter", "(III)V"⟩,
  Cond.methodLink "DiodeLinkLaw" 25 ⟨"DiodeLink", "commit", "(I)I"⟩,
  Cond.methodLink "DiodeLinkLaw" 76 ⟨"DiodeLink", "count", "(I)I"⟩,
  Cond.methodLink "DiodeLinkLaw" 7 ⟨"DiodeLink", "feed", "(ZJI)I"⟩,
  Cond.methodLink "DiodeLinkLaw" 64 ⟨"DiodeLink", "file", "(IIIZ)I"⟩,
  Cond.methodLink "DiodeLinkLaw" 50 ⟨"DiodeLink", "have", "(II)I"⟩,
  Cond.methodLink "DiodeLinkLaw" 40 ⟨"DiodeLink", "hear", "(I)I"⟩,
  Cond.methodLink "DiodeLinkLaw" 70 ⟨"DiodeLink", "journal", "(II)J"⟩,
  Cond.methodLink "DiodeLinkLaw" 32 ⟨"DiodeLink", "packet", "(II)J"⟩,
  Cond.methodLink "DiodeLinkLaw" 54 ⟨"DiodeLink", "rank", "(IIII)I"⟩,
  Cond.methodLink "DiodeLinkLaw" 58 ⟨"DiodeLink", "release", "(I)I"⟩,
  Cond.methodLink "DiodeLinkLaw" 61 ⟨"DiodeLink", "released", "(I)I"⟩,
  Cond.methodLink "DiodeLinkLaw" 21 ⟨"DiodeLink", "remove", "(I)Z"⟩,
  Cond.methodLink "DiodeLinkLaw" 43 ⟨"DiodeLink", "restartSender", "()I"⟩,
  Cond.methodLink "DiodeLinkLaw" 46 ⟨"DiodeLink", "rule", "(IIZ)V"⟩,
  Cond.methodLink "DiodeLinkLaw" 28 ⟨"DiodeLink", "send", "()I"⟩]
def zTs12 : List Cond := [
  Cond.methodLink "DiodeLinkLaw" 73 ⟨"DiodeLink", "touch", "(III)V"⟩,
  Cond.methodLink "DiodeLinkLaw" 17 ⟨"DiodeLink", "write", "(I)I"⟩,
  Cond.methodLink "DiodeLinkModel" 1 ⟨"java/lang/Object", "<init>", "()V"⟩,
  Cond.instanceMethod objectInit,
  Cond.code objectInit ⟨#[0xb1]⟩ 1 none,
  Cond.fieldLink "DiodeLinkModel" 7 "DiodeLinkModel" "name" "[I",
  Cond.fieldLink "DiodeLinkModel" 13 "DiodeLinkModel" "data" "[I",
  Cond.fieldLink "DiodeLinkModel" 16 "DiodeLinkModel" "files" "[I",
  Cond.fieldLink "DiodeLinkModel" 19 "DiodeLinkModel" "nameSize" "[I",
  Cond.fieldLink "DiodeLinkModel" 22 "DiodeLinkModel" "names" "[I",
  Cond.fieldLink "DiodeLinkModel" 25 "DiodeLinkModel" "fileSize" "[I",
  Cond.fieldLink "DiodeLinkModel" 28 "DiodeLinkModel" "fileData" "[I",
  Cond.fieldLink "DiodeLinkModel" 31 "DiodeLinkModel" "versions" "[I",
  Cond.fieldLink "DiodeLinkModel" 34 "DiodeLinkModel" "keptItems" "[I",
  Cond.fieldLink "DiodeLinkModel" 37 "DiodeLinkModel" "keptSize" "[I",
  Cond.fieldLink "DiodeLinkModel" 40 "DiodeLinkModel" "keptData" "[I",
  Cond.fieldLink "DiodeLinkModel" 43 "DiodeLinkModel" "life" "I",
  Cond.fieldLink "DiodeLinkModel" 47 "DiodeLinkModel" "goes" "[I",
  Cond.fieldLink "DiodeLinkModel" 50 "DiodeLinkModel" "slots" "[I",
  Cond.fieldLink "DiodeLinkModel" 53 "DiodeLinkModel" "filled" "[Z",
  Cond.fieldLink "DiodeLinkModel" 57 "DiodeLinkModel" "found" "[I",
  Cond.fieldLink "DiodeLinkModel" 60 "DiodeLinkModel" "known" "[I",
  Cond.fieldLink "DiodeLinkModel" 63 "DiodeLinkModel" "good" "[Z",
  Cond.fieldLink "DiodeLinkModel" 66 "DiodeLinkModel" "count" "[I",
  Cond.fieldLink "DiodeLinkModel" 69 "DiodeLinkModel" "verdict" "[I",
  Cond.fieldLink "DiodeLinkModel" 72 "DiodeLinkModel" "size" "[I",
  Cond.fieldLink "DiodeLinkModel" 75 "DiodeLinkModel" "solved" "[Z",
  Cond.fieldLink "DiodeLinkModel" 78 "DiodeLinkModel" "bytes" "[I",
  Cond.fieldLink "DiodeLinkModel" 81 "DiodeLinkModel" "held" "[Z",
  Cond.fieldLink "DiodeLinkModel" 84 "DiodeLinkModel" "rowItem" "[I",
  Cond.fieldLink "DiodeLinkModel" 87 "DiodeLinkModel" "rowBlock" "[I",
  Cond.fieldLink "DiodeLinkModel" 90 "DiodeLinkModel" "rowMask" "[I",
  Cond.fieldLink "DiodeLinkModel" 93 "DiodeLinkModel" "rowBytes" "[J",
  Cond.fieldLink "DiodeLinkModel" 97 "DiodeLinkModel" "mostSize" "I",
  Cond.fieldLink "DiodeLinkModel" 100 "DiodeLinkModel" "mostFiles" "I",
  Cond.fieldLink "DiodeLinkModel" 103 "DiodeLinkModel" "badSign" "[Z",
  Cond.fieldLink "DiodeLinkModel" 106 "DiodeLinkModel" "badFirst" "[Z",
  Cond.fieldLink "DiodeLinkModel" 109 "DiodeLinkModel" "released" "[I",
  Cond.fieldLink "DiodeLinkModel" 112 "DiodeLinkModel" "releases" "[I",
  Cond.fieldLink "DiodeLinkModel" 115 "DiodeLinkModel" "earlier" "[I"]
def zTs13 : List Cond := [
  Cond.fieldLink "DiodeLinkModel" 118 "DiodeLinkModel" "releasedFiles" "[I",
  Cond.fieldLink "DiodeLinkModel" 121 "DiodeLinkModel" "releasedNames" "[I",
  Cond.fieldLink "DiodeLinkModel" 124 "DiodeLinkModel" "releasedSize" "[I",
  Cond.fieldLink "DiodeLinkModel" 127 "DiodeLinkModel" "releasedData" "[I",
  Cond.fieldLink "DiodeLinkModel" 130 "DiodeLinkModel" "entry" "[I",
  Cond.fieldLink "DiodeLinkModel" 133 "DiodeLinkModel" "links" "[J",
  Cond.methodLink "DiodeLinkModel" 233 ⟨"DiodeLinkModel", "has", "(I)Z"⟩,
  Cond.methodLink "DiodeLinkModel" 143 ⟨"DiodeLinkModel", "in", "(III)Z"⟩,
  Cond.methodLink "DiodeLinkModel" 147 ⟨"DiodeLinkModel", "fails", "(ZI)Z"⟩,
  Cond.fieldLink "DiodeLinkModel" 197 "DiodeLinkModel" "turn" "I",
  Cond.constantLong "DiodeLinkModel" 141 (Int64.ofInt (-3750763034362895579)),
  Cond.methodLink "DiodeLinkModel" 281 ⟨"DiodeLinkModel", "sizeTold", "(II)I"⟩,
  Cond.methodLink "DiodeLinkModel" 284 ⟨"DiodeLinkModel", "hashTold", "(II)J"⟩,
  Cond.methodLink "DiodeLinkModel" 250 ⟨"DiodeLinkModel", "forget", "(I)V"⟩,
  Cond.methodLink "DiodeLinkModel" 201 ⟨"DiodeLinkModel", "blocks", "(I)I"⟩,
  Cond.methodLink "DiodeLinkModel" 269 ⟨"DiodeLinkModel", "byteOf", "(II)I"⟩,
  Cond.methodLink "DiodeLinkModel" 275 ⟨"DiodeLinkModel", "tells", "(II)I"⟩,
  Cond.methodLink "DiodeLinkModel" 204 ⟨"DiodeLinkModel", "pieces", "(II)I"⟩,
  Cond.methodLink "DiodeLinkModel" 190 ⟨"DiodeLinkModel", "manifest", "(III)V"⟩,
  Cond.methodLink "DiodeLinkModel" 194 ⟨"DiodeLinkModel", "anew", "()V"⟩,
  Cond.methodLink "DiodeLinkModel" 278 ⟨"DiodeLinkModel", "isComplete", "(I)Z"⟩,
  Cond.methodLink "DiodeLinkModel" 182 ⟨"DiodeLinkModel", "begin", "()J"⟩,
  Cond.methodLink "DiodeLinkModel" 186 ⟨"DiodeLinkModel", "more", "(JI)J"⟩,
  Cond.methodLink "DiodeLinkModel" 287 ⟨"DiodeLinkModel", "compare", "(II)V"⟩,
  Cond.methodLink "DiodeLinkModel" 290 ⟨"DiodeLinkModel", "isManifest", "(I)Z"⟩,
  Cond.fieldLink "DiodeLinkModel" 306 "DiodeLinkModel" "dropped" "I",
  Cond.fieldLink "DiodeLinkModel" 241 "DiodeLinkModel" "rows" "I",
  Cond.fieldLink "DiodeLinkModel" 214 "DiodeLinkModel" "sent" "I",
  Cond.fieldLink "DiodeLinkModel" 136 "DiodeLinkModel" "thrown" "I",
  Cond.fieldLink "DiodeLinkModel" 151 "DiodeLinkModel" "given" "I",
  Cond.fieldLink "DiodeLinkModel" 154 "DiodeLinkModel" "named" "I",
  Cond.constantLong "DiodeLinkModel" 157 (Int64.ofInt (255)),
  Cond.methodLink "DiodeLinkModel" 247 ⟨"DiodeLinkModel", "drop", "(III)V"⟩,
  Cond.constant "DiodeLinkModel" 349 (Int32.ofInt (65535)),
  Cond.methodLink "DiodeLinkModel" 257 ⟨"DiodeLinkModel", "placeOf", "(II)I"⟩,
  Cond.methodLink "DiodeLinkModel" 350 ⟨"DiodeLinkModel", "wasReleased", "(II)Z"⟩,
  Cond.methodLink "DiodeLinkModel" 229 ⟨"DiodeLinkModel", "hashOf", "(I)J"⟩,
  Cond.methodLink "DiodeLinkModel" 237 ⟨"DiodeLinkModel", "eight", "(II)J"⟩,
  Cond.methodLink "DiodeLinkModel" 309 ⟨"DiodeLinkModel", "drops", "(I)I"⟩,
  Cond.fieldLink "DiodeLinkModel" 312 "DiodeLinkModel" "greatest" "I"]
def zTs14 : List Cond := [
  Cond.methodLink "DiodeLinkModel" 244 ⟨"DiodeLinkModel", "unsize", "()V"⟩,
  Cond.methodLink "DiodeLinkModel" 315 ⟨"DiodeLinkModel", "canBe", "(I)Z"⟩,
  Cond.methodLink "DiodeLinkModel" 318 ⟨"DiodeLinkModel", "hears", "(II)I"⟩,
  Cond.methodLink "DiodeLinkModel" 321 ⟨"DiodeLinkModel", "takes", "(IIII)I"⟩,
  Cond.methodLink "DiodeLinkModel" 260 ⟨"DiodeLinkModel", "empty", "(I)V"⟩,
  Cond.methodLink "DiodeLinkModel" 263 ⟨"DiodeLinkModel", "shift", "(I)V"⟩,
  Cond.fieldLink "DiodeLinkModel" 356 "DiodeLinkModel" "entries" "I",
  Cond.methodLink "DiodeLinkModel" 272 ⟨"DiodeLinkModel", "isBelow", "(III)Z"⟩,
  Cond.fieldLink "DiodeLinkModel" 359 "DiodeLinkModel" "before" "J",
  Cond.methodLink "DiodeLinkModel" 363 ⟨"DiodeLinkModel", "linked", "(JI)J"⟩,
  Cond.methodLink "DiodeLinkModel" 159 ⟨"DiodeLinkModel", "order", "(I)I"⟩,
  Cond.methodLink "DiodeLinkModel" 366 ⟨"DiodeLinkModel", "isKept", "(I)Z"⟩,
  Cond.methodLink "DiodeLinkModel" 296 ⟨"DiodeLinkModel", "reject", "(III)V"⟩,
  Cond.methodLink "DiodeLinkModel" 299 ⟨"DiodeLinkModel", "breaks", "(III)Z"⟩,
  Cond.methodLink "DiodeLinkModel" 208 ⟨"DiodeLinkModel", "within", "(III)I"⟩,
  Cond.methodLink "DiodeLinkModel" 178 ⟨"DiodeLinkModel", "told", "(III)I"⟩,
  Cond.constant "DiodeLinkModel" 200 (Int32.ofInt (40503)),
  Cond.constantLong "DiodeLinkModel" 139 (Int64.ofInt (1099511628211)),
  Cond.methodLink "DiodeLinkModel" 331 ⟨"DiodeLinkModel", "rowsOf", "(II)I"⟩,
  Cond.methodLink "DiodeLinkModel" 302 ⟨"DiodeLinkModel", "note", "(IIII)V"⟩,
  Cond.methodLink "DiodeLinkModel" 353 ⟨"DiodeLinkModel", "keep", "(II)V"⟩,
  Cond.methodLink "DiodeLinkModel" 167 ⟨"DiodeLinkModel", "place", "(I)I"⟩,
  Cond.methodLink "DiodeLinkModel" 170 ⟨"DiodeLinkModel", "isThere", "(II)Z"⟩,
  Cond.methodLink "DiodeLinkModel" 174 ⟨"DiodeLinkModel", "move", "(II)V"⟩,
  Cond.methodLink "DiodeLinkModel" 266 ⟨"DiodeLinkModel", "hasRows", "(I)Z"⟩,
  Cond.methodLink "DiodeLinkModel" 211 ⟨"DiodeLinkModel", "look", "(II)I"⟩,
  Cond.methodLink "DiodeLinkModel" 217 ⟨"DiodeLinkModel", "mask", "(IIIII)I"⟩,
  Cond.methodLink "DiodeLinkModel" 221 ⟨"DiodeLinkModel", "piece", "(III)J"⟩,
  Cond.methodLink "DiodeLinkModel" 225 ⟨"DiodeLinkModel", "lay", "(IIJI)V"⟩,
  Cond.methodLink "DiodeLinkModel" 293 ⟨"DiodeLinkModel", "borrows", "(II)Z"⟩,
  Cond.methodLink "DiodeLinkModel" 254 ⟨"DiodeLinkModel", "clear", "(I)V"⟩,
  Cond.methodLink "DiodeLinkModel" 325 ⟨"DiodeLinkModel", "sum", "(III)I"⟩,
  Cond.methodLink "DiodeLinkModel" 346 ⟨"DiodeLinkModel", "together", "(III)J"⟩,
  Cond.methodLink "DiodeLinkModel" 328 ⟨"DiodeLinkModel", "room", "()Z"⟩,
  Cond.methodLink "DiodeLinkModel" 334 ⟨"DiodeLinkModel", "solve", "(III)V"⟩,
  Cond.methodLink "DiodeLinkModel" 337 ⟨"DiodeLinkModel", "completes", "(II)V"⟩,
  Cond.methodLink "DiodeLinkModel" 340 ⟨"DiodeLinkModel", "share", "(I)V"⟩,
  Cond.methodLink "DiodeLinkModel" 343 ⟨"DiodeLinkModel", "judge", "(I)V"⟩,
  Cond.methodLink "DiodeLinkModel" 163 ⟨"DiodeLinkModel", "isName", "()Z"⟩,
  Cond.classLink "DiodeLinkLaw" 8 "DiodeLink"]
def zTs15 : List Cond := [
  Cond.instantiable "DiodeLink" 8,
  Cond.initialized "DiodeLink",
  Cond.methodLink "DiodeLinkLaw" 79 ⟨"DiodeLink", "<init>", "()V"⟩,
  Cond.classLink "DiodeLinkLaw" 80 "DiodeLinkModel",
  Cond.instantiable "DiodeLinkModel" 51,
  Cond.initialized "DiodeLinkModel",
  Cond.methodLink "DiodeLinkLaw" 82 ⟨"DiodeLinkModel", "<init>", "()V"⟩,
  Cond.constantLong "DiodeLinkLaw" 83 (Int64.ofInt (4294967295)),
  Cond.methodLink "DiodeLinkLaw" 85 ⟨"DiodeLinkLaw", "feed", "(LDiodeLink;ZJI[J)I"⟩,
  Cond.methodLink "DiodeLinkLaw" 90 ⟨"DiodeLinkModel", "feed", "(ZJI)I"⟩,
  Cond.methodLink "DiodeLinkLaw" 91 ⟨"DiodeLinkLaw", "write", "(LDiodeLink;I[J)I"⟩,
  Cond.methodLink "DiodeLinkLaw" 94 ⟨"DiodeLinkModel", "write", "(I)I"⟩,
  Cond.methodLink "DiodeLinkLaw" 95 ⟨"DiodeLinkLaw", "remove", "(LDiodeLink;I[J)I"⟩,
  Cond.methodLink "DiodeLinkLaw" 97 ⟨"DiodeLinkModel", "remove", "(I)Z"⟩,
  Cond.methodLink "DiodeLinkLaw" 98 ⟨"DiodeLinkLaw", "commit", "(LDiodeLink;I[J)I"⟩,
  Cond.methodLink "DiodeLinkLaw" 100 ⟨"DiodeLinkModel", "commit", "(I)I"⟩,
  Cond.methodLink "DiodeLinkLaw" 101 ⟨"DiodeLinkLaw", "send", "(LDiodeLink;[J)I"⟩,
  Cond.methodLink "DiodeLinkLaw" 104 ⟨"DiodeLinkModel", "send", "()I"⟩,
  Cond.methodLink "DiodeLinkLaw" 105 ⟨"DiodeLinkLaw", "packet", "(LDiodeLink;II[J)I"⟩,
  Cond.methodLink "DiodeLinkLaw" 108 ⟨"DiodeLinkModel", "packet", "(II)J"⟩,
  Cond.methodLink "DiodeLinkLaw" 109 ⟨"DiodeLinkLaw", "alter", "(LDiodeLink;III)I"⟩,
  Cond.methodLink "DiodeLinkLaw" 112 ⟨"DiodeLinkModel", "alter", "(III)V"⟩,
  Cond.methodLink "DiodeLinkLaw" 113 ⟨"DiodeLinkLaw", "hear", "(LDiodeLink;I[J)I"⟩,
  Cond.methodLink "DiodeLinkLaw" 115 ⟨"DiodeLinkModel", "hear", "(I)I"⟩,
  Cond.methodLink "DiodeLinkLaw" 116 ⟨"DiodeLinkModel", "thrown", "()I"⟩,
  Cond.methodLink "DiodeLinkLaw" 119 ⟨"DiodeLinkLaw", "restartSender", "(LDiodeLink;[J)I"⟩,
  Cond.methodLink "DiodeLinkLaw" 121 ⟨"DiodeLinkModel", "restartSender", "()I"⟩,
  Cond.methodLink "DiodeLinkLaw" 122 ⟨"DiodeLink", "restartReceiver", "()V"⟩,
  Cond.methodLink "DiodeLinkLaw" 125 ⟨"DiodeLinkModel", "restartReceiver", "()V"⟩,
  Cond.methodLink "DiodeLinkLaw" 126 ⟨"DiodeLinkLaw", "rule", "(LDiodeLink;IIZ)I"⟩,
  Cond.methodLink "DiodeLinkLaw" 129 ⟨"DiodeLinkModel", "rule", "(IIZ)V"⟩,
  Cond.methodLink "DiodeLinkLaw" 130 ⟨"DiodeLinkLaw", "have", "(LDiodeLink;II[J)I"⟩,
  Cond.methodLink "DiodeLinkLaw" 132 ⟨"DiodeLinkModel", "have", "(II)I"⟩,
  Cond.methodLink "DiodeLinkLaw" 133 ⟨"DiodeLinkLaw", "rank", "(LDiodeLink;IIII[J)I"⟩,
  Cond.methodLink "DiodeLinkLaw" 136 ⟨"DiodeLinkModel", "rank", "(IIII)I"⟩,
  Cond.methodLink "DiodeLinkLaw" 137 ⟨"DiodeLinkLaw", "release", "(LDiodeLink;I[J)I"⟩,
  Cond.methodLink "DiodeLinkLaw" 139 ⟨"DiodeLinkModel", "release", "(I)I"⟩,
  Cond.methodLink "DiodeLinkLaw" 140 ⟨"DiodeLinkLaw", "released", "(LDiodeLink;I[J)I"⟩,
  Cond.methodLink "DiodeLinkLaw" 142 ⟨"DiodeLinkModel", "released", "(I)I"⟩,
  Cond.methodLink "DiodeLinkLaw" 143 ⟨"DiodeLinkLaw", "file", "(LDiodeLink;IIIZ[J)I"⟩]
def zTs16 : List Cond := [
  Cond.methodLink "DiodeLinkLaw" 146 ⟨"DiodeLinkModel", "file", "(IIIZ)I"⟩,
  Cond.methodLink "DiodeLinkLaw" 147 ⟨"DiodeLinkLaw", "journal", "(LDiodeLink;II[J)I"⟩,
  Cond.methodLink "DiodeLinkLaw" 149 ⟨"DiodeLinkModel", "journal", "(II)J"⟩,
  Cond.methodLink "DiodeLinkLaw" 150 ⟨"DiodeLinkLaw", "touch", "(LDiodeLink;III)I"⟩,
  Cond.methodLink "DiodeLinkLaw" 152 ⟨"DiodeLinkModel", "touch", "(III)V"⟩,
  Cond.methodLink "DiodeLinkLaw" 153 ⟨"DiodeLink", "isSound", "()Z"⟩,
  Cond.methodLink "DiodeLinkLaw" 157 ⟨"DiodeLinkModel", "isSound", "()Z"⟩,
  Cond.methodLink "DiodeLinkLaw" 158 ⟨"DiodeLinkLaw", "count", "(LDiodeLink;I[J)I"⟩,
  Cond.methodLink "DiodeLinkLaw" 160 ⟨"DiodeLinkModel", "count", "(I)I"⟩,
  Cond.classLink "DiodeLinkLaw" 13 "java/lang/IllegalArgumentException",
  Cond.classLink "DiodeLinkLaw" 15 "java/lang/IllegalStateException",
  Cond.classLink "DiodeLinkLaw" 68 "java/lang/IndexOutOfBoundsException",
  Cond.instanceMethod ⟨"DiodeLink", "<init>", "()V"⟩,
  Cond.initialized "DiodeLink",
  Cond.instanceMethod ⟨"DiodeLink", "alter", "(III)V"⟩,
  Cond.initialized "DiodeLink",
  Cond.selects "DiodeLink" ⟨"DiodeLink", "alter", "(III)V"⟩ ⟨"DiodeLink", "alter", "(III)V"⟩,
  Cond.static ⟨"DiodeLink", "checkFolder", "(I)V"⟩,
  Cond.initialized "DiodeLink",
  Cond.instanceMethod ⟨"DiodeLink", "checkSlot", "(I)V"⟩,
  Cond.initialized "DiodeLink",
  Cond.selects "DiodeLink" ⟨"DiodeLink", "checkSlot", "(I)V"⟩ ⟨"DiodeLink", "checkSlot", "(I)V"⟩,
  Cond.static ⟨"DiodeLink", "checkVersion", "(II)V"⟩,
  Cond.initialized "DiodeLink",
  Cond.instanceMethod ⟨"DiodeLink", "commit", "(I)I"⟩,
  Cond.initialized "DiodeLink",
  Cond.selects "DiodeLink" ⟨"DiodeLink", "commit", "(I)I"⟩ ⟨"DiodeLink", "commit", "(I)I"⟩,
  Cond.instanceMethod ⟨"DiodeLink", "count", "(I)I"⟩,
  Cond.initialized "DiodeLink",
  Cond.selects "DiodeLink" ⟨"DiodeLink", "count", "(I)I"⟩ ⟨"DiodeLink", "count", "(I)I"⟩,
  Cond.instanceMethod ⟨"DiodeLink", "feed", "(ZJI)I"⟩,
  Cond.initialized "DiodeLink",
  Cond.selects "DiodeLink" ⟨"DiodeLink", "feed", "(ZJI)I"⟩ ⟨"DiodeLink", "feed", "(ZJI)I"⟩,
  Cond.instanceMethod ⟨"DiodeLink", "file", "(IIIZ)I"⟩,
  Cond.initialized "DiodeLink",
  Cond.selects "DiodeLink" ⟨"DiodeLink", "file", "(IIIZ)I"⟩ ⟨"DiodeLink", "file", "(IIIZ)I"⟩,
  Cond.instanceMethod ⟨"DiodeLink", "have", "(II)I"⟩,
  Cond.initialized "DiodeLink",
  Cond.selects "DiodeLink" ⟨"DiodeLink", "have", "(II)I"⟩ ⟨"DiodeLink", "have", "(II)I"⟩,
  Cond.instanceMethod ⟨"DiodeLink", "hear", "(I)I"⟩]
def zTs17 : List Cond := [
  Cond.initialized "DiodeLink",
  Cond.selects "DiodeLink" ⟨"DiodeLink", "hear", "(I)I"⟩ ⟨"DiodeLink", "hear", "(I)I"⟩,
  Cond.static ⟨"DiodeLink", "isFolder", "(I)Z"⟩,
  Cond.initialized "DiodeLink",
  Cond.instanceMethod ⟨"DiodeLink", "isSound", "()Z"⟩,
  Cond.initialized "DiodeLink",
  Cond.selects "DiodeLink" ⟨"DiodeLink", "isSound", "()Z"⟩ ⟨"DiodeLink", "isSound", "()Z"⟩,
  Cond.instanceMethod ⟨"DiodeLink", "journal", "(II)J"⟩,
  Cond.initialized "DiodeLink",
  Cond.selects "DiodeLink" ⟨"DiodeLink", "journal", "(II)J"⟩ ⟨"DiodeLink", "journal", "(II)J"⟩,
  Cond.instanceMethod ⟨"DiodeLink", "packet", "(II)J"⟩,
  Cond.initialized "DiodeLink",
  Cond.selects "DiodeLink" ⟨"DiodeLink", "packet", "(II)J"⟩ ⟨"DiodeLink", "packet", "(II)J"⟩,
  Cond.instanceMethod ⟨"DiodeLink", "rank", "(IIII)I"⟩,
  Cond.initialized "DiodeLink",
  Cond.selects "DiodeLink" ⟨"DiodeLink", "rank", "(IIII)I"⟩ ⟨"DiodeLink", "rank", "(IIII)I"⟩,
  Cond.instanceMethod ⟨"DiodeLink", "release", "(I)I"⟩,
  Cond.initialized "DiodeLink",
  Cond.selects "DiodeLink" ⟨"DiodeLink", "release", "(I)I"⟩ ⟨"DiodeLink", "release", "(I)I"⟩,
  Cond.instanceMethod ⟨"DiodeLink", "released", "(I)I"⟩,
  Cond.initialized "DiodeLink",
  Cond.selects "DiodeLink" ⟨"DiodeLink", "released", "(I)I"⟩ ⟨"DiodeLink", "released", "(I)I"⟩,
  Cond.instanceMethod ⟨"DiodeLink", "remove", "(I)Z"⟩,
  Cond.initialized "DiodeLink",
  Cond.selects "DiodeLink" ⟨"DiodeLink", "remove", "(I)Z"⟩ ⟨"DiodeLink", "remove", "(I)Z"⟩,
  Cond.instanceMethod ⟨"DiodeLink", "restartReceiver", "()V"⟩,
  Cond.initialized "DiodeLink",
  Cond.selects "DiodeLink" ⟨"DiodeLink", "restartReceiver", "()V"⟩ ⟨"DiodeLink", "restartReceiver", "()V"⟩,
  Cond.instanceMethod ⟨"DiodeLink", "restartSender", "()I"⟩,
  Cond.initialized "DiodeLink",
  Cond.selects "DiodeLink" ⟨"DiodeLink", "restartSender", "()I"⟩ ⟨"DiodeLink", "restartSender", "()I"⟩,
  Cond.instanceMethod ⟨"DiodeLink", "rule", "(IIZ)V"⟩,
  Cond.initialized "DiodeLink",
  Cond.selects "DiodeLink" ⟨"DiodeLink", "rule", "(IIZ)V"⟩ ⟨"DiodeLink", "rule", "(IIZ)V"⟩,
  Cond.instanceMethod ⟨"DiodeLink", "send", "()I"⟩,
  Cond.initialized "DiodeLink",
  Cond.selects "DiodeLink" ⟨"DiodeLink", "send", "()I"⟩ ⟨"DiodeLink", "send", "()I"⟩,
  Cond.instanceMethod ⟨"DiodeLink", "touch", "(III)V"⟩,
  Cond.initialized "DiodeLink",
  Cond.selects "DiodeLink" ⟨"DiodeLink", "touch", "(III)V"⟩ ⟨"DiodeLink", "touch", "(III)V"⟩]
def zTs18 : List Cond := [
  Cond.instanceMethod ⟨"DiodeLink", "write", "(I)I"⟩,
  Cond.initialized "DiodeLink",
  Cond.selects "DiodeLink" ⟨"DiodeLink", "write", "(I)I"⟩ ⟨"DiodeLink", "write", "(I)I"⟩,
  Cond.instanceMethod ⟨"DiodeLink$Bytes", "<init>", "(I)V"⟩,
  Cond.initialized "DiodeLink$Bytes",
  Cond.instanceMethod ⟨"DiodeLink$Bytes", "append", "(JI)V"⟩,
  Cond.initialized "DiodeLink$Bytes",
  Cond.selects "DiodeLink$Bytes" ⟨"DiodeLink$Bytes", "append", "(JI)V"⟩ ⟨"DiodeLink$Bytes", "append", "(JI)V"⟩,
  Cond.instanceMethod ⟨"DiodeLink$Bytes", "appendAll", "(LDiodeLink$Bytes;)V"⟩,
  Cond.initialized "DiodeLink$Bytes",
  Cond.selects "DiodeLink$Bytes" ⟨"DiodeLink$Bytes", "appendAll", "(LDiodeLink$Bytes;)V"⟩ ⟨"DiodeLink$Bytes", "appendAll", "(LDiodeLink$Bytes;)V"⟩,
  Cond.instanceMethod ⟨"DiodeLink$Bytes", "at", "(I)I"⟩,
  Cond.initialized "DiodeLink$Bytes",
  Cond.selects "DiodeLink$Bytes" ⟨"DiodeLink$Bytes", "at", "(I)I"⟩ ⟨"DiodeLink$Bytes", "at", "(I)I"⟩,
  Cond.instanceMethod ⟨"DiodeLink$Bytes", "clear", "()V"⟩,
  Cond.initialized "DiodeLink$Bytes",
  Cond.selects "DiodeLink$Bytes" ⟨"DiodeLink$Bytes", "clear", "()V"⟩ ⟨"DiodeLink$Bytes", "clear", "()V"⟩,
  Cond.instanceMethod ⟨"DiodeLink$Bytes", "compareAll", "(LDiodeLink$Bytes;)I"⟩,
  Cond.initialized "DiodeLink$Bytes",
  Cond.selects "DiodeLink$Bytes" ⟨"DiodeLink$Bytes", "compareAll", "(LDiodeLink$Bytes;)I"⟩ ⟨"DiodeLink$Bytes", "compareAll", "(LDiodeLink$Bytes;)I"⟩,
  Cond.instanceMethod ⟨"DiodeLink$Bytes", "compareParts", "(IILDiodeLink$Bytes;II)I"⟩,
  Cond.initialized "DiodeLink$Bytes",
  Cond.selects "DiodeLink$Bytes" ⟨"DiodeLink$Bytes", "compareParts", "(IILDiodeLink$Bytes;II)I"⟩ ⟨"DiodeLink$Bytes", "compareParts", "(IILDiodeLink$Bytes;II)I"⟩,
  Cond.instanceMethod ⟨"DiodeLink$Bytes", "copyFrom", "(LDiodeLink$Bytes;)V"⟩,
  Cond.initialized "DiodeLink$Bytes",
  Cond.selects "DiodeLink$Bytes" ⟨"DiodeLink$Bytes", "copyFrom", "(LDiodeLink$Bytes;)V"⟩ ⟨"DiodeLink$Bytes", "copyFrom", "(LDiodeLink$Bytes;)V"⟩,
  Cond.instanceMethod ⟨"DiodeLink$Bytes", "hash", "(I)J"⟩,
  Cond.initialized "DiodeLink$Bytes",
  Cond.selects "DiodeLink$Bytes" ⟨"DiodeLink$Bytes", "hash", "(I)J"⟩ ⟨"DiodeLink$Bytes", "hash", "(I)J"⟩,
  Cond.instanceMethod ⟨"DiodeLink$Bytes", "isName", "(II)Z"⟩,
  Cond.initialized "DiodeLink$Bytes",
  Cond.selects "DiodeLink$Bytes" ⟨"DiodeLink$Bytes", "isName", "(II)Z"⟩ ⟨"DiodeLink$Bytes", "isName", "(II)Z"⟩,
  Cond.instanceMethod ⟨"DiodeLink$Bytes", "limit", "()I"⟩,
  Cond.initialized "DiodeLink$Bytes",
  Cond.selects "DiodeLink$Bytes" ⟨"DiodeLink$Bytes", "limit", "()I"⟩ ⟨"DiodeLink$Bytes", "limit", "()I"⟩,
  Cond.instanceMethod ⟨"DiodeLink$Bytes", "number", "(II)J"⟩,
  Cond.initialized "DiodeLink$Bytes",
  Cond.selects "DiodeLink$Bytes" ⟨"DiodeLink$Bytes", "number", "(II)J"⟩ ⟨"DiodeLink$Bytes", "number", "(II)J"⟩,
  Cond.instanceMethod ⟨"DiodeLink$Bytes", "put", "(II)V"⟩,
  Cond.initialized "DiodeLink$Bytes"]
def zTs19 : List Cond := [
  Cond.selects "DiodeLink$Bytes" ⟨"DiodeLink$Bytes", "put", "(II)V"⟩ ⟨"DiodeLink$Bytes", "put", "(II)V"⟩,
  Cond.instanceMethod ⟨"DiodeLink$Bytes", "putNumber", "(IJI)V"⟩,
  Cond.initialized "DiodeLink$Bytes",
  Cond.selects "DiodeLink$Bytes" ⟨"DiodeLink$Bytes", "putNumber", "(IJI)V"⟩ ⟨"DiodeLink$Bytes", "putNumber", "(IJI)V"⟩,
  Cond.instanceMethod ⟨"DiodeLink$Bytes", "resize", "(I)V"⟩,
  Cond.initialized "DiodeLink$Bytes",
  Cond.selects "DiodeLink$Bytes" ⟨"DiodeLink$Bytes", "resize", "(I)V"⟩ ⟨"DiodeLink$Bytes", "resize", "(I)V"⟩,
  Cond.instanceMethod ⟨"DiodeLink$Bytes", "size", "()I"⟩,
  Cond.initialized "DiodeLink$Bytes",
  Cond.selects "DiodeLink$Bytes" ⟨"DiodeLink$Bytes", "size", "()I"⟩ ⟨"DiodeLink$Bytes", "size", "()I"⟩,
  Cond.instanceMethod ⟨"DiodeLink$Bytes", "turn", "(II)V"⟩,
  Cond.initialized "DiodeLink$Bytes",
  Cond.selects "DiodeLink$Bytes" ⟨"DiodeLink$Bytes", "turn", "(II)V"⟩ ⟨"DiodeLink$Bytes", "turn", "(II)V"⟩,
  Cond.static ⟨"DiodeLink$Cut", "blocks", "(I)I"⟩,
  Cond.initialized "DiodeLink$Cut",
  Cond.static ⟨"DiodeLink$Cut", "mask", "(IIIII)I"⟩,
  Cond.initialized "DiodeLink$Cut",
  Cond.static ⟨"DiodeLink$Cut", "packets", "(II)I"⟩,
  Cond.initialized "DiodeLink$Cut",
  Cond.static ⟨"DiodeLink$Cut", "pieces", "(II)I"⟩,
  Cond.initialized "DiodeLink$Cut",
  Cond.instanceMethod ⟨"DiodeLink$Edition", "<init>", "()V"⟩,
  Cond.initialized "DiodeLink$Edition",
  Cond.instanceMethod ⟨"DiodeLink$Edition", "appendPlace", "(LDiodeLink$Bytes;III)V"⟩,
  Cond.initialized "DiodeLink$Edition",
  Cond.selects "DiodeLink$Edition" ⟨"DiodeLink$Edition", "appendPlace", "(LDiodeLink$Bytes;III)V"⟩ ⟨"DiodeLink$Edition", "appendPlace", "(LDiodeLink$Bytes;III)V"⟩,
  Cond.instanceMethod ⟨"DiodeLink$Edition", "fillPacket", "(LDiodeLink$Bytes;III)V"⟩,
  Cond.initialized "DiodeLink$Edition",
  Cond.selects "DiodeLink$Edition" ⟨"DiodeLink$Edition", "fillPacket", "(LDiodeLink$Bytes;III)V"⟩ ⟨"DiodeLink$Edition", "fillPacket", "(LDiodeLink$Bytes;III)V"⟩,
  Cond.instanceMethod ⟨"DiodeLink$Edition", "packets", "()I"⟩,
  Cond.initialized "DiodeLink$Edition",
  Cond.selects "DiodeLink$Edition" ⟨"DiodeLink$Edition", "packets", "()I"⟩ ⟨"DiodeLink$Edition", "packets", "()I"⟩,
  Cond.instanceMethod ⟨"DiodeLink$Edition", "record", "(ILDiodeLink$Folder;)V"⟩,
  Cond.initialized "DiodeLink$Edition",
  Cond.selects "DiodeLink$Edition" ⟨"DiodeLink$Edition", "record", "(ILDiodeLink$Folder;)V"⟩ ⟨"DiodeLink$Edition", "record", "(ILDiodeLink$Folder;)V"⟩,
  Cond.instanceMethod ⟨"DiodeLink$Edition", "sum", "(III)J"⟩,
  Cond.initialized "DiodeLink$Edition",
  Cond.selects "DiodeLink$Edition" ⟨"DiodeLink$Edition", "sum", "(III)J"⟩ ⟨"DiodeLink$Edition", "sum", "(III)J"⟩,
  Cond.instanceMethod ⟨"DiodeLink$Folder", "<init>", "()V"⟩,
  Cond.initialized "DiodeLink$Folder"]
def zTs20 : List Cond := [
  Cond.instanceMethod ⟨"DiodeLink$Folder", "content", "(I)LDiodeLink$Bytes;"⟩,
  Cond.initialized "DiodeLink$Folder",
  Cond.selects "DiodeLink$Folder" ⟨"DiodeLink$Folder", "content", "(I)LDiodeLink$Bytes;"⟩ ⟨"DiodeLink$Folder", "content", "(I)LDiodeLink$Bytes;"⟩,
  Cond.instanceMethod ⟨"DiodeLink$Folder", "edition", "(I)LDiodeLink$Edition;"⟩,
  Cond.initialized "DiodeLink$Folder",
  Cond.selects "DiodeLink$Folder" ⟨"DiodeLink$Folder", "edition", "(I)LDiodeLink$Edition;"⟩ ⟨"DiodeLink$Folder", "edition", "(I)LDiodeLink$Edition;"⟩,
  Cond.instanceMethod ⟨"DiodeLink$Folder", "files", "()I"⟩,
  Cond.initialized "DiodeLink$Folder",
  Cond.selects "DiodeLink$Folder" ⟨"DiodeLink$Folder", "files", "()I"⟩ ⟨"DiodeLink$Folder", "files", "()I"⟩,
  Cond.instanceMethod ⟨"DiodeLink$Folder", "isAt", "(ILDiodeLink$Bytes;)Z"⟩,
  Cond.initialized "DiodeLink$Folder",
  Cond.selects "DiodeLink$Folder" ⟨"DiodeLink$Folder", "isAt", "(ILDiodeLink$Bytes;)Z"⟩ ⟨"DiodeLink$Folder", "isAt", "(ILDiodeLink$Bytes;)Z"⟩,
  Cond.instanceMethod ⟨"DiodeLink$Folder", "makeVersion", "()I"⟩,
  Cond.initialized "DiodeLink$Folder",
  Cond.selects "DiodeLink$Folder" ⟨"DiodeLink$Folder", "makeVersion", "()I"⟩ ⟨"DiodeLink$Folder", "makeVersion", "()I"⟩,
  Cond.instanceMethod ⟨"DiodeLink$Folder", "moveFile", "(II)V"⟩,
  Cond.initialized "DiodeLink$Folder",
  Cond.selects "DiodeLink$Folder" ⟨"DiodeLink$Folder", "moveFile", "(II)V"⟩ ⟨"DiodeLink$Folder", "moveFile", "(II)V"⟩,
  Cond.instanceMethod ⟨"DiodeLink$Folder", "name", "(I)LDiodeLink$Bytes;"⟩,
  Cond.initialized "DiodeLink$Folder",
  Cond.selects "DiodeLink$Folder" ⟨"DiodeLink$Folder", "name", "(I)LDiodeLink$Bytes;"⟩ ⟨"DiodeLink$Folder", "name", "(I)LDiodeLink$Bytes;"⟩,
  Cond.instanceMethod ⟨"DiodeLink$Folder", "placeOf", "(LDiodeLink$Bytes;)I"⟩,
  Cond.initialized "DiodeLink$Folder",
  Cond.selects "DiodeLink$Folder" ⟨"DiodeLink$Folder", "placeOf", "(LDiodeLink$Bytes;)I"⟩ ⟨"DiodeLink$Folder", "placeOf", "(LDiodeLink$Bytes;)I"⟩,
  Cond.instanceMethod ⟨"DiodeLink$Folder", "put", "(LDiodeLink$Bytes;LDiodeLink$Bytes;)I"⟩,
  Cond.initialized "DiodeLink$Folder",
  Cond.selects "DiodeLink$Folder" ⟨"DiodeLink$Folder", "put", "(LDiodeLink$Bytes;LDiodeLink$Bytes;)I"⟩ ⟨"DiodeLink$Folder", "put", "(LDiodeLink$Bytes;LDiodeLink$Bytes;)I"⟩,
  Cond.instanceMethod ⟨"DiodeLink$Folder", "takeOut", "(LDiodeLink$Bytes;)Z"⟩,
  Cond.initialized "DiodeLink$Folder",
  Cond.selects "DiodeLink$Folder" ⟨"DiodeLink$Folder", "takeOut", "(LDiodeLink$Bytes;)Z"⟩ ⟨"DiodeLink$Folder", "takeOut", "(LDiodeLink$Bytes;)Z"⟩,
  Cond.instanceMethod ⟨"DiodeLink$Journal", "<init>", "()V"⟩,
  Cond.initialized "DiodeLink$Journal",
  Cond.instanceMethod ⟨"DiodeLink$Journal", "dueLink", "(JI)J"⟩,
  Cond.initialized "DiodeLink$Journal",
  Cond.selects "DiodeLink$Journal" ⟨"DiodeLink$Journal", "dueLink", "(JI)J"⟩ ⟨"DiodeLink$Journal", "dueLink", "(JI)J"⟩,
  Cond.instanceMethod ⟨"DiodeLink$Journal", "enter", "(IIII)V"⟩,
  Cond.initialized "DiodeLink$Journal",
  Cond.selects "DiodeLink$Journal" ⟨"DiodeLink$Journal", "enter", "(IIII)V"⟩ ⟨"DiodeLink$Journal", "enter", "(IIII)V"⟩,
  Cond.instanceMethod ⟨"DiodeLink$Journal", "entries", "()I"⟩,
  Cond.initialized "DiodeLink$Journal"]
def zTs21 : List Cond := [
  Cond.selects "DiodeLink$Journal" ⟨"DiodeLink$Journal", "entries", "()I"⟩ ⟨"DiodeLink$Journal", "entries", "()I"⟩,
  Cond.instanceMethod ⟨"DiodeLink$Journal", "firstKept", "()I"⟩,
  Cond.initialized "DiodeLink$Journal",
  Cond.selects "DiodeLink$Journal" ⟨"DiodeLink$Journal", "firstKept", "()I"⟩ ⟨"DiodeLink$Journal", "firstKept", "()I"⟩,
  Cond.instanceMethod ⟨"DiodeLink$Journal", "keeps", "(I)Z"⟩,
  Cond.initialized "DiodeLink$Journal",
  Cond.selects "DiodeLink$Journal" ⟨"DiodeLink$Journal", "keeps", "(I)Z"⟩ ⟨"DiodeLink$Journal", "keeps", "(I)Z"⟩,
  Cond.instanceMethod ⟨"DiodeLink$Journal", "link", "(I)J"⟩,
  Cond.initialized "DiodeLink$Journal",
  Cond.selects "DiodeLink$Journal" ⟨"DiodeLink$Journal", "link", "(I)J"⟩ ⟨"DiodeLink$Journal", "link", "(I)J"⟩,
  Cond.instanceMethod ⟨"DiodeLink$Journal", "linksHold", "()Z"⟩,
  Cond.initialized "DiodeLink$Journal",
  Cond.selects "DiodeLink$Journal" ⟨"DiodeLink$Journal", "linksHold", "()Z"⟩ ⟨"DiodeLink$Journal", "linksHold", "()Z"⟩,
  Cond.instanceMethod ⟨"DiodeLink$Journal", "number", "(II)I"⟩,
  Cond.initialized "DiodeLink$Journal",
  Cond.selects "DiodeLink$Journal" ⟨"DiodeLink$Journal", "number", "(II)I"⟩ ⟨"DiodeLink$Journal", "number", "(II)I"⟩,
  Cond.static ⟨"DiodeLink$Journal", "place", "(II)I"⟩,
  Cond.initialized "DiodeLink$Journal",
  Cond.instanceMethod ⟨"DiodeLink$Journal", "turn", "(III)V"⟩,
  Cond.initialized "DiodeLink$Journal",
  Cond.selects "DiodeLink$Journal" ⟨"DiodeLink$Journal", "turn", "(III)V"⟩ ⟨"DiodeLink$Journal", "turn", "(III)V"⟩,
  Cond.instanceMethod ⟨"DiodeLink$Receiver", "<init>", "(LDiodeLink$Rules;LDiodeLink$Journal;)V"⟩,
  Cond.initialized "DiodeLink$Receiver",
  Cond.instanceMethod ⟨"DiodeLink$Receiver", "allRows", "()I"⟩,
  Cond.initialized "DiodeLink$Receiver",
  Cond.selects "DiodeLink$Receiver" ⟨"DiodeLink$Receiver", "allRows", "()I"⟩ ⟨"DiodeLink$Receiver", "allRows", "()I"⟩,
  Cond.instanceMethod ⟨"DiodeLink$Receiver", "canBe", "(LDiodeLink$Bytes;)Z"⟩,
  Cond.initialized "DiodeLink$Receiver",
  Cond.selects "DiodeLink$Receiver" ⟨"DiodeLink$Receiver", "canBe", "(LDiodeLink$Bytes;)Z"⟩ ⟨"DiodeLink$Receiver", "canBe", "(LDiodeLink$Bytes;)Z"⟩,
  Cond.instanceMethod ⟨"DiodeLink$Receiver", "dropItemRows", "(LDiodeLink$Version;II)V"⟩,
  Cond.initialized "DiodeLink$Receiver",
  Cond.selects "DiodeLink$Receiver" ⟨"DiodeLink$Receiver", "dropItemRows", "(LDiodeLink$Version;II)V"⟩ ⟨"DiodeLink$Receiver", "dropItemRows", "(LDiodeLink$Version;II)V"⟩,
  Cond.instanceMethod ⟨"DiodeLink$Receiver", "dropped", "()I"⟩,
  Cond.initialized "DiodeLink$Receiver",
  Cond.selects "DiodeLink$Receiver" ⟨"DiodeLink$Receiver", "dropped", "()I"⟩ ⟨"DiodeLink$Receiver", "dropped", "()I"⟩,
  Cond.instanceMethod ⟨"DiodeLink$Receiver", "find", "(II)LDiodeLink$Version;"⟩,
  Cond.initialized "DiodeLink$Receiver",
  Cond.selects "DiodeLink$Receiver" ⟨"DiodeLink$Receiver", "find", "(II)LDiodeLink$Version;"⟩ ⟨"DiodeLink$Receiver", "find", "(II)LDiodeLink$Version;"⟩,
  Cond.instanceMethod ⟨"DiodeLink$Receiver", "forgetItem", "(LDiodeLink$Version;II)V"⟩,
  Cond.initialized "DiodeLink$Receiver"]
def zTs22 : List Cond := [
  Cond.selects "DiodeLink$Receiver" ⟨"DiodeLink$Receiver", "forgetItem", "(LDiodeLink$Version;II)V"⟩ ⟨"DiodeLink$Receiver", "forgetItem", "(LDiodeLink$Version;II)V"⟩,
  Cond.instanceMethod ⟨"DiodeLink$Receiver", "greatestOf", "(I)I"⟩,
  Cond.initialized "DiodeLink$Receiver",
  Cond.selects "DiodeLink$Receiver" ⟨"DiodeLink$Receiver", "greatestOf", "(I)I"⟩ ⟨"DiodeLink$Receiver", "greatestOf", "(I)I"⟩,
  Cond.instanceMethod ⟨"DiodeLink$Receiver", "hasOtherSize", "(LDiodeLink$Version;ILDiodeLink$Bytes;)Z"⟩,
  Cond.initialized "DiodeLink$Receiver",
  Cond.selects "DiodeLink$Receiver" ⟨"DiodeLink$Receiver", "hasOtherSize", "(LDiodeLink$Version;ILDiodeLink$Bytes;)Z"⟩ ⟨"DiodeLink$Receiver", "hasOtherSize", "(LDiodeLink$Version;ILDiodeLink$Bytes;)Z"⟩,
  Cond.instanceMethod ⟨"DiodeLink$Receiver", "holdAlike", "(I)V"⟩,
  Cond.initialized "DiodeLink$Receiver",
  Cond.selects "DiodeLink$Receiver" ⟨"DiodeLink$Receiver", "holdAlike", "(I)V"⟩ ⟨"DiodeLink$Receiver", "holdAlike", "(I)V"⟩,
  Cond.instanceMethod ⟨"DiodeLink$Receiver", "holdByOther", "(III)Z"⟩,
  Cond.initialized "DiodeLink$Receiver",
  Cond.selects "DiodeLink$Receiver" ⟨"DiodeLink$Receiver", "holdByOther", "(III)Z"⟩ ⟨"DiodeLink$Receiver", "holdByOther", "(III)Z"⟩,
  Cond.instanceMethod ⟨"DiodeLink$Receiver", "judge", "(LDiodeLink$Version;I)V"⟩,
  Cond.initialized "DiodeLink$Receiver",
  Cond.selects "DiodeLink$Receiver" ⟨"DiodeLink$Receiver", "judge", "(LDiodeLink$Version;I)V"⟩ ⟨"DiodeLink$Receiver", "judge", "(LDiodeLink$Version;I)V"⟩,
  Cond.instanceMethod ⟨"DiodeLink$Receiver", "keepRow", "(LDiodeLink$Version;ILDiodeLink$Bytes;)Z"⟩,
  Cond.initialized "DiodeLink$Receiver",
  Cond.selects "DiodeLink$Receiver" ⟨"DiodeLink$Receiver", "keepRow", "(LDiodeLink$Version;ILDiodeLink$Bytes;)Z"⟩ ⟨"DiodeLink$Receiver", "keepRow", "(LDiodeLink$Version;ILDiodeLink$Bytes;)Z"⟩,
  Cond.instanceMethod ⟨"DiodeLink$Receiver", "knownAt", "(II)LDiodeLink$Version;"⟩,
  Cond.initialized "DiodeLink$Receiver",
  Cond.selects "DiodeLink$Receiver" ⟨"DiodeLink$Receiver", "knownAt", "(II)LDiodeLink$Version;"⟩ ⟨"DiodeLink$Receiver", "knownAt", "(II)LDiodeLink$Version;"⟩,
  Cond.instanceMethod ⟨"DiodeLink$Receiver", "learn", "(II)LDiodeLink$Version;"⟩,
  Cond.initialized "DiodeLink$Receiver",
  Cond.selects "DiodeLink$Receiver" ⟨"DiodeLink$Receiver", "learn", "(II)LDiodeLink$Version;"⟩ ⟨"DiodeLink$Receiver", "learn", "(II)LDiodeLink$Version;"⟩,
  Cond.instanceMethod ⟨"DiodeLink$Receiver", "leastOf", "(I)LDiodeLink$Version;"⟩,
  Cond.initialized "DiodeLink$Receiver",
  Cond.selects "DiodeLink$Receiver" ⟨"DiodeLink$Receiver", "leastOf", "(I)LDiodeLink$Version;"⟩ ⟨"DiodeLink$Receiver", "leastOf", "(I)LDiodeLink$Version;"⟩,
  Cond.instanceMethod ⟨"DiodeLink$Receiver", "leastToJudge", "(I)LDiodeLink$Version;"⟩,
  Cond.initialized "DiodeLink$Receiver",
  Cond.selects "DiodeLink$Receiver" ⟨"DiodeLink$Receiver", "leastToJudge", "(I)LDiodeLink$Version;"⟩ ⟨"DiodeLink$Receiver", "leastToJudge", "(I)LDiodeLink$Version;"⟩,
  Cond.instanceMethod ⟨"DiodeLink$Receiver", "letOut", "(I)I"⟩,
  Cond.initialized "DiodeLink$Receiver",
  Cond.selects "DiodeLink$Receiver" ⟨"DiodeLink$Receiver", "letOut", "(I)I"⟩ ⟨"DiodeLink$Receiver", "letOut", "(I)I"⟩,
  Cond.instanceMethod ⟨"DiodeLink$Receiver", "listen", "(LDiodeLink$Bytes;)I"⟩,
  Cond.initialized "DiodeLink$Receiver",
  Cond.selects "DiodeLink$Receiver" ⟨"DiodeLink$Receiver", "listen", "(LDiodeLink$Bytes;)I"⟩ ⟨"DiodeLink$Receiver", "listen", "(LDiodeLink$Bytes;)I"⟩,
  Cond.instanceMethod ⟨"DiodeLink$Receiver", "lookAt", "(LDiodeLink$Version;II)V"⟩,
  Cond.initialized "DiodeLink$Receiver",
  Cond.selects "DiodeLink$Receiver" ⟨"DiodeLink$Receiver", "lookAt", "(LDiodeLink$Version;II)V"⟩ ⟨"DiodeLink$Receiver", "lookAt", "(LDiodeLink$Version;II)V"⟩]
def zTs23 : List Cond := [
  Cond.instanceMethod ⟨"DiodeLink$Receiver", "lookAtFile", "(LDiodeLink$Version;II)V"⟩,
  Cond.initialized "DiodeLink$Receiver",
  Cond.selects "DiodeLink$Receiver" ⟨"DiodeLink$Receiver", "lookAtFile", "(LDiodeLink$Version;II)V"⟩ ⟨"DiodeLink$Receiver", "lookAtFile", "(LDiodeLink$Version;II)V"⟩,
  Cond.instanceMethod ⟨"DiodeLink$Receiver", "loseRows", "()V"⟩,
  Cond.initialized "DiodeLink$Receiver",
  Cond.selects "DiodeLink$Receiver" ⟨"DiodeLink$Receiver", "loseRows", "()V"⟩ ⟨"DiodeLink$Receiver", "loseRows", "()V"⟩,
  Cond.instanceMethod ⟨"DiodeLink$Receiver", "makeRoom", "()Z"⟩,
  Cond.initialized "DiodeLink$Receiver",
  Cond.selects "DiodeLink$Receiver" ⟨"DiodeLink$Receiver", "makeRoom", "()Z"⟩ ⟨"DiodeLink$Receiver", "makeRoom", "()Z"⟩,
  Cond.static ⟨"DiodeLink$Receiver", "maskOf", "(LDiodeLink$Bytes;)I"⟩,
  Cond.initialized "DiodeLink$Receiver",
  Cond.instanceMethod ⟨"DiodeLink$Receiver", "noteLife", "(I)V"⟩,
  Cond.initialized "DiodeLink$Receiver",
  Cond.selects "DiodeLink$Receiver" ⟨"DiodeLink$Receiver", "noteLife", "(I)V"⟩ ⟨"DiodeLink$Receiver", "noteLife", "(I)V"⟩,
  Cond.static ⟨"DiodeLink$Receiver", "piecesOf", "(LDiodeLink$Bytes;)I"⟩,
  Cond.initialized "DiodeLink$Receiver",
  Cond.instanceMethod ⟨"DiodeLink$Receiver", "rowsOf", "(IIII)I"⟩,
  Cond.initialized "DiodeLink$Receiver",
  Cond.selects "DiodeLink$Receiver" ⟨"DiodeLink$Receiver", "rowsOf", "(IIII)I"⟩ ⟨"DiodeLink$Receiver", "rowsOf", "(IIII)I"⟩,
  Cond.instanceMethod ⟨"DiodeLink$Receiver", "shown", "(I)LDiodeLink$Version;"⟩,
  Cond.initialized "DiodeLink$Receiver",
  Cond.selects "DiodeLink$Receiver" ⟨"DiodeLink$Receiver", "shown", "(I)LDiodeLink$Version;"⟩ ⟨"DiodeLink$Receiver", "shown", "(I)LDiodeLink$Version;"⟩,
  Cond.instanceMethod ⟨"DiodeLink$Receiver", "stateOf", "(II)I"⟩,
  Cond.initialized "DiodeLink$Receiver",
  Cond.selects "DiodeLink$Receiver" ⟨"DiodeLink$Receiver", "stateOf", "(II)I"⟩ ⟨"DiodeLink$Receiver", "stateOf", "(II)I"⟩,
  Cond.instanceMethod ⟨"DiodeLink$Receiver", "whyDropped", "(LDiodeLink$Bytes;)I"⟩,
  Cond.initialized "DiodeLink$Receiver",
  Cond.selects "DiodeLink$Receiver" ⟨"DiodeLink$Receiver", "whyDropped", "(LDiodeLink$Bytes;)I"⟩ ⟨"DiodeLink$Receiver", "whyDropped", "(LDiodeLink$Bytes;)I"⟩,
  Cond.instanceMethod ⟨"DiodeLink$Rows", "<init>", "()V"⟩,
  Cond.initialized "DiodeLink$Rows",
  Cond.instanceMethod ⟨"DiodeLink$Rows", "add", "(IIJ)V"⟩,
  Cond.initialized "DiodeLink$Rows",
  Cond.selects "DiodeLink$Rows" ⟨"DiodeLink$Rows", "add", "(IIJ)V"⟩ ⟨"DiodeLink$Rows", "add", "(IIJ)V"⟩,
  Cond.instanceMethod ⟨"DiodeLink$Rows", "drop", "(II)V"⟩,
  Cond.initialized "DiodeLink$Rows",
  Cond.selects "DiodeLink$Rows" ⟨"DiodeLink$Rows", "drop", "(II)V"⟩ ⟨"DiodeLink$Rows", "drop", "(II)V"⟩,
  Cond.instanceMethod ⟨"DiodeLink$Rows", "dropAll", "()V"⟩,
  Cond.initialized "DiodeLink$Rows",
  Cond.selects "DiodeLink$Rows" ⟨"DiodeLink$Rows", "dropAll", "()V"⟩ ⟨"DiodeLink$Rows", "dropAll", "()V"⟩,
  Cond.static ⟨"DiodeLink$Rows", "firstKey", "(I)I"⟩]
def zTs24 : List Cond := [
  Cond.initialized "DiodeLink$Rows",
  Cond.instanceMethod ⟨"DiodeLink$Rows", "hasPivotIn", "(III)Z"⟩,
  Cond.initialized "DiodeLink$Rows",
  Cond.selects "DiodeLink$Rows" ⟨"DiodeLink$Rows", "hasPivotIn", "(III)Z"⟩ ⟨"DiodeLink$Rows", "hasPivotIn", "(III)Z"⟩,
  Cond.instanceMethod ⟨"DiodeLink$Rows", "isFull", "()Z"⟩,
  Cond.initialized "DiodeLink$Rows",
  Cond.selects "DiodeLink$Rows" ⟨"DiodeLink$Rows", "isFull", "()Z"⟩ ⟨"DiodeLink$Rows", "isFull", "()Z"⟩,
  Cond.static ⟨"DiodeLink$Rows", "key", "(III)I"⟩,
  Cond.initialized "DiodeLink$Rows",
  Cond.static ⟨"DiodeLink$Rows", "lastKey", "(I)I"⟩,
  Cond.initialized "DiodeLink$Rows",
  Cond.static ⟨"DiodeLink$Rows", "owner", "(II)I"⟩,
  Cond.initialized "DiodeLink$Rows",
  Cond.instanceMethod ⟨"DiodeLink$Rows", "ownerAt", "(I)I"⟩,
  Cond.initialized "DiodeLink$Rows",
  Cond.selects "DiodeLink$Rows" ⟨"DiodeLink$Rows", "ownerAt", "(I)I"⟩ ⟨"DiodeLink$Rows", "ownerAt", "(I)I"⟩,
  Cond.instanceMethod ⟨"DiodeLink$Rows", "piece", "(II)J"⟩,
  Cond.initialized "DiodeLink$Rows",
  Cond.selects "DiodeLink$Rows" ⟨"DiodeLink$Rows", "piece", "(II)J"⟩ ⟨"DiodeLink$Rows", "piece", "(II)J"⟩,
  Cond.instanceMethod ⟨"DiodeLink$Rows", "rowsIn", "(II)I"⟩,
  Cond.initialized "DiodeLink$Rows",
  Cond.selects "DiodeLink$Rows" ⟨"DiodeLink$Rows", "rowsIn", "(II)I"⟩ ⟨"DiodeLink$Rows", "rowsIn", "(II)I"⟩,
  Cond.instanceMethod ⟨"DiodeLink$Rows", "tells", "(II)Z"⟩,
  Cond.initialized "DiodeLink$Rows",
  Cond.selects "DiodeLink$Rows" ⟨"DiodeLink$Rows", "tells", "(II)Z"⟩ ⟨"DiodeLink$Rows", "tells", "(II)Z"⟩,
  Cond.instanceMethod ⟨"DiodeLink$Rows", "used", "()I"⟩,
  Cond.initialized "DiodeLink$Rows",
  Cond.selects "DiodeLink$Rows" ⟨"DiodeLink$Rows", "used", "()I"⟩ ⟨"DiodeLink$Rows", "used", "()I"⟩,
  Cond.instanceMethod ⟨"DiodeLink$Rules", "<init>", "()V"⟩,
  Cond.initialized "DiodeLink$Rules",
  Cond.instanceMethod ⟨"DiodeLink$Rules", "brokenBy", "(ILDiodeLink$Version;)I"⟩,
  Cond.initialized "DiodeLink$Rules",
  Cond.selects "DiodeLink$Rules" ⟨"DiodeLink$Rules", "brokenBy", "(ILDiodeLink$Version;)I"⟩ ⟨"DiodeLink$Rules", "brokenBy", "(ILDiodeLink$Version;)I"⟩,
  Cond.static ⟨"DiodeLink$Rules", "greatestValue", "(I)I"⟩,
  Cond.initialized "DiodeLink$Rules",
  Cond.instanceMethod ⟨"DiodeLink$Rules", "hasBadSign", "(LDiodeLink$Version;I)Z"⟩,
  Cond.initialized "DiodeLink$Rules",
  Cond.selects "DiodeLink$Rules" ⟨"DiodeLink$Rules", "hasBadSign", "(LDiodeLink$Version;I)Z"⟩ ⟨"DiodeLink$Rules", "hasBadSign", "(LDiodeLink$Version;I)Z"⟩,
  Cond.instanceMethod ⟨"DiodeLink$Rules", "isBrokenByFile", "(ILDiodeLink$Version;I)Z"⟩,
  Cond.initialized "DiodeLink$Rules"]
def zTs25 : List Cond := [
  Cond.selects "DiodeLink$Rules" ⟨"DiodeLink$Rules", "isBrokenByFile", "(ILDiodeLink$Version;I)Z"⟩ ⟨"DiodeLink$Rules", "isBrokenByFile", "(ILDiodeLink$Version;I)Z"⟩,
  Cond.instanceMethod ⟨"DiodeLink$Rules", "set", "(IIZ)V"⟩,
  Cond.initialized "DiodeLink$Rules",
  Cond.selects "DiodeLink$Rules" ⟨"DiodeLink$Rules", "set", "(IIZ)V"⟩ ⟨"DiodeLink$Rules", "set", "(IIZ)V"⟩,
  Cond.instanceMethod ⟨"DiodeLink$Sender", "<init>", "()V"⟩,
  Cond.initialized "DiodeLink$Sender",
  Cond.instanceMethod ⟨"DiodeLink$Sender", "beginLife", "()Z"⟩,
  Cond.initialized "DiodeLink$Sender",
  Cond.selects "DiodeLink$Sender" ⟨"DiodeLink$Sender", "beginLife", "()Z"⟩ ⟨"DiodeLink$Sender", "beginLife", "()Z"⟩,
  Cond.instanceMethod ⟨"DiodeLink$Sender", "beginRounds", "()V"⟩,
  Cond.initialized "DiodeLink$Sender",
  Cond.selects "DiodeLink$Sender" ⟨"DiodeLink$Sender", "beginRounds", "()V"⟩ ⟨"DiodeLink$Sender", "beginRounds", "()V"⟩,
  Cond.instanceMethod ⟨"DiodeLink$Sender", "fillFrom", "(LDiodeLink$Bytes;II)V"⟩,
  Cond.initialized "DiodeLink$Sender",
  Cond.selects "DiodeLink$Sender" ⟨"DiodeLink$Sender", "fillFrom", "(LDiodeLink$Bytes;II)V"⟩ ⟨"DiodeLink$Sender", "fillFrom", "(LDiodeLink$Bytes;II)V"⟩,
  Cond.instanceMethod ⟨"DiodeLink$Sender", "fillNext", "(LDiodeLink$Bytes;)Z"⟩,
  Cond.initialized "DiodeLink$Sender",
  Cond.selects "DiodeLink$Sender" ⟨"DiodeLink$Sender", "fillNext", "(LDiodeLink$Bytes;)Z"⟩ ⟨"DiodeLink$Sender", "fillNext", "(LDiodeLink$Bytes;)Z"⟩,
  Cond.instanceMethod ⟨"DiodeLink$Sender", "folder", "(I)LDiodeLink$Folder;"⟩,
  Cond.initialized "DiodeLink$Sender",
  Cond.selects "DiodeLink$Sender" ⟨"DiodeLink$Sender", "folder", "(I)LDiodeLink$Folder;"⟩ ⟨"DiodeLink$Sender", "folder", "(I)LDiodeLink$Folder;"⟩,
  Cond.instanceMethod ⟨"DiodeLink$Sender", "life", "()I"⟩,
  Cond.initialized "DiodeLink$Sender",
  Cond.selects "DiodeLink$Sender" ⟨"DiodeLink$Sender", "life", "()I"⟩ ⟨"DiodeLink$Sender", "life", "()I"⟩,
  Cond.instanceMethod ⟨"DiodeLink$Sender", "makeVersion", "(I)I"⟩,
  Cond.initialized "DiodeLink$Sender",
  Cond.selects "DiodeLink$Sender" ⟨"DiodeLink$Sender", "makeVersion", "(I)I"⟩ ⟨"DiodeLink$Sender", "makeVersion", "(I)I"⟩,
  Cond.static ⟨"DiodeLink$Sender", "oldestAge", "(I)I"⟩,
  Cond.initialized "DiodeLink$Sender",
  Cond.instanceMethod ⟨"DiodeLink$Sender", "packetsOf", "(I)I"⟩,
  Cond.initialized "DiodeLink$Sender",
  Cond.selects "DiodeLink$Sender" ⟨"DiodeLink$Sender", "packetsOf", "(I)I"⟩ ⟨"DiodeLink$Sender", "packetsOf", "(I)I"⟩,
  Cond.static ⟨"DiodeLink$Sender", "youngestAge", "(I)I"⟩,
  Cond.initialized "DiodeLink$Sender",
  Cond.instanceMethod ⟨"DiodeLink$Version", "<init>", "()V"⟩,
  Cond.initialized "DiodeLink$Version",
  Cond.instanceMethod ⟨"DiodeLink$Version", "become", "(I)V"⟩,
  Cond.initialized "DiodeLink$Version",
  Cond.selects "DiodeLink$Version" ⟨"DiodeLink$Version", "become", "(I)V"⟩ ⟨"DiodeLink$Version", "become", "(I)V"⟩,
  Cond.instanceMethod ⟨"DiodeLink$Version", "begin", "(I)V"⟩]
def zTs26 : List Cond := [
  Cond.initialized "DiodeLink$Version",
  Cond.selects "DiodeLink$Version" ⟨"DiodeLink$Version", "begin", "(I)V"⟩ ⟨"DiodeLink$Version", "begin", "(I)V"⟩,
  Cond.instanceMethod ⟨"DiodeLink$Version", "clearItem", "(I)V"⟩,
  Cond.initialized "DiodeLink$Version",
  Cond.selects "DiodeLink$Version" ⟨"DiodeLink$Version", "clearItem", "(I)V"⟩ ⟨"DiodeLink$Version", "clearItem", "(I)V"⟩,
  Cond.instanceMethod ⟨"DiodeLink$Version", "fileSize", "(I)I"⟩,
  Cond.initialized "DiodeLink$Version",
  Cond.selects "DiodeLink$Version" ⟨"DiodeLink$Version", "fileSize", "(I)I"⟩ ⟨"DiodeLink$Version", "fileSize", "(I)I"⟩,
  Cond.instanceMethod ⟨"DiodeLink$Version", "files", "()I"⟩,
  Cond.initialized "DiodeLink$Version",
  Cond.selects "DiodeLink$Version" ⟨"DiodeLink$Version", "files", "()I"⟩ ⟨"DiodeLink$Version", "files", "()I"⟩,
  Cond.instanceMethod ⟨"DiodeLink$Version", "hasSolved", "(I)Z"⟩,
  Cond.initialized "DiodeLink$Version",
  Cond.selects "DiodeLink$Version" ⟨"DiodeLink$Version", "hasSolved", "(I)Z"⟩ ⟨"DiodeLink$Version", "hasSolved", "(I)Z"⟩,
  Cond.instanceMethod ⟨"DiodeLink$Version", "heldLike", "(LDiodeLink$Version;I)I"⟩,
  Cond.initialized "DiodeLink$Version",
  Cond.selects "DiodeLink$Version" ⟨"DiodeLink$Version", "heldLike", "(LDiodeLink$Version;I)I"⟩ ⟨"DiodeLink$Version", "heldLike", "(LDiodeLink$Version;I)I"⟩,
  Cond.instanceMethod ⟨"DiodeLink$Version", "holdCopy", "(ILDiodeLink$Bytes;)V"⟩,
  Cond.initialized "DiodeLink$Version",
  Cond.selects "DiodeLink$Version" ⟨"DiodeLink$Version", "holdCopy", "(ILDiodeLink$Bytes;)V"⟩ ⟨"DiodeLink$Version", "holdCopy", "(ILDiodeLink$Bytes;)V"⟩,
  Cond.instanceMethod ⟨"DiodeLink$Version", "holdIfRight", "(I)Z"⟩,
  Cond.initialized "DiodeLink$Version",
  Cond.selects "DiodeLink$Version" ⟨"DiodeLink$Version", "holdIfRight", "(I)Z"⟩ ⟨"DiodeLink$Version", "holdIfRight", "(I)Z"⟩,
  Cond.instanceMethod ⟨"DiodeLink$Version", "holds", "(I)Z"⟩,
  Cond.initialized "DiodeLink$Version",
  Cond.selects "DiodeLink$Version" ⟨"DiodeLink$Version", "holds", "(I)Z"⟩ ⟨"DiodeLink$Version", "holds", "(I)Z"⟩,
  Cond.instanceMethod ⟨"DiodeLink$Version", "isBehindLast", "(I)Z"⟩,
  Cond.initialized "DiodeLink$Version",
  Cond.selects "DiodeLink$Version" ⟨"DiodeLink$Version", "isBehindLast", "(I)Z"⟩ ⟨"DiodeLink$Version", "isBehindLast", "(I)Z"⟩,
  Cond.instanceMethod ⟨"DiodeLink$Version", "isComplete", "(I)Z"⟩,
  Cond.initialized "DiodeLink$Version",
  Cond.selects "DiodeLink$Version" ⟨"DiodeLink$Version", "isComplete", "(I)Z"⟩ ⟨"DiodeLink$Version", "isComplete", "(I)Z"⟩,
  Cond.instanceMethod ⟨"DiodeLink$Version", "isGood", "()Z"⟩,
  Cond.initialized "DiodeLink$Version",
  Cond.selects "DiodeLink$Version" ⟨"DiodeLink$Version", "isGood", "()Z"⟩ ⟨"DiodeLink$Version", "isGood", "()Z"⟩,
  Cond.instanceMethod ⟨"DiodeLink$Version", "isSolved", "(II)Z"⟩,
  Cond.initialized "DiodeLink$Version",
  Cond.selects "DiodeLink$Version" ⟨"DiodeLink$Version", "isSolved", "(II)Z"⟩ ⟨"DiodeLink$Version", "isSolved", "(II)Z"⟩,
  Cond.instanceMethod ⟨"DiodeLink$Version", "isWhole", "()Z"⟩,
  Cond.initialized "DiodeLink$Version"]
def zTs27 : List Cond := [
  Cond.selects "DiodeLink$Version" ⟨"DiodeLink$Version", "isWhole", "()Z"⟩ ⟨"DiodeLink$Version", "isWhole", "()Z"⟩,
  Cond.instanceMethod ⟨"DiodeLink$Version", "item", "(I)LDiodeLink$Bytes;"⟩,
  Cond.initialized "DiodeLink$Version",
  Cond.selects "DiodeLink$Version" ⟨"DiodeLink$Version", "item", "(I)LDiodeLink$Bytes;"⟩ ⟨"DiodeLink$Version", "item", "(I)LDiodeLink$Bytes;"⟩,
  Cond.instanceMethod ⟨"DiodeLink$Version", "namePlace", "(I)I"⟩,
  Cond.initialized "DiodeLink$Version",
  Cond.selects "DiodeLink$Version" ⟨"DiodeLink$Version", "namePlace", "(I)I"⟩ ⟨"DiodeLink$Version", "namePlace", "(I)I"⟩,
  Cond.instanceMethod ⟨"DiodeLink$Version", "nameSize", "(I)I"⟩,
  Cond.initialized "DiodeLink$Version",
  Cond.selects "DiodeLink$Version" ⟨"DiodeLink$Version", "nameSize", "(I)I"⟩ ⟨"DiodeLink$Version", "nameSize", "(I)I"⟩,
  Cond.instanceMethod ⟨"DiodeLink$Version", "number", "()I"⟩,
  Cond.initialized "DiodeLink$Version",
  Cond.selects "DiodeLink$Version" ⟨"DiodeLink$Version", "number", "()I"⟩ ⟨"DiodeLink$Version", "number", "()I"⟩,
  Cond.instanceMethod ⟨"DiodeLink$Version", "readManifest", "()Z"⟩,
  Cond.initialized "DiodeLink$Version",
  Cond.selects "DiodeLink$Version" ⟨"DiodeLink$Version", "readManifest", "()Z"⟩ ⟨"DiodeLink$Version", "readManifest", "()Z"⟩,
  Cond.instanceMethod ⟨"DiodeLink$Version", "showFrom", "(LDiodeLink$Version;)V"⟩,
  Cond.initialized "DiodeLink$Version",
  Cond.selects "DiodeLink$Version" ⟨"DiodeLink$Version", "showFrom", "(LDiodeLink$Version;)V"⟩ ⟨"DiodeLink$Version", "showFrom", "(LDiodeLink$Version;)V"⟩,
  Cond.instanceMethod ⟨"DiodeLink$Version", "solve", "(II)V"⟩,
  Cond.initialized "DiodeLink$Version",
  Cond.selects "DiodeLink$Version" ⟨"DiodeLink$Version", "solve", "(II)V"⟩ ⟨"DiodeLink$Version", "solve", "(II)V"⟩,
  Cond.instanceMethod ⟨"DiodeLink$Version", "state", "()I"⟩,
  Cond.initialized "DiodeLink$Version",
  Cond.selects "DiodeLink$Version" ⟨"DiodeLink$Version", "state", "()I"⟩ ⟨"DiodeLink$Version", "state", "()I"⟩,
  Cond.static ⟨"DiodeLinkLaw", "alter", "(LDiodeLink;III)I"⟩,
  Cond.initialized "DiodeLinkLaw",
  Cond.static ⟨"DiodeLinkLaw", "commit", "(LDiodeLink;I[J)I"⟩,
  Cond.initialized "DiodeLinkLaw",
  Cond.static ⟨"DiodeLinkLaw", "count", "(LDiodeLink;I[J)I"⟩,
  Cond.initialized "DiodeLinkLaw",
  Cond.static ⟨"DiodeLinkLaw", "feed", "(LDiodeLink;ZJI[J)I"⟩,
  Cond.initialized "DiodeLinkLaw",
  Cond.static ⟨"DiodeLinkLaw", "file", "(LDiodeLink;IIIZ[J)I"⟩,
  Cond.initialized "DiodeLinkLaw",
  Cond.static ⟨"DiodeLinkLaw", "have", "(LDiodeLink;II[J)I"⟩,
  Cond.initialized "DiodeLinkLaw",
  Cond.static ⟨"DiodeLinkLaw", "hear", "(LDiodeLink;I[J)I"⟩,
  Cond.initialized "DiodeLinkLaw",
  Cond.static ⟨"DiodeLinkLaw", "journal", "(LDiodeLink;II[J)I"⟩]
def zTs28 : List Cond := [
  Cond.initialized "DiodeLinkLaw",
  Cond.static ⟨"DiodeLinkLaw", "packet", "(LDiodeLink;II[J)I"⟩,
  Cond.initialized "DiodeLinkLaw",
  Cond.static ⟨"DiodeLinkLaw", "rank", "(LDiodeLink;IIII[J)I"⟩,
  Cond.initialized "DiodeLinkLaw",
  Cond.static ⟨"DiodeLinkLaw", "release", "(LDiodeLink;I[J)I"⟩,
  Cond.initialized "DiodeLinkLaw",
  Cond.static ⟨"DiodeLinkLaw", "released", "(LDiodeLink;I[J)I"⟩,
  Cond.initialized "DiodeLinkLaw",
  Cond.static ⟨"DiodeLinkLaw", "remove", "(LDiodeLink;I[J)I"⟩,
  Cond.initialized "DiodeLinkLaw",
  Cond.static ⟨"DiodeLinkLaw", "restartSender", "(LDiodeLink;[J)I"⟩,
  Cond.initialized "DiodeLinkLaw",
  Cond.static ⟨"DiodeLinkLaw", "rule", "(LDiodeLink;IIZ)I"⟩,
  Cond.initialized "DiodeLinkLaw",
  Cond.static ⟨"DiodeLinkLaw", "send", "(LDiodeLink;[J)I"⟩,
  Cond.initialized "DiodeLinkLaw",
  Cond.static ⟨"DiodeLinkLaw", "touch", "(LDiodeLink;III)I"⟩,
  Cond.initialized "DiodeLinkLaw",
  Cond.static ⟨"DiodeLinkLaw", "write", "(LDiodeLink;I[J)I"⟩,
  Cond.initialized "DiodeLinkLaw",
  Cond.instanceMethod ⟨"DiodeLinkModel", "<init>", "()V"⟩,
  Cond.initialized "DiodeLinkModel",
  Cond.instanceMethod ⟨"DiodeLinkModel", "alter", "(III)V"⟩,
  Cond.initialized "DiodeLinkModel",
  Cond.selects "DiodeLinkModel" ⟨"DiodeLinkModel", "alter", "(III)V"⟩ ⟨"DiodeLinkModel", "alter", "(III)V"⟩,
  Cond.instanceMethod ⟨"DiodeLinkModel", "anew", "()V"⟩,
  Cond.initialized "DiodeLinkModel",
  Cond.selects "DiodeLinkModel" ⟨"DiodeLinkModel", "anew", "()V"⟩ ⟨"DiodeLinkModel", "anew", "()V"⟩,
  Cond.static ⟨"DiodeLinkModel", "begin", "()J"⟩,
  Cond.initialized "DiodeLinkModel",
  Cond.static ⟨"DiodeLinkModel", "blocks", "(I)I"⟩,
  Cond.initialized "DiodeLinkModel",
  Cond.instanceMethod ⟨"DiodeLinkModel", "borrows", "(II)Z"⟩,
  Cond.initialized "DiodeLinkModel",
  Cond.selects "DiodeLinkModel" ⟨"DiodeLinkModel", "borrows", "(II)Z"⟩ ⟨"DiodeLinkModel", "borrows", "(II)Z"⟩,
  Cond.instanceMethod ⟨"DiodeLinkModel", "breaks", "(III)Z"⟩,
  Cond.initialized "DiodeLinkModel",
  Cond.selects "DiodeLinkModel" ⟨"DiodeLinkModel", "breaks", "(III)Z"⟩ ⟨"DiodeLinkModel", "breaks", "(III)Z"⟩,
  Cond.instanceMethod ⟨"DiodeLinkModel", "byteOf", "(II)I"⟩]
def zTs29 : List Cond := [
  Cond.initialized "DiodeLinkModel",
  Cond.selects "DiodeLinkModel" ⟨"DiodeLinkModel", "byteOf", "(II)I"⟩ ⟨"DiodeLinkModel", "byteOf", "(II)I"⟩,
  Cond.instanceMethod ⟨"DiodeLinkModel", "canBe", "(I)Z"⟩,
  Cond.initialized "DiodeLinkModel",
  Cond.selects "DiodeLinkModel" ⟨"DiodeLinkModel", "canBe", "(I)Z"⟩ ⟨"DiodeLinkModel", "canBe", "(I)Z"⟩,
  Cond.instanceMethod ⟨"DiodeLinkModel", "clear", "(I)V"⟩,
  Cond.initialized "DiodeLinkModel",
  Cond.selects "DiodeLinkModel" ⟨"DiodeLinkModel", "clear", "(I)V"⟩ ⟨"DiodeLinkModel", "clear", "(I)V"⟩,
  Cond.instanceMethod ⟨"DiodeLinkModel", "commit", "(I)I"⟩,
  Cond.initialized "DiodeLinkModel",
  Cond.selects "DiodeLinkModel" ⟨"DiodeLinkModel", "commit", "(I)I"⟩ ⟨"DiodeLinkModel", "commit", "(I)I"⟩,
  Cond.instanceMethod ⟨"DiodeLinkModel", "compare", "(II)V"⟩,
  Cond.initialized "DiodeLinkModel",
  Cond.selects "DiodeLinkModel" ⟨"DiodeLinkModel", "compare", "(II)V"⟩ ⟨"DiodeLinkModel", "compare", "(II)V"⟩,
  Cond.instanceMethod ⟨"DiodeLinkModel", "completes", "(II)V"⟩,
  Cond.initialized "DiodeLinkModel",
  Cond.selects "DiodeLinkModel" ⟨"DiodeLinkModel", "completes", "(II)V"⟩ ⟨"DiodeLinkModel", "completes", "(II)V"⟩,
  Cond.instanceMethod ⟨"DiodeLinkModel", "count", "(I)I"⟩,
  Cond.initialized "DiodeLinkModel",
  Cond.selects "DiodeLinkModel" ⟨"DiodeLinkModel", "count", "(I)I"⟩ ⟨"DiodeLinkModel", "count", "(I)I"⟩,
  Cond.instanceMethod ⟨"DiodeLinkModel", "drop", "(III)V"⟩,
  Cond.initialized "DiodeLinkModel",
  Cond.selects "DiodeLinkModel" ⟨"DiodeLinkModel", "drop", "(III)V"⟩ ⟨"DiodeLinkModel", "drop", "(III)V"⟩,
  Cond.instanceMethod ⟨"DiodeLinkModel", "drops", "(I)I"⟩,
  Cond.initialized "DiodeLinkModel",
  Cond.selects "DiodeLinkModel" ⟨"DiodeLinkModel", "drops", "(I)I"⟩ ⟨"DiodeLinkModel", "drops", "(I)I"⟩,
  Cond.instanceMethod ⟨"DiodeLinkModel", "eight", "(II)J"⟩,
  Cond.initialized "DiodeLinkModel",
  Cond.selects "DiodeLinkModel" ⟨"DiodeLinkModel", "eight", "(II)J"⟩ ⟨"DiodeLinkModel", "eight", "(II)J"⟩,
  Cond.instanceMethod ⟨"DiodeLinkModel", "empty", "(I)V"⟩,
  Cond.initialized "DiodeLinkModel",
  Cond.selects "DiodeLinkModel" ⟨"DiodeLinkModel", "empty", "(I)V"⟩ ⟨"DiodeLinkModel", "empty", "(I)V"⟩,
  Cond.instanceMethod ⟨"DiodeLinkModel", "fails", "(ZI)Z"⟩,
  Cond.initialized "DiodeLinkModel",
  Cond.selects "DiodeLinkModel" ⟨"DiodeLinkModel", "fails", "(ZI)Z"⟩ ⟨"DiodeLinkModel", "fails", "(ZI)Z"⟩,
  Cond.instanceMethod ⟨"DiodeLinkModel", "feed", "(ZJI)I"⟩,
  Cond.initialized "DiodeLinkModel",
  Cond.selects "DiodeLinkModel" ⟨"DiodeLinkModel", "feed", "(ZJI)I"⟩ ⟨"DiodeLinkModel", "feed", "(ZJI)I"⟩,
  Cond.instanceMethod ⟨"DiodeLinkModel", "file", "(IIIZ)I"⟩,
  Cond.initialized "DiodeLinkModel"]
def zTs30 : List Cond := [
  Cond.selects "DiodeLinkModel" ⟨"DiodeLinkModel", "file", "(IIIZ)I"⟩ ⟨"DiodeLinkModel", "file", "(IIIZ)I"⟩,
  Cond.instanceMethod ⟨"DiodeLinkModel", "forget", "(I)V"⟩,
  Cond.initialized "DiodeLinkModel",
  Cond.selects "DiodeLinkModel" ⟨"DiodeLinkModel", "forget", "(I)V"⟩ ⟨"DiodeLinkModel", "forget", "(I)V"⟩,
  Cond.instanceMethod ⟨"DiodeLinkModel", "has", "(I)Z"⟩,
  Cond.initialized "DiodeLinkModel",
  Cond.selects "DiodeLinkModel" ⟨"DiodeLinkModel", "has", "(I)Z"⟩ ⟨"DiodeLinkModel", "has", "(I)Z"⟩,
  Cond.instanceMethod ⟨"DiodeLinkModel", "hasRows", "(I)Z"⟩,
  Cond.initialized "DiodeLinkModel",
  Cond.selects "DiodeLinkModel" ⟨"DiodeLinkModel", "hasRows", "(I)Z"⟩ ⟨"DiodeLinkModel", "hasRows", "(I)Z"⟩,
  Cond.instanceMethod ⟨"DiodeLinkModel", "hashOf", "(I)J"⟩,
  Cond.initialized "DiodeLinkModel",
  Cond.selects "DiodeLinkModel" ⟨"DiodeLinkModel", "hashOf", "(I)J"⟩ ⟨"DiodeLinkModel", "hashOf", "(I)J"⟩,
  Cond.instanceMethod ⟨"DiodeLinkModel", "hashTold", "(II)J"⟩,
  Cond.initialized "DiodeLinkModel",
  Cond.selects "DiodeLinkModel" ⟨"DiodeLinkModel", "hashTold", "(II)J"⟩ ⟨"DiodeLinkModel", "hashTold", "(II)J"⟩,
  Cond.instanceMethod ⟨"DiodeLinkModel", "have", "(II)I"⟩,
  Cond.initialized "DiodeLinkModel",
  Cond.selects "DiodeLinkModel" ⟨"DiodeLinkModel", "have", "(II)I"⟩ ⟨"DiodeLinkModel", "have", "(II)I"⟩,
  Cond.instanceMethod ⟨"DiodeLinkModel", "hear", "(I)I"⟩,
  Cond.initialized "DiodeLinkModel",
  Cond.selects "DiodeLinkModel" ⟨"DiodeLinkModel", "hear", "(I)I"⟩ ⟨"DiodeLinkModel", "hear", "(I)I"⟩,
  Cond.instanceMethod ⟨"DiodeLinkModel", "hears", "(II)I"⟩,
  Cond.initialized "DiodeLinkModel",
  Cond.selects "DiodeLinkModel" ⟨"DiodeLinkModel", "hears", "(II)I"⟩ ⟨"DiodeLinkModel", "hears", "(II)I"⟩,
  Cond.static ⟨"DiodeLinkModel", "in", "(III)Z"⟩,
  Cond.initialized "DiodeLinkModel",
  Cond.instanceMethod ⟨"DiodeLinkModel", "isBelow", "(III)Z"⟩,
  Cond.initialized "DiodeLinkModel",
  Cond.selects "DiodeLinkModel" ⟨"DiodeLinkModel", "isBelow", "(III)Z"⟩ ⟨"DiodeLinkModel", "isBelow", "(III)Z"⟩,
  Cond.instanceMethod ⟨"DiodeLinkModel", "isComplete", "(I)Z"⟩,
  Cond.initialized "DiodeLinkModel",
  Cond.selects "DiodeLinkModel" ⟨"DiodeLinkModel", "isComplete", "(I)Z"⟩ ⟨"DiodeLinkModel", "isComplete", "(I)Z"⟩,
  Cond.instanceMethod ⟨"DiodeLinkModel", "isKept", "(I)Z"⟩,
  Cond.initialized "DiodeLinkModel",
  Cond.selects "DiodeLinkModel" ⟨"DiodeLinkModel", "isKept", "(I)Z"⟩ ⟨"DiodeLinkModel", "isKept", "(I)Z"⟩,
  Cond.instanceMethod ⟨"DiodeLinkModel", "isManifest", "(I)Z"⟩,
  Cond.initialized "DiodeLinkModel",
  Cond.selects "DiodeLinkModel" ⟨"DiodeLinkModel", "isManifest", "(I)Z"⟩ ⟨"DiodeLinkModel", "isManifest", "(I)Z"⟩,
  Cond.instanceMethod ⟨"DiodeLinkModel", "isName", "()Z"⟩]
def zTs31 : List Cond := [
  Cond.initialized "DiodeLinkModel",
  Cond.selects "DiodeLinkModel" ⟨"DiodeLinkModel", "isName", "()Z"⟩ ⟨"DiodeLinkModel", "isName", "()Z"⟩,
  Cond.instanceMethod ⟨"DiodeLinkModel", "isSound", "()Z"⟩,
  Cond.initialized "DiodeLinkModel",
  Cond.selects "DiodeLinkModel" ⟨"DiodeLinkModel", "isSound", "()Z"⟩ ⟨"DiodeLinkModel", "isSound", "()Z"⟩,
  Cond.instanceMethod ⟨"DiodeLinkModel", "isThere", "(II)Z"⟩,
  Cond.initialized "DiodeLinkModel",
  Cond.selects "DiodeLinkModel" ⟨"DiodeLinkModel", "isThere", "(II)Z"⟩ ⟨"DiodeLinkModel", "isThere", "(II)Z"⟩,
  Cond.instanceMethod ⟨"DiodeLinkModel", "journal", "(II)J"⟩,
  Cond.initialized "DiodeLinkModel",
  Cond.selects "DiodeLinkModel" ⟨"DiodeLinkModel", "journal", "(II)J"⟩ ⟨"DiodeLinkModel", "journal", "(II)J"⟩,
  Cond.instanceMethod ⟨"DiodeLinkModel", "judge", "(I)V"⟩,
  Cond.initialized "DiodeLinkModel",
  Cond.selects "DiodeLinkModel" ⟨"DiodeLinkModel", "judge", "(I)V"⟩ ⟨"DiodeLinkModel", "judge", "(I)V"⟩,
  Cond.instanceMethod ⟨"DiodeLinkModel", "keep", "(II)V"⟩,
  Cond.initialized "DiodeLinkModel",
  Cond.selects "DiodeLinkModel" ⟨"DiodeLinkModel", "keep", "(II)V"⟩ ⟨"DiodeLinkModel", "keep", "(II)V"⟩,
  Cond.instanceMethod ⟨"DiodeLinkModel", "lay", "(IIJI)V"⟩,
  Cond.initialized "DiodeLinkModel",
  Cond.selects "DiodeLinkModel" ⟨"DiodeLinkModel", "lay", "(IIJI)V"⟩ ⟨"DiodeLinkModel", "lay", "(IIJI)V"⟩,
  Cond.instanceMethod ⟨"DiodeLinkModel", "linked", "(JI)J"⟩,
  Cond.initialized "DiodeLinkModel",
  Cond.selects "DiodeLinkModel" ⟨"DiodeLinkModel", "linked", "(JI)J"⟩ ⟨"DiodeLinkModel", "linked", "(JI)J"⟩,
  Cond.instanceMethod ⟨"DiodeLinkModel", "look", "(II)I"⟩,
  Cond.initialized "DiodeLinkModel",
  Cond.selects "DiodeLinkModel" ⟨"DiodeLinkModel", "look", "(II)I"⟩ ⟨"DiodeLinkModel", "look", "(II)I"⟩,
  Cond.instanceMethod ⟨"DiodeLinkModel", "manifest", "(III)V"⟩,
  Cond.initialized "DiodeLinkModel",
  Cond.selects "DiodeLinkModel" ⟨"DiodeLinkModel", "manifest", "(III)V"⟩ ⟨"DiodeLinkModel", "manifest", "(III)V"⟩,
  Cond.static ⟨"DiodeLinkModel", "mask", "(IIIII)I"⟩,
  Cond.initialized "DiodeLinkModel",
  Cond.static ⟨"DiodeLinkModel", "more", "(JI)J"⟩,
  Cond.initialized "DiodeLinkModel",
  Cond.instanceMethod ⟨"DiodeLinkModel", "move", "(II)V"⟩,
  Cond.initialized "DiodeLinkModel",
  Cond.selects "DiodeLinkModel" ⟨"DiodeLinkModel", "move", "(II)V"⟩ ⟨"DiodeLinkModel", "move", "(II)V"⟩,
  Cond.instanceMethod ⟨"DiodeLinkModel", "note", "(IIII)V"⟩,
  Cond.initialized "DiodeLinkModel",
  Cond.selects "DiodeLinkModel" ⟨"DiodeLinkModel", "note", "(IIII)V"⟩ ⟨"DiodeLinkModel", "note", "(IIII)V"⟩,
  Cond.instanceMethod ⟨"DiodeLinkModel", "order", "(I)I"⟩]
def zTs32 : List Cond := [
  Cond.initialized "DiodeLinkModel",
  Cond.selects "DiodeLinkModel" ⟨"DiodeLinkModel", "order", "(I)I"⟩ ⟨"DiodeLinkModel", "order", "(I)I"⟩,
  Cond.instanceMethod ⟨"DiodeLinkModel", "packet", "(II)J"⟩,
  Cond.initialized "DiodeLinkModel",
  Cond.selects "DiodeLinkModel" ⟨"DiodeLinkModel", "packet", "(II)J"⟩ ⟨"DiodeLinkModel", "packet", "(II)J"⟩,
  Cond.instanceMethod ⟨"DiodeLinkModel", "piece", "(III)J"⟩,
  Cond.initialized "DiodeLinkModel",
  Cond.selects "DiodeLinkModel" ⟨"DiodeLinkModel", "piece", "(III)J"⟩ ⟨"DiodeLinkModel", "piece", "(III)J"⟩,
  Cond.static ⟨"DiodeLinkModel", "pieces", "(II)I"⟩,
  Cond.initialized "DiodeLinkModel",
  Cond.instanceMethod ⟨"DiodeLinkModel", "place", "(I)I"⟩,
  Cond.initialized "DiodeLinkModel",
  Cond.selects "DiodeLinkModel" ⟨"DiodeLinkModel", "place", "(I)I"⟩ ⟨"DiodeLinkModel", "place", "(I)I"⟩,
  Cond.instanceMethod ⟨"DiodeLinkModel", "placeOf", "(II)I"⟩,
  Cond.initialized "DiodeLinkModel",
  Cond.selects "DiodeLinkModel" ⟨"DiodeLinkModel", "placeOf", "(II)I"⟩ ⟨"DiodeLinkModel", "placeOf", "(II)I"⟩,
  Cond.instanceMethod ⟨"DiodeLinkModel", "rank", "(IIII)I"⟩,
  Cond.initialized "DiodeLinkModel",
  Cond.selects "DiodeLinkModel" ⟨"DiodeLinkModel", "rank", "(IIII)I"⟩ ⟨"DiodeLinkModel", "rank", "(IIII)I"⟩,
  Cond.instanceMethod ⟨"DiodeLinkModel", "reject", "(III)V"⟩,
  Cond.initialized "DiodeLinkModel",
  Cond.selects "DiodeLinkModel" ⟨"DiodeLinkModel", "reject", "(III)V"⟩ ⟨"DiodeLinkModel", "reject", "(III)V"⟩,
  Cond.instanceMethod ⟨"DiodeLinkModel", "release", "(I)I"⟩,
  Cond.initialized "DiodeLinkModel",
  Cond.selects "DiodeLinkModel" ⟨"DiodeLinkModel", "release", "(I)I"⟩ ⟨"DiodeLinkModel", "release", "(I)I"⟩,
  Cond.instanceMethod ⟨"DiodeLinkModel", "released", "(I)I"⟩,
  Cond.initialized "DiodeLinkModel",
  Cond.selects "DiodeLinkModel" ⟨"DiodeLinkModel", "released", "(I)I"⟩ ⟨"DiodeLinkModel", "released", "(I)I"⟩,
  Cond.instanceMethod ⟨"DiodeLinkModel", "remove", "(I)Z"⟩,
  Cond.initialized "DiodeLinkModel",
  Cond.selects "DiodeLinkModel" ⟨"DiodeLinkModel", "remove", "(I)Z"⟩ ⟨"DiodeLinkModel", "remove", "(I)Z"⟩,
  Cond.instanceMethod ⟨"DiodeLinkModel", "restartReceiver", "()V"⟩,
  Cond.initialized "DiodeLinkModel",
  Cond.selects "DiodeLinkModel" ⟨"DiodeLinkModel", "restartReceiver", "()V"⟩ ⟨"DiodeLinkModel", "restartReceiver", "()V"⟩,
  Cond.instanceMethod ⟨"DiodeLinkModel", "restartSender", "()I"⟩,
  Cond.initialized "DiodeLinkModel",
  Cond.selects "DiodeLinkModel" ⟨"DiodeLinkModel", "restartSender", "()I"⟩ ⟨"DiodeLinkModel", "restartSender", "()I"⟩,
  Cond.instanceMethod ⟨"DiodeLinkModel", "room", "()Z"⟩,
  Cond.initialized "DiodeLinkModel",
  Cond.selects "DiodeLinkModel" ⟨"DiodeLinkModel", "room", "()Z"⟩ ⟨"DiodeLinkModel", "room", "()Z"⟩]
def zTs33 : List Cond := [
  Cond.instanceMethod ⟨"DiodeLinkModel", "rowsOf", "(II)I"⟩,
  Cond.initialized "DiodeLinkModel",
  Cond.selects "DiodeLinkModel" ⟨"DiodeLinkModel", "rowsOf", "(II)I"⟩ ⟨"DiodeLinkModel", "rowsOf", "(II)I"⟩,
  Cond.instanceMethod ⟨"DiodeLinkModel", "rule", "(IIZ)V"⟩,
  Cond.initialized "DiodeLinkModel",
  Cond.selects "DiodeLinkModel" ⟨"DiodeLinkModel", "rule", "(IIZ)V"⟩ ⟨"DiodeLinkModel", "rule", "(IIZ)V"⟩,
  Cond.instanceMethod ⟨"DiodeLinkModel", "send", "()I"⟩,
  Cond.initialized "DiodeLinkModel",
  Cond.selects "DiodeLinkModel" ⟨"DiodeLinkModel", "send", "()I"⟩ ⟨"DiodeLinkModel", "send", "()I"⟩,
  Cond.instanceMethod ⟨"DiodeLinkModel", "share", "(I)V"⟩,
  Cond.initialized "DiodeLinkModel",
  Cond.selects "DiodeLinkModel" ⟨"DiodeLinkModel", "share", "(I)V"⟩ ⟨"DiodeLinkModel", "share", "(I)V"⟩,
  Cond.instanceMethod ⟨"DiodeLinkModel", "shift", "(I)V"⟩,
  Cond.initialized "DiodeLinkModel",
  Cond.selects "DiodeLinkModel" ⟨"DiodeLinkModel", "shift", "(I)V"⟩ ⟨"DiodeLinkModel", "shift", "(I)V"⟩,
  Cond.instanceMethod ⟨"DiodeLinkModel", "sizeTold", "(II)I"⟩,
  Cond.initialized "DiodeLinkModel",
  Cond.selects "DiodeLinkModel" ⟨"DiodeLinkModel", "sizeTold", "(II)I"⟩ ⟨"DiodeLinkModel", "sizeTold", "(II)I"⟩,
  Cond.instanceMethod ⟨"DiodeLinkModel", "solve", "(III)V"⟩,
  Cond.initialized "DiodeLinkModel",
  Cond.selects "DiodeLinkModel" ⟨"DiodeLinkModel", "solve", "(III)V"⟩ ⟨"DiodeLinkModel", "solve", "(III)V"⟩,
  Cond.instanceMethod ⟨"DiodeLinkModel", "sum", "(III)I"⟩,
  Cond.initialized "DiodeLinkModel",
  Cond.selects "DiodeLinkModel" ⟨"DiodeLinkModel", "sum", "(III)I"⟩ ⟨"DiodeLinkModel", "sum", "(III)I"⟩,
  Cond.instanceMethod ⟨"DiodeLinkModel", "takes", "(IIII)I"⟩,
  Cond.initialized "DiodeLinkModel",
  Cond.selects "DiodeLinkModel" ⟨"DiodeLinkModel", "takes", "(IIII)I"⟩ ⟨"DiodeLinkModel", "takes", "(IIII)I"⟩,
  Cond.instanceMethod ⟨"DiodeLinkModel", "tells", "(II)I"⟩,
  Cond.initialized "DiodeLinkModel",
  Cond.selects "DiodeLinkModel" ⟨"DiodeLinkModel", "tells", "(II)I"⟩ ⟨"DiodeLinkModel", "tells", "(II)I"⟩,
  Cond.instanceMethod ⟨"DiodeLinkModel", "thrown", "()I"⟩,
  Cond.initialized "DiodeLinkModel",
  Cond.selects "DiodeLinkModel" ⟨"DiodeLinkModel", "thrown", "()I"⟩ ⟨"DiodeLinkModel", "thrown", "()I"⟩,
  Cond.instanceMethod ⟨"DiodeLinkModel", "together", "(III)J"⟩,
  Cond.initialized "DiodeLinkModel",
  Cond.selects "DiodeLinkModel" ⟨"DiodeLinkModel", "together", "(III)J"⟩ ⟨"DiodeLinkModel", "together", "(III)J"⟩,
  Cond.instanceMethod ⟨"DiodeLinkModel", "told", "(III)I"⟩,
  Cond.initialized "DiodeLinkModel",
  Cond.selects "DiodeLinkModel" ⟨"DiodeLinkModel", "told", "(III)I"⟩ ⟨"DiodeLinkModel", "told", "(III)I"⟩,
  Cond.instanceMethod ⟨"DiodeLinkModel", "touch", "(III)V"⟩]
def zTs34 : List Cond := [
  Cond.initialized "DiodeLinkModel",
  Cond.selects "DiodeLinkModel" ⟨"DiodeLinkModel", "touch", "(III)V"⟩ ⟨"DiodeLinkModel", "touch", "(III)V"⟩,
  Cond.instanceMethod ⟨"DiodeLinkModel", "unsize", "()V"⟩,
  Cond.initialized "DiodeLinkModel",
  Cond.selects "DiodeLinkModel" ⟨"DiodeLinkModel", "unsize", "()V"⟩ ⟨"DiodeLinkModel", "unsize", "()V"⟩,
  Cond.instanceMethod ⟨"DiodeLinkModel", "wasReleased", "(II)Z"⟩,
  Cond.initialized "DiodeLinkModel",
  Cond.selects "DiodeLinkModel" ⟨"DiodeLinkModel", "wasReleased", "(II)Z"⟩ ⟨"DiodeLinkModel", "wasReleased", "(II)Z"⟩,
  Cond.instanceMethod ⟨"DiodeLinkModel", "within", "(III)I"⟩,
  Cond.initialized "DiodeLinkModel",
  Cond.selects "DiodeLinkModel" ⟨"DiodeLinkModel", "within", "(III)I"⟩ ⟨"DiodeLinkModel", "within", "(III)I"⟩,
  Cond.instanceMethod ⟨"DiodeLinkModel", "write", "(I)I"⟩,
  Cond.initialized "DiodeLinkModel",
  Cond.selects "DiodeLinkModel" ⟨"DiodeLinkModel", "write", "(I)I"⟩ ⟨"DiodeLinkModel", "write", "(I)I"⟩,
  Cond.static ⟨"java/lang/Math", "floorMod", "(II)I"⟩,
  Cond.initialized "java/lang/Math",
  Cond.methodLink "DiodeLink" 77 ⟨"java/lang/IllegalStateException", "<init>", "(Ljava/lang/String;)V"⟩,
  Cond.methodLink "DiodeLink" 203 ⟨"java/lang/IndexOutOfBoundsException", "<init>", "(Ljava/lang/String;)V"⟩,
  Cond.methodLink "DiodeLink" 63 ⟨"java/lang/IllegalArgumentException", "<init>", "(Ljava/lang/String;)V"⟩]
def zTT : List (List Cond) := [zTs0, zTs1, zTs2, zTs3, zTs4, zTs5, zTs6, zTs7, zTs8, zTs9, zTs10, zTs11, zTs12, zTs13, zTs14, zTs15, zTs16, zTs17, zTs18, zTs19, zTs20, zTs21, zTs22, zTs23, zTs24, zTs25, zTs26, zTs27, zTs28, zTs29, zTs30, zTs31, zTs32, zTs33, zTs34]
def zcw : List Cond := [
  Cond.code ⟨"DiodeLink", "<init>", "()V"⟩ prog_1_method_1_code 2 (none),
  Cond.code ⟨"DiodeLink", "alter", "(III)V"⟩ prog_1_method_8_code 4 (none),
  Cond.code ⟨"DiodeLink", "checkFolder", "(I)V"⟩ prog_1_method_23_code 1 (none),
  Cond.code ⟨"DiodeLink", "checkSlot", "(I)V"⟩ prog_1_method_25_code 2 (none),
  Cond.code ⟨"DiodeLink", "checkVersion", "(II)V"⟩ prog_1_method_24_code 2 (none),
  Cond.code ⟨"DiodeLink", "commit", "(I)I"⟩ prog_1_method_5_code 3 (some .int),
  Cond.code ⟨"DiodeLink", "count", "(I)I"⟩ prog_1_method_21_code 2 (some .int),
  Cond.code ⟨"DiodeLink", "feed", "(ZJI)I"⟩ prog_1_method_2_code 6 (some .int),
  Cond.code ⟨"DiodeLink", "file", "(IIIZ)I"⟩ prog_1_method_17_code 7 (some .int),
  Cond.code ⟨"DiodeLink", "have", "(II)I"⟩ prog_1_method_13_code 3 (some .int),
  Cond.code ⟨"DiodeLink", "hear", "(I)I"⟩ prog_1_method_9_code 2 (some .int),
  Cond.code ⟨"DiodeLink", "isFolder", "(I)Z"⟩ prog_1_method_22_code 1 (some .boolean),
  Cond.code ⟨"DiodeLink", "isSound", "()Z"⟩ prog_1_method_20_code 1 (some .boolean),
  Cond.code ⟨"DiodeLink", "journal", "(II)J"⟩ prog_1_method_18_code 3 (some .long),
  Cond.code ⟨"DiodeLink", "packet", "(II)J"⟩ prog_1_method_7_code 3 (some .long),
  Cond.code ⟨"DiodeLink", "rank", "(IIII)I"⟩ prog_1_method_14_code 5 (some .int),
  Cond.code ⟨"DiodeLink", "release", "(I)I"⟩ prog_1_method_15_code 2 (some .int),
  Cond.code ⟨"DiodeLink", "released", "(I)I"⟩ prog_1_method_16_code 2 (some .int),
  Cond.code ⟨"DiodeLink", "remove", "(I)Z"⟩ prog_1_method_4_code 4 (some .boolean),
  Cond.code ⟨"DiodeLink", "restartReceiver", "()V"⟩ prog_1_method_11_code 1 (none),
  Cond.code ⟨"DiodeLink", "restartSender", "()I"⟩ prog_1_method_10_code 1 (some .int),
  Cond.code ⟨"DiodeLink", "rule", "(IIZ)V"⟩ prog_1_method_12_code 4 (none),
  Cond.code ⟨"DiodeLink", "send", "()I"⟩ prog_1_method_6_code 2 (some .int),
  Cond.code ⟨"DiodeLink", "touch", "(III)V"⟩ prog_1_method_19_code 4 (none),
  Cond.code ⟨"DiodeLink", "write", "(I)I"⟩ prog_1_method_3_code 4 (some .int),
  Cond.code ⟨"DiodeLink$Bytes", "<init>", "(I)V"⟩ prog_2_method_1_code 2 (none),
  Cond.code ⟨"DiodeLink$Bytes", "append", "(JI)V"⟩ prog_2_method_11_code 5 (none),
  Cond.code ⟨"DiodeLink$Bytes", "appendAll", "(LDiodeLink$Bytes;)V"⟩ prog_2_method_12_code 3 (none),
  Cond.code ⟨"DiodeLink$Bytes", "at", "(I)I"⟩ prog_2_method_6_code 2 (some .int),
  Cond.code ⟨"DiodeLink$Bytes", "clear", "()V"⟩ prog_2_method_4_code 1 (none),
  Cond.code ⟨"DiodeLink$Bytes", "compareAll", "(LDiodeLink$Bytes;)I"⟩ prog_2_method_17_code 2 (some .int),
  Cond.code ⟨"DiodeLink$Bytes", "compareParts", "(IILDiodeLink$Bytes;II)I"⟩ prog_2_method_16_code 9 (some .int),
  Cond.code ⟨"DiodeLink$Bytes", "copyFrom", "(LDiodeLink$Bytes;)V"⟩ prog_2_method_13_code 2 (none),
  Cond.code ⟨"DiodeLink$Bytes", "hash", "(I)J"⟩ prog_2_method_14_code 5 (some .long),
  Cond.code ⟨"DiodeLink$Bytes", "isName", "(II)Z"⟩ prog_2_method_15_code 4 (some .boolean),
  Cond.code ⟨"DiodeLink$Bytes", "limit", "()I"⟩ prog_2_method_3_code 1 (some .int),
  Cond.code ⟨"DiodeLink$Bytes", "number", "(II)J"⟩ prog_2_method_9_code 6 (some .long),
  Cond.code ⟨"DiodeLink$Bytes", "put", "(II)V"⟩ prog_2_method_7_code 3 (none),
  Cond.code ⟨"DiodeLink$Bytes", "putNumber", "(IJI)V"⟩ prog_2_method_10_code 6 (none),
  Cond.code ⟨"DiodeLink$Bytes", "resize", "(I)V"⟩ prog_2_method_5_code 2 (none),
  Cond.code ⟨"DiodeLink$Bytes", "size", "()I"⟩ prog_2_method_2_code 1 (some .int),
  Cond.code ⟨"DiodeLink$Bytes", "turn", "(II)V"⟩ prog_2_method_8_code 3 (none),
  Cond.code ⟨"DiodeLink$Cut", "blocks", "(I)I"⟩ prog_3_method_2_code 1 (some .int),
  Cond.code ⟨"DiodeLink$Cut", "mask", "(IIIII)I"⟩ prog_3_method_5_code 8 (some .int),
  Cond.code ⟨"DiodeLink$Cut", "packets", "(II)I"⟩ prog_3_method_4_code 2 (some .int),
  Cond.code ⟨"DiodeLink$Cut", "pieces", "(II)I"⟩ prog_3_method_3_code 3 (some .int),
  Cond.code ⟨"DiodeLink$Edition", "<init>", "()V"⟩ prog_4_method_1_code 2 (none),
  Cond.code ⟨"DiodeLink$Edition", "appendPlace", "(LDiodeLink$Bytes;III)V"⟩ prog_4_method_5_code 5 (none),
  Cond.code ⟨"DiodeLink$Edition", "fillPacket", "(LDiodeLink$Bytes;III)V"⟩ prog_4_method_4_code 10 (none),
  Cond.code ⟨"DiodeLink$Edition", "packets", "()I"⟩ prog_4_method_3_code 5 (some .int),
  Cond.code ⟨"DiodeLink$Edition", "record", "(ILDiodeLink$Folder;)V"⟩ prog_4_method_2_code 6 (none),
  Cond.code ⟨"DiodeLink$Edition", "sum", "(III)J"⟩ prog_4_method_6_code 9 (some .long),
  Cond.code ⟨"DiodeLink$Folder", "<init>", "()V"⟩ prog_5_method_1_code 2 (none),
  Cond.code ⟨"DiodeLink$Folder", "content", "(I)LDiodeLink$Bytes;"⟩ prog_5_method_4_code 2 (some (.object "DiodeLink$Bytes")),
  Cond.code ⟨"DiodeLink$Folder", "edition", "(I)LDiodeLink$Edition;"⟩ prog_5_method_8_code 2 (some (.object "DiodeLink$Edition")),
  Cond.code ⟨"DiodeLink$Folder", "files", "()I"⟩ prog_5_method_2_code 1 (some .int),
  Cond.code ⟨"DiodeLink$Folder", "isAt", "(ILDiodeLink$Bytes;)Z"⟩ prog_5_method_10_code 3 (some .boolean),
  Cond.code ⟨"DiodeLink$Folder", "makeVersion", "()I"⟩ prog_5_method_7_code 1 (some .int),
  Cond.code ⟨"DiodeLink$Folder", "moveFile", "(II)V"⟩ prog_5_method_11_code 6 (none),
  Cond.code ⟨"DiodeLink$Folder", "name", "(I)LDiodeLink$Bytes;"⟩ prog_5_method_3_code 2 (some (.object "DiodeLink$Bytes")),
  Cond.code ⟨"DiodeLink$Folder", "placeOf", "(LDiodeLink$Bytes;)I"⟩ prog_5_method_9_code 3 (some .int),
  Cond.code ⟨"DiodeLink$Folder", "put", "(LDiodeLink$Bytes;LDiodeLink$Bytes;)I"⟩ prog_5_method_5_code 4 (some .int),
  Cond.code ⟨"DiodeLink$Folder", "takeOut", "(LDiodeLink$Bytes;)Z"⟩ prog_5_method_6_code 3 (some .boolean),
  Cond.code ⟨"DiodeLink$Journal", "<init>", "()V"⟩ prog_6_method_1_code 1 (none),
  Cond.code ⟨"DiodeLink$Journal", "dueLink", "(JI)J"⟩ prog_6_method_11_code 4 (some .long),
  Cond.code ⟨"DiodeLink$Journal", "enter", "(IIII)V"⟩ prog_6_method_7_code 5 (none),
  Cond.code ⟨"DiodeLink$Journal", "entries", "()I"⟩ prog_6_method_2_code 1 (some .int),
  Cond.code ⟨"DiodeLink$Journal", "firstKept", "()I"⟩ prog_6_method_9_code 1 (some .int),
  Cond.code ⟨"DiodeLink$Journal", "keeps", "(I)Z"⟩ prog_6_method_3_code 2 (some .boolean),
  Cond.code ⟨"DiodeLink$Journal", "link", "(I)J"⟩ prog_6_method_5_code 2 (some .long),
  Cond.code ⟨"DiodeLink$Journal", "linksHold", "()Z"⟩ prog_6_method_8_code 4 (some .boolean),
  Cond.code ⟨"DiodeLink$Journal", "number", "(II)I"⟩ prog_6_method_4_code 3 (some .int),
  Cond.code ⟨"DiodeLink$Journal", "place", "(II)I"⟩ prog_6_method_10_code 2 (some .int),
  Cond.code ⟨"DiodeLink$Journal", "turn", "(III)V"⟩ prog_6_method_6_code 4 (none),
  Cond.code ⟨"DiodeLink$Receiver", "<init>", "(LDiodeLink$Rules;LDiodeLink$Journal;)V"⟩ prog_7_method_1_code 4 (none),
  Cond.code ⟨"DiodeLink$Receiver", "allRows", "()I"⟩ prog_7_method_4_code 1 (some .int),
  Cond.code ⟨"DiodeLink$Receiver", "canBe", "(LDiodeLink$Bytes;)Z"⟩ prog_7_method_16_code 6 (some .boolean),
  Cond.code ⟨"DiodeLink$Receiver", "dropItemRows", "(LDiodeLink$Version;II)V"⟩ prog_7_method_26_code 5 (none),
  Cond.code ⟨"DiodeLink$Receiver", "dropped", "()I"⟩ prog_7_method_3_code 1 (some .int),
  Cond.code ⟨"DiodeLink$Receiver", "find", "(II)LDiodeLink$Version;"⟩ prog_7_method_11_code 4 (some (.object "DiodeLink$Version")),
  Cond.code ⟨"DiodeLink$Receiver", "forgetItem", "(LDiodeLink$Version;II)V"⟩ prog_7_method_25_code 4 (none),
  Cond.code ⟨"DiodeLink$Receiver", "greatestOf", "(I)I"⟩ prog_7_method_13_code 4 (some .int),
  Cond.code ⟨"DiodeLink$Receiver", "hasOtherSize", "(LDiodeLink$Version;ILDiodeLink$Bytes;)Z"⟩ prog_7_method_18_code 6 (some .boolean),
  Cond.code ⟨"DiodeLink$Receiver", "holdAlike", "(I)V"⟩ prog_7_method_27_code 6 (none),
  Cond.code ⟨"DiodeLink$Receiver", "holdByOther", "(III)Z"⟩ prog_7_method_28_code 8 (some .boolean),
  Cond.code ⟨"DiodeLink$Receiver", "judge", "(LDiodeLink$Version;I)V"⟩ prog_7_method_30_code 5 (none),
  Cond.code ⟨"DiodeLink$Receiver", "keepRow", "(LDiodeLink$Version;ILDiodeLink$Bytes;)Z"⟩ prog_7_method_22_code 9 (some .boolean),
  Cond.code ⟨"DiodeLink$Receiver", "knownAt", "(II)LDiodeLink$Version;"⟩ prog_7_method_10_code 3 (some (.object "DiodeLink$Version")),
  Cond.code ⟨"DiodeLink$Receiver", "learn", "(II)LDiodeLink$Version;"⟩ prog_7_method_17_code 6 (some (.object "DiodeLink$Version")),
  Cond.code ⟨"DiodeLink$Receiver", "leastOf", "(I)LDiodeLink$Version;"⟩ prog_7_method_12_code 4 (some (.object "DiodeLink$Version")),
  Cond.code ⟨"DiodeLink$Receiver", "leastToJudge", "(I)LDiodeLink$Version;"⟩ prog_7_method_29_code 6 (some (.object "DiodeLink$Version")),
  Cond.code ⟨"DiodeLink$Receiver", "letOut", "(I)I"⟩ prog_7_method_9_code 6 (some .int),
  Cond.code ⟨"DiodeLink$Receiver", "listen", "(LDiodeLink$Bytes;)I"⟩ prog_7_method_6_code 7 (some .int),
  Cond.code ⟨"DiodeLink$Receiver", "lookAt", "(LDiodeLink$Version;II)V"⟩ prog_7_method_23_code 5 (none),
  Cond.code ⟨"DiodeLink$Receiver", "lookAtFile", "(LDiodeLink$Version;II)V"⟩ prog_7_method_24_code 4 (none),
  Cond.code ⟨"DiodeLink$Receiver", "loseRows", "()V"⟩ prog_7_method_5_code 1 (none),
  Cond.code ⟨"DiodeLink$Receiver", "makeRoom", "()Z"⟩ prog_7_method_21_code 5 (some .boolean),
  Cond.code ⟨"DiodeLink$Receiver", "maskOf", "(LDiodeLink$Bytes;)I"⟩ prog_7_method_20_code 1 (some .int),
  Cond.code ⟨"DiodeLink$Receiver", "noteLife", "(I)V"⟩ prog_7_method_15_code 2 (none),
  Cond.code ⟨"DiodeLink$Receiver", "piecesOf", "(LDiodeLink$Bytes;)I"⟩ prog_7_method_19_code 1 (some .int),
  Cond.code ⟨"DiodeLink$Receiver", "rowsOf", "(IIII)I"⟩ prog_7_method_8_code 7 (some .int),
  Cond.code ⟨"DiodeLink$Receiver", "shown", "(I)LDiodeLink$Version;"⟩ prog_7_method_2_code 2 (some (.object "DiodeLink$Version")),
  Cond.code ⟨"DiodeLink$Receiver", "stateOf", "(II)I"⟩ prog_7_method_7_code 4 (some .int),
  Cond.code ⟨"DiodeLink$Receiver", "whyDropped", "(LDiodeLink$Bytes;)I"⟩ prog_7_method_14_code 8 (some .int),
  Cond.code ⟨"DiodeLink$Rows", "<init>", "()V"⟩ prog_8_method_1_code 1 (none),
  Cond.code ⟨"DiodeLink$Rows", "add", "(IIJ)V"⟩ prog_8_method_13_code 10 (none),
  Cond.code ⟨"DiodeLink$Rows", "drop", "(II)V"⟩ prog_8_method_10_code 5 (none),
  Cond.code ⟨"DiodeLink$Rows", "dropAll", "()V"⟩ prog_8_method_11_code 1 (none),
  Cond.code ⟨"DiodeLink$Rows", "firstKey", "(I)I"⟩ prog_8_method_3_code 1 (some .int),
  Cond.code ⟨"DiodeLink$Rows", "hasPivotIn", "(III)Z"⟩ prog_8_method_15_code 4 (some .boolean),
  Cond.code ⟨"DiodeLink$Rows", "isFull", "()Z"⟩ prog_8_method_7_code 1 (some .boolean),
  Cond.code ⟨"DiodeLink$Rows", "key", "(III)I"⟩ prog_8_method_5_code 3 (some .int),
  Cond.code ⟨"DiodeLink$Rows", "lastKey", "(I)I"⟩ prog_8_method_4_code 1 (some .int),
  Cond.code ⟨"DiodeLink$Rows", "owner", "(II)I"⟩ prog_8_method_2_code 2 (some .int),
  Cond.code ⟨"DiodeLink$Rows", "ownerAt", "(I)I"⟩ prog_8_method_8_code 2 (some .int),
  Cond.code ⟨"DiodeLink$Rows", "piece", "(II)J"⟩ prog_8_method_14_code 4 (some .long),
  Cond.code ⟨"DiodeLink$Rows", "rowsIn", "(II)I"⟩ prog_8_method_9_code 5 (some .int),
  Cond.code ⟨"DiodeLink$Rows", "tells", "(II)Z"⟩ prog_8_method_12_code 5 (some .boolean),
  Cond.code ⟨"DiodeLink$Rows", "used", "()I"⟩ prog_8_method_6_code 1 (some .int),
  Cond.code ⟨"DiodeLink$Rules", "<init>", "()V"⟩ prog_9_method_1_code 1 (none),
  Cond.code ⟨"DiodeLink$Rules", "brokenBy", "(ILDiodeLink$Version;)I"⟩ prog_9_method_4_code 4 (some .int),
  Cond.code ⟨"DiodeLink$Rules", "greatestValue", "(I)I"⟩ prog_9_method_2_code 1 (some .int),
  Cond.code ⟨"DiodeLink$Rules", "hasBadSign", "(LDiodeLink$Version;I)Z"⟩ prog_9_method_6_code 6 (some .boolean),
  Cond.code ⟨"DiodeLink$Rules", "isBrokenByFile", "(ILDiodeLink$Version;I)Z"⟩ prog_9_method_5_code 4 (some .boolean),
  Cond.code ⟨"DiodeLink$Rules", "set", "(IIZ)V"⟩ prog_9_method_3_code 4 (none),
  Cond.code ⟨"DiodeLink$Sender", "<init>", "()V"⟩ prog_10_method_1_code 2 (none),
  Cond.code ⟨"DiodeLink$Sender", "beginLife", "()Z"⟩ prog_10_method_4_code 1 (some .boolean),
  Cond.code ⟨"DiodeLink$Sender", "beginRounds", "()V"⟩ prog_10_method_7_code 1 (none),
  Cond.code ⟨"DiodeLink$Sender", "fillFrom", "(LDiodeLink$Bytes;II)V"⟩ prog_10_method_11_code 9 (none),
  Cond.code ⟨"DiodeLink$Sender", "fillNext", "(LDiodeLink$Bytes;)Z"⟩ prog_10_method_6_code 4 (some .boolean),
  Cond.code ⟨"DiodeLink$Sender", "folder", "(I)LDiodeLink$Folder;"⟩ prog_10_method_2_code 2 (some (.object "DiodeLink$Folder")),
  Cond.code ⟨"DiodeLink$Sender", "life", "()I"⟩ prog_10_method_3_code 1 (some .int),
  Cond.code ⟨"DiodeLink$Sender", "makeVersion", "(I)I"⟩ prog_10_method_5_code 3 (some .int),
  Cond.code ⟨"DiodeLink$Sender", "oldestAge", "(I)I"⟩ prog_10_method_8_code 1 (some .int),
  Cond.code ⟨"DiodeLink$Sender", "packetsOf", "(I)I"⟩ prog_10_method_10_code 6 (some .int),
  Cond.code ⟨"DiodeLink$Sender", "youngestAge", "(I)I"⟩ prog_10_method_9_code 1 (some .int),
  Cond.code ⟨"DiodeLink$Version", "<init>", "()V"⟩ prog_11_method_1_code 2 (none),
  Cond.code ⟨"DiodeLink$Version", "become", "(I)V"⟩ prog_11_method_4_code 2 (none),
  Cond.code ⟨"DiodeLink$Version", "begin", "(I)V"⟩ prog_11_method_9_code 3 (none),
  Cond.code ⟨"DiodeLink$Version", "clearItem", "(I)V"⟩ prog_11_method_10_code 3 (none),
  Cond.code ⟨"DiodeLink$Version", "fileSize", "(I)I"⟩ prog_11_method_18_code 2 (some .int),
  Cond.code ⟨"DiodeLink$Version", "files", "()I"⟩ prog_11_method_5_code 1 (some .int),
  Cond.code ⟨"DiodeLink$Version", "hasSolved", "(I)Z"⟩ prog_11_method_12_code 2 (some .boolean),
  Cond.code ⟨"DiodeLink$Version", "heldLike", "(LDiodeLink$Version;I)I"⟩ prog_11_method_22_code 4 (some .int),
  Cond.code ⟨"DiodeLink$Version", "holdCopy", "(ILDiodeLink$Bytes;)V"⟩ prog_11_method_23_code 4 (none),
  Cond.code ⟨"DiodeLink$Version", "holdIfRight", "(I)Z"⟩ prog_11_method_21_code 3 (some .boolean),
  Cond.code ⟨"DiodeLink$Version", "holds", "(I)Z"⟩ prog_11_method_7_code 2 (some .boolean),
  Cond.code ⟨"DiodeLink$Version", "isBehindLast", "(I)Z"⟩ prog_11_method_20_code 2 (some .boolean),
  Cond.code ⟨"DiodeLink$Version", "isComplete", "(I)Z"⟩ prog_11_method_14_code 2 (some .boolean),
  Cond.code ⟨"DiodeLink$Version", "isGood", "()Z"⟩ prog_11_method_6_code 1 (some .boolean),
  Cond.code ⟨"DiodeLink$Version", "isSolved", "(II)Z"⟩ prog_11_method_11_code 3 (some .boolean),
  Cond.code ⟨"DiodeLink$Version", "isWhole", "()Z"⟩ prog_11_method_15_code 2 (some .boolean),
  Cond.code ⟨"DiodeLink$Version", "item", "(I)LDiodeLink$Bytes;"⟩ prog_11_method_8_code 2 (some (.object "DiodeLink$Bytes")),
  Cond.code ⟨"DiodeLink$Version", "namePlace", "(I)I"⟩ prog_11_method_17_code 2 (some .int),
  Cond.code ⟨"DiodeLink$Version", "nameSize", "(I)I"⟩ prog_11_method_16_code 2 (some .int),
  Cond.code ⟨"DiodeLink$Version", "number", "()I"⟩ prog_11_method_2_code 1 (some .int),
  Cond.code ⟨"DiodeLink$Version", "readManifest", "()Z"⟩ prog_11_method_19_code 5 (some .boolean),
  Cond.code ⟨"DiodeLink$Version", "showFrom", "(LDiodeLink$Version;)V"⟩ prog_11_method_24_code 3 (none),
  Cond.code ⟨"DiodeLink$Version", "solve", "(II)V"⟩ prog_11_method_13_code 3 (none),
  Cond.code ⟨"DiodeLink$Version", "state", "()I"⟩ prog_11_method_3_code 1 (some .int),
  Cond.codeWith ⟨"DiodeLinkLaw", "alter", "(LDiodeLink;III)I"⟩ method_9_code 5 (some .int) [(0, 7, 10, 13)],
  Cond.codeWith ⟨"DiodeLinkLaw", "commit", "(LDiodeLink;I[J)I"⟩ method_6_code 4 (some .int) [(0, 9, 12, 13), (0, 9, 15, 15)],
  Cond.codeWith ⟨"DiodeLinkLaw", "count", "(LDiodeLink;I[J)I"⟩ method_20_code 4 (some .int) [(0, 9, 12, 13)],
  Cond.codeWith ⟨"DiodeLinkLaw", "feed", "(LDiodeLink;ZJI[J)I"⟩ method_3_code 7 (some .int) [(0, 13, 16, 13), (0, 13, 20, 15)],
  Cond.codeWith ⟨"DiodeLinkLaw", "file", "(LDiodeLink;IIIZ[J)I"⟩ method_17_code 7 (some .int) [(0, 14, 17, 13), (0, 14, 21, 68)],
  Cond.codeWith ⟨"DiodeLinkLaw", "have", "(LDiodeLink;II[J)I"⟩ method_13_code 5 (some .int) [(0, 10, 13, 13)],
  Cond.codeWith ⟨"DiodeLinkLaw", "hear", "(LDiodeLink;I[J)I"⟩ method_10_code 4 (some .int) [(0, 9, 12, 13)],
  Cond.codeWith ⟨"DiodeLinkLaw", "journal", "(LDiodeLink;II[J)I"⟩ method_18_code 5 (some .int) [(0, 9, 12, 13), (0, 9, 16, 68)],
  Cond.codeWith ⟨"DiodeLinkLaw", "packet", "(LDiodeLink;II[J)I"⟩ method_8_code 5 (some .int) [(0, 9, 12, 13)],
  Cond.codeWith ⟨"DiodeLinkLaw", "rank", "(LDiodeLink;IIII[J)I"⟩ method_14_code 7 (some .int) [(0, 14, 17, 13)],
  Cond.codeWith ⟨"DiodeLinkLaw", "release", "(LDiodeLink;I[J)I"⟩ method_15_code 4 (some .int) [(0, 9, 12, 13)],
  Cond.codeWith ⟨"DiodeLinkLaw", "released", "(LDiodeLink;I[J)I"⟩ method_16_code 4 (some .int) [(0, 9, 12, 13)],
  Cond.codeWith ⟨"DiodeLinkLaw", "remove", "(LDiodeLink;I[J)I"⟩ method_5_code 4 (some .int) [(0, 16, 19, 13)],
  Cond.codeWith ⟨"DiodeLinkLaw", "restartSender", "(LDiodeLink;[J)I"⟩ method_11_code 3 (some .int) [(0, 8, 11, 15)],
  Cond.codeWith ⟨"DiodeLinkLaw", "rule", "(LDiodeLink;IIZ)I"⟩ method_12_code 5 (some .int) [(0, 7, 10, 13)],
  Cond.codeWith ⟨"DiodeLinkLaw", "send", "(LDiodeLink;[J)I"⟩ method_7_code 3 (some .int) [(0, 8, 11, 15)],
  Cond.codeWith ⟨"DiodeLinkLaw", "touch", "(LDiodeLink;III)I"⟩ method_19_code 5 (some .int) [(0, 7, 10, 13), (0, 7, 14, 68)],
  Cond.codeWith ⟨"DiodeLinkLaw", "write", "(LDiodeLink;I[J)I"⟩ method_4_code 4 (some .int) [(0, 9, 12, 13), (0, 9, 15, 15)],
  Cond.code ⟨"DiodeLinkModel", "<init>", "()V"⟩ prog_13_method_1_code 2 (none),
  Cond.code ⟨"DiodeLinkModel", "alter", "(III)V"⟩ prog_13_method_31_code 4 (none),
  Cond.code ⟨"DiodeLinkModel", "anew", "()V"⟩ prog_13_method_18_code 1 (none),
  Cond.code ⟨"DiodeLinkModel", "begin", "()J"⟩ prog_13_method_6_code 0 (some .long),
  Cond.code ⟨"DiodeLinkModel", "blocks", "(I)I"⟩ prog_13_method_19_code 1 (some .int),
  Cond.code ⟨"DiodeLinkModel", "borrows", "(II)Z"⟩ prog_13_method_56_code 8 (some .boolean),
  Cond.code ⟨"DiodeLinkModel", "breaks", "(III)Z"⟩ prog_13_method_58_code 8 (some .boolean),
  Cond.code ⟨"DiodeLinkModel", "byteOf", "(II)I"⟩ prog_13_method_48_code 3 (some .int),
  Cond.code ⟨"DiodeLinkModel", "canBe", "(I)Z"⟩ prog_13_method_62_code 6 (some .boolean),
  Cond.code ⟨"DiodeLinkModel", "clear", "(I)V"⟩ prog_13_method_39_code 3 (none),
  Cond.code ⟨"DiodeLinkModel", "commit", "(I)I"⟩ prog_13_method_17_code 6 (some .int),
  Cond.code ⟨"DiodeLinkModel", "compare", "(II)V"⟩ prog_13_method_54_code 7 (none),
  Cond.code ⟨"DiodeLinkModel", "completes", "(II)V"⟩ prog_13_method_55_code 4 (none),
  Cond.code ⟨"DiodeLinkModel", "count", "(I)I"⟩ prog_13_method_80_code 2 (some .int),
  Cond.code ⟨"DiodeLinkModel", "drop", "(III)V"⟩ prog_13_method_34_code 6 (none),
  Cond.code ⟨"DiodeLinkModel", "drops", "(I)I"⟩ prog_13_method_61_code 2 (some .int),
  Cond.code ⟨"DiodeLinkModel", "eight", "(II)J"⟩ prog_13_method_29_code 6 (some .long),
  Cond.code ⟨"DiodeLinkModel", "empty", "(I)V"⟩ prog_13_method_37_code 3 (none),
  Cond.code ⟨"DiodeLinkModel", "fails", "(ZI)Z"⟩ prog_13_method_3_code 3 (some .boolean),
  Cond.code ⟨"DiodeLinkModel", "feed", "(ZJI)I"⟩ prog_13_method_7_code 8 (some .int),
  Cond.code ⟨"DiodeLinkModel", "file", "(IIIZ)I"⟩ prog_13_method_73_code 7 (some .int),
  Cond.code ⟨"DiodeLinkModel", "forget", "(I)V"⟩ prog_13_method_36_code 2 (none),
  Cond.code ⟨"DiodeLinkModel", "has", "(I)Z"⟩ prog_13_method_28_code 2 (some .boolean),
  Cond.code ⟨"DiodeLinkModel", "hasRows", "(I)Z"⟩ prog_13_method_45_code 4 (some .boolean),
  Cond.code ⟨"DiodeLinkModel", "hashOf", "(I)J"⟩ prog_13_method_26_code 5 (some .long),
  Cond.code ⟨"DiodeLinkModel", "hashTold", "(II)J"⟩ prog_13_method_53_code 7 (some .long),
  Cond.code ⟨"DiodeLinkModel", "have", "(II)I"⟩ prog_13_method_68_code 4 (some .int),
  Cond.code ⟨"DiodeLinkModel", "hear", "(I)I"⟩ prog_13_method_63_code 4 (some .int),
  Cond.code ⟨"DiodeLinkModel", "hears", "(II)I"⟩ prog_13_method_41_code 5 (some .int),
  Cond.code ⟨"DiodeLinkModel", "in", "(III)Z"⟩ prog_13_method_4_code 3 (some .boolean),
  Cond.code ⟨"DiodeLinkModel", "isBelow", "(III)Z"⟩ prog_13_method_50_code 7 (some .boolean),
  Cond.code ⟨"DiodeLinkModel", "isComplete", "(I)Z"⟩ prog_13_method_47_code 2 (some .boolean),
  Cond.code ⟨"DiodeLinkModel", "isKept", "(I)Z"⟩ prog_13_method_76_code 2 (some .boolean),
  Cond.code ⟨"DiodeLinkModel", "isManifest", "(I)Z"⟩ prog_13_method_51_code 8 (some .boolean),
  Cond.code ⟨"DiodeLinkModel", "isName", "()Z"⟩ prog_13_method_12_code 3 (some .boolean),
  Cond.code ⟨"DiodeLinkModel", "isSound", "()Z"⟩ prog_13_method_79_code 5 (some .boolean),
  Cond.code ⟨"DiodeLinkModel", "isThere", "(II)Z"⟩ prog_13_method_11_code 3 (some .boolean),
  Cond.code ⟨"DiodeLinkModel", "journal", "(II)J"⟩ prog_13_method_77_code 3 (some .long),
  Cond.code ⟨"DiodeLinkModel", "judge", "(I)V"⟩ prog_13_method_59_code 5 (none),
  Cond.code ⟨"DiodeLinkModel", "keep", "(II)V"⟩ prog_13_method_70_code 7 (none),
  Cond.code ⟨"DiodeLinkModel", "lay", "(IIJI)V"⟩ prog_13_method_25_code 7 (none),
  Cond.code ⟨"DiodeLinkModel", "linked", "(JI)J"⟩ prog_13_method_74_code 7 (some .long),
  Cond.code ⟨"DiodeLinkModel", "look", "(II)I"⟩ prog_13_method_23_code 9 (some .int),
  Cond.code ⟨"DiodeLinkModel", "manifest", "(III)V"⟩ prog_13_method_16_code 9 (none),
  Cond.code ⟨"DiodeLinkModel", "mask", "(IIIII)I"⟩ prog_13_method_21_code 7 (some .int),
  Cond.code ⟨"DiodeLinkModel", "more", "(JI)J"⟩ prog_13_method_5_code 3 (some .long),
  Cond.code ⟨"DiodeLinkModel", "move", "(II)V"⟩ prog_13_method_9_code 4 (none),
  Cond.code ⟨"DiodeLinkModel", "note", "(IIII)V"⟩ prog_13_method_75_code 8 (none),
  Cond.code ⟨"DiodeLinkModel", "order", "(I)I"⟩ prog_13_method_8_code 3 (some .int),
  Cond.code ⟨"DiodeLinkModel", "packet", "(II)J"⟩ prog_13_method_30_code 3 (some .long),
  Cond.code ⟨"DiodeLinkModel", "piece", "(III)J"⟩ prog_13_method_24_code 8 (some .long),
  Cond.code ⟨"DiodeLinkModel", "pieces", "(II)I"⟩ prog_13_method_20_code 3 (some .int),
  Cond.code ⟨"DiodeLinkModel", "place", "(I)I"⟩ prog_13_method_10_code 3 (some .int),
  Cond.code ⟨"DiodeLinkModel", "placeOf", "(II)I"⟩ prog_13_method_40_code 4 (some .int),
  Cond.code ⟨"DiodeLinkModel", "rank", "(IIII)I"⟩ prog_13_method_69_code 6 (some .int),
  Cond.code ⟨"DiodeLinkModel", "reject", "(III)V"⟩ prog_13_method_60_code 4 (none),
  Cond.code ⟨"DiodeLinkModel", "release", "(I)I"⟩ prog_13_method_71_code 3 (some .int),
  Cond.code ⟨"DiodeLinkModel", "released", "(I)I"⟩ prog_13_method_72_code 2 (some .int),
  Cond.code ⟨"DiodeLinkModel", "remove", "(I)Z"⟩ prog_13_method_14_code 6 (some .boolean),
  Cond.code ⟨"DiodeLinkModel", "restartReceiver", "()V"⟩ prog_13_method_35_code 1 (none),
  Cond.code ⟨"DiodeLinkModel", "restartSender", "()I"⟩ prog_13_method_32_code 1 (some .int),
  Cond.code ⟨"DiodeLinkModel", "room", "()Z"⟩ prog_13_method_46_code 3 (some .boolean),
  Cond.code ⟨"DiodeLinkModel", "rowsOf", "(II)I"⟩ prog_13_method_44_code 5 (some .int),
  Cond.code ⟨"DiodeLinkModel", "rule", "(IIZ)V"⟩ prog_13_method_66_code 5 (none),
  Cond.code ⟨"DiodeLinkModel", "send", "()I"⟩ prog_13_method_27_code 10 (some .int),
  Cond.code ⟨"DiodeLinkModel", "share", "(I)V"⟩ prog_13_method_57_code 5 (none),
  Cond.code ⟨"DiodeLinkModel", "shift", "(I)V"⟩ prog_13_method_38_code 4 (none),
  Cond.code ⟨"DiodeLinkModel", "sizeTold", "(II)I"⟩ prog_13_method_52_code 4 (some .int),
  Cond.code ⟨"DiodeLinkModel", "solve", "(III)V"⟩ prog_13_method_65_code 9 (none),
  Cond.code ⟨"DiodeLinkModel", "sum", "(III)I"⟩ prog_13_method_42_code 9 (some .int),
  Cond.code ⟨"DiodeLinkModel", "takes", "(IIII)I"⟩ prog_13_method_64_code 10 (some .int),
  Cond.code ⟨"DiodeLinkModel", "tells", "(II)I"⟩ prog_13_method_49_code 5 (some .int),
  Cond.code ⟨"DiodeLinkModel", "thrown", "()I"⟩ prog_13_method_2_code 1 (some .int),
  Cond.code ⟨"DiodeLinkModel", "together", "(III)J"⟩ prog_13_method_43_code 8 (some .long),
  Cond.code ⟨"DiodeLinkModel", "told", "(III)I"⟩ prog_13_method_15_code 4 (some .int),
  Cond.code ⟨"DiodeLinkModel", "touch", "(III)V"⟩ prog_13_method_78_code 4 (none),
  Cond.code ⟨"DiodeLinkModel", "unsize", "()V"⟩ prog_13_method_33_code 4 (none),
  Cond.code ⟨"DiodeLinkModel", "wasReleased", "(II)Z"⟩ prog_13_method_67_code 5 (some .boolean),
  Cond.code ⟨"DiodeLinkModel", "within", "(III)I"⟩ prog_13_method_22_code 10 (some .int),
  Cond.code ⟨"DiodeLinkModel", "write", "(I)I"⟩ prog_13_method_13_code 8 (some .int),
  Cond.code ⟨"java/lang/Math", "floorMod", "(II)I"⟩ prog_18_method_50_code 3 (some .int)]
def zTs : List Cond := zTT.flatten ++ zcw
def zBs : List Cond := [
  Cond.arrayOver (.object "DiodeLink$Folder"),
  Cond.arrayOver (.object "DiodeLink$Bytes"),
  Cond.arrayOver (.object "DiodeLink$Edition"),
  Cond.methodLinkNest "DiodeLink" 34 ⟨"DiodeLink$Rules", "<init>", "()V"⟩ "DiodeLink",
  Cond.methodLinkNest "DiodeLink" 41 ⟨"DiodeLink$Journal", "<init>", "()V"⟩ "DiodeLink",
  Cond.arrayOver (.object "DiodeLink$Version"),
  Cond.methodLinkNest "DiodeLink$Receiver" 22 ⟨"DiodeLink$Rows", "<init>", "()V"⟩ "DiodeLink",
  Cond.castable "java/lang/IllegalArgumentException" "java/lang/IllegalArgumentException",
  Cond.declares ⟨"java/lang/RuntimeException", "<init>", "()V"⟩,
  Cond.declares ⟨"java/lang/RuntimeException", "<init>", "(Ljava/lang/String;)V"⟩,
  Cond.declares ⟨"java/lang/Exception", "<init>", "()V"⟩,
  Cond.declares ⟨"java/lang/Exception", "<init>", "(Ljava/lang/String;)V"⟩,
  Cond.declares ⟨"java/lang/Throwable", "<init>", "()V"⟩,
  Cond.declares ⟨"java/lang/Throwable", "<init>", "(Ljava/lang/String;)V"⟩,
  Cond.castable "java/lang/IllegalStateException" "java/lang/IllegalStateException",
  Cond.castable "java/lang/IndexOutOfBoundsException" "java/lang/IndexOutOfBoundsException"]
def zE : xE := ([("DiodeLink", 61, "1 to 8 bytes at a time"), ("DiodeLink", 75, "more than a name or a file can have"), ("DiodeLink", 103, "no such folder, or no name"), ("DiodeLink", 105, "the folder has 6 other files"), ("DiodeLink", 111, "no such folder"), ("DiodeLink", 120, "there were 1,000 versions"), ("DiodeLink", 131, "no version at all"), ("DiodeLink", 253, "no such slot, or it has nothing"), ("DiodeLink", 136, "no such place"), ("DiodeLink", 142, "no such byte"), ("DiodeLink", 156, "it was the last life"), ("DiodeLink", 167, "no such rule"), ("DiodeLink", 251, "no such folder or version"), ("DiodeLink", 179, "no such item or block"), ("DiodeLink", 201, "no such file"), ("DiodeLink", 220, "no such number of an entry"), ("DiodeLink", 228, "no such entry, or not kept"), ("DiodeLink", 248, "no such count")], zBs, [("java/lang/IllegalArgumentException", "java/lang/IllegalStateException"), ("java/lang/IllegalArgumentException", "java/lang/IndexOutOfBoundsException"), ("java/lang/IllegalStateException", "java/lang/IllegalArgumentException"), ("java/lang/IllegalStateException", "java/lang/IndexOutOfBoundsException"), ("java/lang/IndexOutOfBoundsException", "java/lang/IllegalArgumentException"), ("java/lang/IndexOutOfBoundsException", "java/lang/IllegalStateException")])
def zexN : Nat → String := fun k => ["java/lang/IllegalArgumentException", "java/lang/IllegalStateException", "java/lang/IndexOutOfBoundsException"].getD k ""
def zck : Nat → Option Nat := fun t => if t = 13 then some 0 else if t = 15 then some 1 else if t = 68 then some 2 else none
def zG : xG := (zexN, ["java/lang/RuntimeException", "java/lang/Exception"], zck, [("DiodeLink", 63, 0), ("DiodeLink", 77, 1), ("DiodeLink", 203, 2)], "DiodeLink")
theorem zin_s : ∀ w ∈ k2_sels lw_privs, w ∈ lw_tbl := fun w h => List.mem_append_left _ h
theorem zin_1 : ∀ w ∈ tables_1_1, w ∈ lw_tbl := fun w h => List.mem_append_right _ (List.mem_append_left _ h)
theorem zin_2 : ∀ w ∈ tables_1_2, w ∈ lw_tbl := fun w h => List.mem_append_right _ (List.mem_append_right _ (List.mem_append_left _ h))
theorem zin_3 : ∀ w ∈ tables_1_3, w ∈ lw_tbl := fun w h => List.mem_append_right _ (List.mem_append_right _ (List.mem_append_right _ (List.mem_append_left _ h)))
theorem zin_4 : ∀ w ∈ tables_1_4, w ∈ lw_tbl := fun w h => List.mem_append_right _ (List.mem_append_right _ (List.mem_append_right _ (List.mem_append_right _ (List.mem_append_left _ h))))
theorem zin_5 : ∀ w ∈ tables_1_5, w ∈ lw_tbl := fun w h => List.mem_append_right _ (List.mem_append_right _ (List.mem_append_right _ (List.mem_append_right _ (List.mem_append_right _ (List.mem_append_left _ h)))))
theorem zin_6 : ∀ w ∈ tables_1_6, w ∈ lw_tbl := fun w h => List.mem_append_right _ (List.mem_append_right _ (List.mem_append_right _ (List.mem_append_right _ (List.mem_append_right _ (List.mem_append_right _ (List.mem_append_left _ h))))))
theorem zin_7 : ∀ w ∈ tables_1_7, w ∈ lw_tbl := fun w h => List.mem_append_right _ (List.mem_append_right _ (List.mem_append_right _ (List.mem_append_right _ (List.mem_append_right _ (List.mem_append_right _ (List.mem_append_right _ (h)))))))
theorem zw0 : Cond.laysFinal "DiodeLink" "DiodeLink" "nameAtHand" "LDiodeLink$Bytes;" ∈ lw_tbl := zin_2 _ (List.mem_of_getElem? (l := tables_1_2) (i := 13) rfl)
theorem zw1 : Cond.laysFinal "DiodeLink" "DiodeLink" "dataAtHand" "LDiodeLink$Bytes;" ∈ lw_tbl := zin_2 _ (List.mem_of_getElem? (l := tables_1_2) (i := 15) rfl)
theorem zw2 : Cond.laysFinal "DiodeLink" "DiodeLink" "sender" "LDiodeLink$Sender;" ∈ lw_tbl := zin_2 _ (List.mem_of_getElem? (l := tables_1_2) (i := 17) rfl)
theorem zw3 : Cond.laysFinal "DiodeLink" "DiodeLink" "slots" "[LDiodeLink$Bytes;" ∈ lw_tbl := zin_2 _ (List.mem_of_getElem? (l := tables_1_2) (i := 19) rfl)
theorem zw4 : Cond.laysFinal "DiodeLink" "DiodeLink" "rules" "LDiodeLink$Rules;" ∈ lw_tbl := zin_2 _ (List.mem_of_getElem? (l := tables_1_2) (i := 21) rfl)
theorem zw5 : Cond.laysFinal "DiodeLink" "DiodeLink" "journal" "LDiodeLink$Journal;" ∈ lw_tbl := zin_2 _ (List.mem_of_getElem? (l := tables_1_2) (i := 23) rfl)
theorem zw6 : Cond.laysFinal "DiodeLink" "DiodeLink" "receiver" "LDiodeLink$Receiver;" ∈ lw_tbl := zin_2 _ (List.mem_of_getElem? (l := tables_1_2) (i := 25) rfl)
theorem zw7 : Cond.lays "DiodeLink" "DiodeLink" "packetsSent" "I" ∈ lw_tbl := zin_2 _ (List.mem_of_getElem? (l := tables_1_2) (i := 27) rfl)
theorem zw8 : Cond.laysFinal "DiodeLink$Bytes" "DiodeLink$Bytes" "row" "[I" ∈ lw_tbl := zin_1 _ (List.mem_of_getElem? (l := tables_1_1) (i := 37) rfl)
theorem zw9 : Cond.lays "DiodeLink$Bytes" "DiodeLink$Bytes" "size" "I" ∈ lw_tbl := zin_1 _ (List.mem_of_getElem? (l := tables_1_1) (i := 39) rfl)
theorem zw10 : Cond.laysFinal "DiodeLink$Edition" "DiodeLink$Edition" "items" "[LDiodeLink$Bytes;" ∈ lw_tbl := zin_1 _ (List.mem_of_getElem? (l := tables_1_1) (i := 71) rfl)
theorem zw11 : Cond.lays "DiodeLink$Edition" "DiodeLink$Edition" "number" "I" ∈ lw_tbl := zin_1 _ (List.mem_of_getElem? (l := tables_1_1) (i := 73) rfl)
theorem zw12 : Cond.lays "DiodeLink$Edition" "DiodeLink$Edition" "itemCount" "I" ∈ lw_tbl := zin_1 _ (List.mem_of_getElem? (l := tables_1_1) (i := 75) rfl)
theorem zw13 : Cond.laysFinal "DiodeLink$Folder" "DiodeLink$Folder" "names" "[LDiodeLink$Bytes;" ∈ lw_tbl := zin_1 _ (List.mem_of_getElem? (l := tables_1_1) (i := 83) rfl)
theorem zw14 : Cond.laysFinal "DiodeLink$Folder" "DiodeLink$Folder" "contents" "[LDiodeLink$Bytes;" ∈ lw_tbl := zin_1 _ (List.mem_of_getElem? (l := tables_1_1) (i := 85) rfl)
theorem zw15 : Cond.laysFinal "DiodeLink$Folder" "DiodeLink$Folder" "editions" "[LDiodeLink$Edition;" ∈ lw_tbl := zin_1 _ (List.mem_of_getElem? (l := tables_1_1) (i := 87) rfl)
theorem zw16 : Cond.lays "DiodeLink$Folder" "DiodeLink$Folder" "files" "I" ∈ lw_tbl := zin_1 _ (List.mem_of_getElem? (l := tables_1_1) (i := 89) rfl)
theorem zw17 : Cond.lays "DiodeLink$Folder" "DiodeLink$Folder" "latest" "I" ∈ lw_tbl := zin_1 _ (List.mem_of_getElem? (l := tables_1_1) (i := 91) rfl)
theorem zw18 : Cond.laysFinal "DiodeLink$Journal" "DiodeLink$Journal" "numbers" "[I" ∈ lw_tbl := zin_1 _ (List.mem_of_getElem? (l := tables_1_1) (i := 141) rfl)
theorem zw19 : Cond.laysFinal "DiodeLink$Journal" "DiodeLink$Journal" "links" "[J" ∈ lw_tbl := zin_1 _ (List.mem_of_getElem? (l := tables_1_1) (i := 143) rfl)
theorem zw20 : Cond.laysFinal "DiodeLink$Journal" "DiodeLink$Journal" "linked" "LDiodeLink$Bytes;" ∈ lw_tbl := zin_1 _ (List.mem_of_getElem? (l := tables_1_1) (i := 145) rfl)
theorem zw21 : Cond.lays "DiodeLink$Journal" "DiodeLink$Journal" "entries" "I" ∈ lw_tbl := zin_1 _ (List.mem_of_getElem? (l := tables_1_1) (i := 147) rfl)
theorem zw22 : Cond.lays "DiodeLink$Journal" "DiodeLink$Journal" "linkBeforeKept" "J" ∈ lw_tbl := zin_1 _ (List.mem_of_getElem? (l := tables_1_1) (i := 149) rfl)
theorem zw23 : Cond.lays "DiodeLink$Journal" "DiodeLink$Journal" "latestLink" "J" ∈ lw_tbl := zin_1 _ (List.mem_of_getElem? (l := tables_1_1) (i := 151) rfl)
theorem zw24 : Cond.laysFinal "DiodeLink$Receiver" "DiodeLink$Receiver" "known" "[LDiodeLink$Version;" ∈ lw_tbl := zin_1 _ (List.mem_of_getElem? (l := tables_1_1) (i := 230) rfl)
theorem zw25 : Cond.laysFinal "DiodeLink$Receiver" "DiodeLink$Receiver" "shown" "[LDiodeLink$Version;" ∈ lw_tbl := zin_1 _ (List.mem_of_getElem? (l := tables_1_1) (i := 232) rfl)
theorem zw26 : Cond.laysFinal "DiodeLink$Receiver" "DiodeLink$Receiver" "rows" "LDiodeLink$Rows;" ∈ lw_tbl := zin_1 _ (List.mem_of_getElem? (l := tables_1_1) (i := 234) rfl)
theorem zw27 : Cond.laysFinal "DiodeLink$Receiver" "DiodeLink$Receiver" "rules" "LDiodeLink$Rules;" ∈ lw_tbl := zin_1 _ (List.mem_of_getElem? (l := tables_1_1) (i := 236) rfl)
theorem zw28 : Cond.laysFinal "DiodeLink$Receiver" "DiodeLink$Receiver" "journal" "LDiodeLink$Journal;" ∈ lw_tbl := zin_1 _ (List.mem_of_getElem? (l := tables_1_1) (i := 238) rfl)
theorem zw29 : Cond.lays "DiodeLink$Receiver" "DiodeLink$Receiver" "greatestLife" "I" ∈ lw_tbl := zin_2 _ (List.mem_of_getElem? (l := tables_1_2) (i := 0) rfl)
theorem zw30 : Cond.lays "DiodeLink$Receiver" "DiodeLink$Receiver" "dropped" "I" ∈ lw_tbl := zin_2 _ (List.mem_of_getElem? (l := tables_1_2) (i := 2) rfl)
theorem zw31 : Cond.laysFinal "DiodeLink$Rows" "DiodeLink$Rows" "keys" "[I" ∈ lw_tbl := zin_1 _ (List.mem_of_getElem? (l := tables_1_1) (i := 173) rfl)
theorem zw32 : Cond.laysFinal "DiodeLink$Rows" "DiodeLink$Rows" "masks" "[I" ∈ lw_tbl := zin_1 _ (List.mem_of_getElem? (l := tables_1_1) (i := 175) rfl)
theorem zw33 : Cond.laysFinal "DiodeLink$Rows" "DiodeLink$Rows" "values" "[J" ∈ lw_tbl := zin_1 _ (List.mem_of_getElem? (l := tables_1_1) (i := 177) rfl)
theorem zw34 : Cond.lays "DiodeLink$Rows" "DiodeLink$Rows" "used" "I" ∈ lw_tbl := zin_1 _ (List.mem_of_getElem? (l := tables_1_1) (i := 179) rfl)
theorem zw35 : Cond.laysFinal "DiodeLink$Rules" "DiodeLink$Rules" "signs" "[Z" ∈ lw_tbl := zin_1 _ (List.mem_of_getElem? (l := tables_1_1) (i := 117) rfl)
theorem zw36 : Cond.laysFinal "DiodeLink$Rules" "DiodeLink$Rules" "firsts" "[Z" ∈ lw_tbl := zin_1 _ (List.mem_of_getElem? (l := tables_1_1) (i := 119) rfl)
theorem zw37 : Cond.lays "DiodeLink$Rules" "DiodeLink$Rules" "mostBytes" "I" ∈ lw_tbl := zin_1 _ (List.mem_of_getElem? (l := tables_1_1) (i := 121) rfl)
theorem zw38 : Cond.lays "DiodeLink$Rules" "DiodeLink$Rules" "mostFiles" "I" ∈ lw_tbl := zin_1 _ (List.mem_of_getElem? (l := tables_1_1) (i := 123) rfl)
theorem zw39 : Cond.laysFinal "DiodeLink$Sender" "DiodeLink$Sender" "folders" "[LDiodeLink$Folder;" ∈ lw_tbl := zin_1 _ (List.mem_of_getElem? (l := tables_1_1) (i := 98) rfl)
theorem zw40 : Cond.laysFinal "DiodeLink$Sender" "DiodeLink$Sender" "nextPlaces" "[I" ∈ lw_tbl := zin_1 _ (List.mem_of_getElem? (l := tables_1_1) (i := 100) rfl)
theorem zw41 : Cond.lays "DiodeLink$Sender" "DiodeLink$Sender" "life" "I" ∈ lw_tbl := zin_1 _ (List.mem_of_getElem? (l := tables_1_1) (i := 102) rfl)
theorem zw42 : Cond.lays "DiodeLink$Sender" "DiodeLink$Sender" "turn" "I" ∈ lw_tbl := zin_1 _ (List.mem_of_getElem? (l := tables_1_1) (i := 104) rfl)
theorem zw43 : Cond.laysFinal "DiodeLink$Version" "DiodeLink$Version" "items" "[LDiodeLink$Bytes;" ∈ lw_tbl := zin_1 _ (List.mem_of_getElem? (l := tables_1_1) (i := 200) rfl)
theorem zw44 : Cond.laysFinal "DiodeLink$Version" "DiodeLink$Version" "solved" "[Z" ∈ lw_tbl := zin_1 _ (List.mem_of_getElem? (l := tables_1_1) (i := 202) rfl)
theorem zw45 : Cond.laysFinal "DiodeLink$Version" "DiodeLink$Version" "held" "[Z" ∈ lw_tbl := zin_1 _ (List.mem_of_getElem? (l := tables_1_1) (i := 204) rfl)
theorem zw46 : Cond.laysFinal "DiodeLink$Version" "DiodeLink$Version" "nameAt" "[I" ∈ lw_tbl := zin_1 _ (List.mem_of_getElem? (l := tables_1_1) (i := 206) rfl)
theorem zw47 : Cond.laysFinal "DiodeLink$Version" "DiodeLink$Version" "nameSizes" "[I" ∈ lw_tbl := zin_1 _ (List.mem_of_getElem? (l := tables_1_1) (i := 208) rfl)
theorem zw48 : Cond.laysFinal "DiodeLink$Version" "DiodeLink$Version" "fileSizes" "[I" ∈ lw_tbl := zin_1 _ (List.mem_of_getElem? (l := tables_1_1) (i := 210) rfl)
theorem zw49 : Cond.laysFinal "DiodeLink$Version" "DiodeLink$Version" "fileHashes" "[J" ∈ lw_tbl := zin_1 _ (List.mem_of_getElem? (l := tables_1_1) (i := 212) rfl)
theorem zw50 : Cond.lays "DiodeLink$Version" "DiodeLink$Version" "number" "I" ∈ lw_tbl := zin_1 _ (List.mem_of_getElem? (l := tables_1_1) (i := 214) rfl)
theorem zw51 : Cond.lays "DiodeLink$Version" "DiodeLink$Version" "state" "I" ∈ lw_tbl := zin_1 _ (List.mem_of_getElem? (l := tables_1_1) (i := 216) rfl)
theorem zw52 : Cond.lays "DiodeLink$Version" "DiodeLink$Version" "files" "I" ∈ lw_tbl := zin_1 _ (List.mem_of_getElem? (l := tables_1_1) (i := 218) rfl)
theorem zw53 : Cond.lays "DiodeLink$Version" "DiodeLink$Version" "good" "Z" ∈ lw_tbl := zin_1 _ (List.mem_of_getElem? (l := tables_1_1) (i := 220) rfl)
theorem zw54 : Cond.lays "DiodeLinkModel" "DiodeLinkModel" "thrown" "I" ∈ lw_tbl := zin_5 _ (List.mem_of_getElem? (l := tables_1_5) (i := 186) rfl)
theorem zw55 : Cond.lays "DiodeLinkModel" "DiodeLinkModel" "named" "I" ∈ lw_tbl := zin_5 _ (List.mem_of_getElem? (l := tables_1_5) (i := 188) rfl)
theorem zw56 : Cond.lays "DiodeLinkModel" "DiodeLinkModel" "given" "I" ∈ lw_tbl := zin_5 _ (List.mem_of_getElem? (l := tables_1_5) (i := 190) rfl)
theorem zw57 : Cond.laysFinal "DiodeLinkModel" "DiodeLinkModel" "name" "[I" ∈ lw_tbl := zin_5 _ (List.mem_of_getElem? (l := tables_1_5) (i := 192) rfl)
theorem zw58 : Cond.laysFinal "DiodeLinkModel" "DiodeLinkModel" "data" "[I" ∈ lw_tbl := zin_5 _ (List.mem_of_getElem? (l := tables_1_5) (i := 194) rfl)
theorem zw59 : Cond.laysFinal "DiodeLinkModel" "DiodeLinkModel" "files" "[I" ∈ lw_tbl := zin_5 _ (List.mem_of_getElem? (l := tables_1_5) (i := 196) rfl)
theorem zw60 : Cond.laysFinal "DiodeLinkModel" "DiodeLinkModel" "nameSize" "[I" ∈ lw_tbl := zin_5 _ (List.mem_of_getElem? (l := tables_1_5) (i := 198) rfl)
theorem zw61 : Cond.laysFinal "DiodeLinkModel" "DiodeLinkModel" "names" "[I" ∈ lw_tbl := zin_5 _ (List.mem_of_getElem? (l := tables_1_5) (i := 200) rfl)
theorem zw62 : Cond.laysFinal "DiodeLinkModel" "DiodeLinkModel" "fileSize" "[I" ∈ lw_tbl := zin_5 _ (List.mem_of_getElem? (l := tables_1_5) (i := 202) rfl)
theorem zw63 : Cond.laysFinal "DiodeLinkModel" "DiodeLinkModel" "fileData" "[I" ∈ lw_tbl := zin_5 _ (List.mem_of_getElem? (l := tables_1_5) (i := 204) rfl)
theorem zw64 : Cond.laysFinal "DiodeLinkModel" "DiodeLinkModel" "versions" "[I" ∈ lw_tbl := zin_5 _ (List.mem_of_getElem? (l := tables_1_5) (i := 206) rfl)
theorem zw65 : Cond.laysFinal "DiodeLinkModel" "DiodeLinkModel" "keptItems" "[I" ∈ lw_tbl := zin_5 _ (List.mem_of_getElem? (l := tables_1_5) (i := 208) rfl)
theorem zw66 : Cond.laysFinal "DiodeLinkModel" "DiodeLinkModel" "keptSize" "[I" ∈ lw_tbl := zin_5 _ (List.mem_of_getElem? (l := tables_1_5) (i := 210) rfl)
theorem zw67 : Cond.laysFinal "DiodeLinkModel" "DiodeLinkModel" "keptData" "[I" ∈ lw_tbl := zin_5 _ (List.mem_of_getElem? (l := tables_1_5) (i := 212) rfl)
theorem zw68 : Cond.lays "DiodeLinkModel" "DiodeLinkModel" "life" "I" ∈ lw_tbl := zin_5 _ (List.mem_of_getElem? (l := tables_1_5) (i := 214) rfl)
theorem zw69 : Cond.lays "DiodeLinkModel" "DiodeLinkModel" "turn" "I" ∈ lw_tbl := zin_5 _ (List.mem_of_getElem? (l := tables_1_5) (i := 216) rfl)
theorem zw70 : Cond.lays "DiodeLinkModel" "DiodeLinkModel" "sent" "I" ∈ lw_tbl := zin_5 _ (List.mem_of_getElem? (l := tables_1_5) (i := 218) rfl)
theorem zw71 : Cond.laysFinal "DiodeLinkModel" "DiodeLinkModel" "goes" "[I" ∈ lw_tbl := zin_5 _ (List.mem_of_getElem? (l := tables_1_5) (i := 220) rfl)
theorem zw72 : Cond.laysFinal "DiodeLinkModel" "DiodeLinkModel" "slots" "[I" ∈ lw_tbl := zin_5 _ (List.mem_of_getElem? (l := tables_1_5) (i := 222) rfl)
theorem zw73 : Cond.laysFinal "DiodeLinkModel" "DiodeLinkModel" "filled" "[Z" ∈ lw_tbl := zin_5 _ (List.mem_of_getElem? (l := tables_1_5) (i := 224) rfl)
theorem zw74 : Cond.laysFinal "DiodeLinkModel" "DiodeLinkModel" "found" "[I" ∈ lw_tbl := zin_5 _ (List.mem_of_getElem? (l := tables_1_5) (i := 226) rfl)
theorem zw75 : Cond.lays "DiodeLinkModel" "DiodeLinkModel" "greatest" "I" ∈ lw_tbl := zin_5 _ (List.mem_of_getElem? (l := tables_1_5) (i := 228) rfl)
theorem zw76 : Cond.laysFinal "DiodeLinkModel" "DiodeLinkModel" "known" "[I" ∈ lw_tbl := zin_5 _ (List.mem_of_getElem? (l := tables_1_5) (i := 230) rfl)
theorem zw77 : Cond.laysFinal "DiodeLinkModel" "DiodeLinkModel" "good" "[Z" ∈ lw_tbl := zin_5 _ (List.mem_of_getElem? (l := tables_1_5) (i := 232) rfl)
theorem zw78 : Cond.laysFinal "DiodeLinkModel" "DiodeLinkModel" "count" "[I" ∈ lw_tbl := zin_5 _ (List.mem_of_getElem? (l := tables_1_5) (i := 234) rfl)
theorem zw79 : Cond.laysFinal "DiodeLinkModel" "DiodeLinkModel" "verdict" "[I" ∈ lw_tbl := zin_5 _ (List.mem_of_getElem? (l := tables_1_5) (i := 236) rfl)
theorem zw80 : Cond.laysFinal "DiodeLinkModel" "DiodeLinkModel" "size" "[I" ∈ lw_tbl := zin_5 _ (List.mem_of_getElem? (l := tables_1_5) (i := 238) rfl)
theorem zw81 : Cond.laysFinal "DiodeLinkModel" "DiodeLinkModel" "solved" "[Z" ∈ lw_tbl := zin_6 _ (List.mem_of_getElem? (l := tables_1_6) (i := 0) rfl)
theorem zw82 : Cond.laysFinal "DiodeLinkModel" "DiodeLinkModel" "bytes" "[I" ∈ lw_tbl := zin_6 _ (List.mem_of_getElem? (l := tables_1_6) (i := 2) rfl)
theorem zw83 : Cond.laysFinal "DiodeLinkModel" "DiodeLinkModel" "held" "[Z" ∈ lw_tbl := zin_6 _ (List.mem_of_getElem? (l := tables_1_6) (i := 4) rfl)
theorem zw84 : Cond.lays "DiodeLinkModel" "DiodeLinkModel" "rows" "I" ∈ lw_tbl := zin_6 _ (List.mem_of_getElem? (l := tables_1_6) (i := 6) rfl)
theorem zw85 : Cond.laysFinal "DiodeLinkModel" "DiodeLinkModel" "rowItem" "[I" ∈ lw_tbl := zin_6 _ (List.mem_of_getElem? (l := tables_1_6) (i := 8) rfl)
theorem zw86 : Cond.laysFinal "DiodeLinkModel" "DiodeLinkModel" "rowBlock" "[I" ∈ lw_tbl := zin_6 _ (List.mem_of_getElem? (l := tables_1_6) (i := 10) rfl)
theorem zw87 : Cond.laysFinal "DiodeLinkModel" "DiodeLinkModel" "rowMask" "[I" ∈ lw_tbl := zin_6 _ (List.mem_of_getElem? (l := tables_1_6) (i := 12) rfl)
theorem zw88 : Cond.laysFinal "DiodeLinkModel" "DiodeLinkModel" "rowBytes" "[J" ∈ lw_tbl := zin_6 _ (List.mem_of_getElem? (l := tables_1_6) (i := 14) rfl)
theorem zw89 : Cond.lays "DiodeLinkModel" "DiodeLinkModel" "dropped" "I" ∈ lw_tbl := zin_6 _ (List.mem_of_getElem? (l := tables_1_6) (i := 16) rfl)
theorem zw90 : Cond.lays "DiodeLinkModel" "DiodeLinkModel" "mostSize" "I" ∈ lw_tbl := zin_6 _ (List.mem_of_getElem? (l := tables_1_6) (i := 18) rfl)
theorem zw91 : Cond.lays "DiodeLinkModel" "DiodeLinkModel" "mostFiles" "I" ∈ lw_tbl := zin_6 _ (List.mem_of_getElem? (l := tables_1_6) (i := 20) rfl)
theorem zw92 : Cond.laysFinal "DiodeLinkModel" "DiodeLinkModel" "badSign" "[Z" ∈ lw_tbl := zin_6 _ (List.mem_of_getElem? (l := tables_1_6) (i := 22) rfl)
theorem zw93 : Cond.laysFinal "DiodeLinkModel" "DiodeLinkModel" "badFirst" "[Z" ∈ lw_tbl := zin_6 _ (List.mem_of_getElem? (l := tables_1_6) (i := 24) rfl)
theorem zw94 : Cond.laysFinal "DiodeLinkModel" "DiodeLinkModel" "released" "[I" ∈ lw_tbl := zin_6 _ (List.mem_of_getElem? (l := tables_1_6) (i := 26) rfl)
theorem zw95 : Cond.laysFinal "DiodeLinkModel" "DiodeLinkModel" "releases" "[I" ∈ lw_tbl := zin_6 _ (List.mem_of_getElem? (l := tables_1_6) (i := 28) rfl)
theorem zw96 : Cond.laysFinal "DiodeLinkModel" "DiodeLinkModel" "earlier" "[I" ∈ lw_tbl := zin_6 _ (List.mem_of_getElem? (l := tables_1_6) (i := 30) rfl)
theorem zw97 : Cond.laysFinal "DiodeLinkModel" "DiodeLinkModel" "releasedFiles" "[I" ∈ lw_tbl := zin_6 _ (List.mem_of_getElem? (l := tables_1_6) (i := 32) rfl)
theorem zw98 : Cond.laysFinal "DiodeLinkModel" "DiodeLinkModel" "releasedNames" "[I" ∈ lw_tbl := zin_6 _ (List.mem_of_getElem? (l := tables_1_6) (i := 34) rfl)
theorem zw99 : Cond.laysFinal "DiodeLinkModel" "DiodeLinkModel" "releasedSize" "[I" ∈ lw_tbl := zin_6 _ (List.mem_of_getElem? (l := tables_1_6) (i := 36) rfl)
theorem zw100 : Cond.laysFinal "DiodeLinkModel" "DiodeLinkModel" "releasedData" "[I" ∈ lw_tbl := zin_6 _ (List.mem_of_getElem? (l := tables_1_6) (i := 38) rfl)
theorem zw101 : Cond.lays "DiodeLinkModel" "DiodeLinkModel" "entries" "I" ∈ lw_tbl := zin_6 _ (List.mem_of_getElem? (l := tables_1_6) (i := 40) rfl)
theorem zw102 : Cond.lays "DiodeLinkModel" "DiodeLinkModel" "before" "J" ∈ lw_tbl := zin_6 _ (List.mem_of_getElem? (l := tables_1_6) (i := 42) rfl)
theorem zw103 : Cond.laysFinal "DiodeLinkModel" "DiodeLinkModel" "entry" "[I" ∈ lw_tbl := zin_6 _ (List.mem_of_getElem? (l := tables_1_6) (i := 44) rfl)
theorem zw104 : Cond.laysFinal "DiodeLinkModel" "DiodeLinkModel" "links" "[J" ∈ lw_tbl := zin_6 _ (List.mem_of_getElem? (l := tables_1_6) (i := 46) rfl)
theorem zw105 : Cond.methodLink "DiodeLink" 1 ⟨"java/lang/Object", "<init>", "()V"⟩ ∈ lw_tbl := zin_1 _ (List.mem_of_getElem? (l := tables_1_1) (i := 26) rfl)
theorem zw106 : Cond.instanceMethod objectInit ∈ lw_tbl := zin_1 _ (List.mem_of_getElem? (l := tables_1_1) (i := 27) rfl)
theorem zw107 : Cond.code objectInit ⟨#[0xb1]⟩ 1 none ∈ lw_tbl := zin_1 _ (List.mem_of_getElem? (l := tables_1_1) (i := 28) rfl)
theorem zw108 : Cond.classLink "DiodeLink" 7 "DiodeLink$Bytes" ∈ lw_tbl := zin_1 _ (List.mem_of_getElem? (l := tables_1_1) (i := 29) rfl)
theorem zw109 : Cond.instantiable "DiodeLink$Bytes" 2 ∈ lw_tbl := zin_1 _ (List.mem_of_getElem? (l := tables_1_1) (i := 30) rfl)
theorem zw110 : Cond.initialized "DiodeLink$Bytes" ∈ lw_tbl := zin_1 _ (List.mem_of_getElem? (l := tables_1_1) (i := 2) rfl)
theorem zw111 : Cond.methodLink "DiodeLink" 11 ⟨"DiodeLink$Bytes", "<init>", "(I)V"⟩ ∈ lw_tbl := zin_1 _ (List.mem_of_getElem? (l := tables_1_1) (i := 31) rfl)
theorem zw112 : Cond.fieldLink "DiodeLink" 14 "DiodeLink" "nameAtHand" "LDiodeLink$Bytes;" ∈ lw_tbl := zin_2 _ (List.mem_of_getElem? (l := tables_1_2) (i := 5) rfl)
theorem zw113 : Cond.fieldLink "DiodeLink" 18 "DiodeLink" "dataAtHand" "LDiodeLink$Bytes;" ∈ lw_tbl := zin_2 _ (List.mem_of_getElem? (l := tables_1_2) (i := 6) rfl)
theorem zw114 : Cond.classLink "DiodeLink" 21 "DiodeLink$Sender" ∈ lw_tbl := zin_1 _ (List.mem_of_getElem? (l := tables_1_1) (i := 43) rfl)
theorem zw115 : Cond.instantiable "DiodeLink$Sender" 4 ∈ lw_tbl := zin_1 _ (List.mem_of_getElem? (l := tables_1_1) (i := 44) rfl)
theorem zw116 : Cond.initialized "DiodeLink$Sender" ∈ lw_tbl := zin_1 _ (List.mem_of_getElem? (l := tables_1_1) (i := 3) rfl)
theorem zw117 : Cond.methodLink "DiodeLink" 23 ⟨"DiodeLink$Sender", "<init>", "()V"⟩ ∈ lw_tbl := zin_1 _ (List.mem_of_getElem? (l := tables_1_1) (i := 45) rfl)
theorem zw118 : Cond.fieldLink "DiodeLink" 24 "DiodeLink" "sender" "LDiodeLink$Sender;" ∈ lw_tbl := zin_2 _ (List.mem_of_getElem? (l := tables_1_2) (i := 7) rfl)
theorem zw119 : Cond.fieldLink "DiodeLink" 28 "DiodeLink" "slots" "[LDiodeLink$Bytes;" ∈ lw_tbl := zin_2 _ (List.mem_of_getElem? (l := tables_1_2) (i := 8) rfl)
theorem zw120 : Cond.classLink "DiodeLink" 32 "DiodeLink$Rules" ∈ lw_tbl := zin_1 _ (List.mem_of_getElem? (l := tables_1_1) (i := 107) rfl)
theorem zw121 : Cond.instantiable "DiodeLink$Rules" 4 ∈ lw_tbl := zin_1 _ (List.mem_of_getElem? (l := tables_1_1) (i := 108) rfl)
theorem zw122 : Cond.initialized "DiodeLink$Rules" ∈ lw_tbl := zin_1 _ (List.mem_of_getElem? (l := tables_1_1) (i := 6) rfl)
theorem zw123 : Cond.fieldLink "DiodeLink" 35 "DiodeLink" "rules" "LDiodeLink$Rules;" ∈ lw_tbl := zin_2 _ (List.mem_of_getElem? (l := tables_1_2) (i := 9) rfl)
theorem zw124 : Cond.classLink "DiodeLink" 39 "DiodeLink$Journal" ∈ lw_tbl := zin_1 _ (List.mem_of_getElem? (l := tables_1_1) (i := 127) rfl)
theorem zw125 : Cond.instantiable "DiodeLink$Journal" 6 ∈ lw_tbl := zin_1 _ (List.mem_of_getElem? (l := tables_1_1) (i := 128) rfl)
theorem zw126 : Cond.initialized "DiodeLink$Journal" ∈ lw_tbl := zin_1 _ (List.mem_of_getElem? (l := tables_1_1) (i := 7) rfl)
theorem zw127 : Cond.fieldLink "DiodeLink" 42 "DiodeLink" "journal" "LDiodeLink$Journal;" ∈ lw_tbl := zin_2 _ (List.mem_of_getElem? (l := tables_1_2) (i := 10) rfl)
theorem zw128 : Cond.classLink "DiodeLink" 46 "DiodeLink$Receiver" ∈ lw_tbl := zin_1 _ (List.mem_of_getElem? (l := tables_1_1) (i := 155) rfl)
theorem zw129 : Cond.instantiable "DiodeLink$Receiver" 7 ∈ lw_tbl := zin_1 _ (List.mem_of_getElem? (l := tables_1_1) (i := 156) rfl)
theorem zw130 : Cond.initialized "DiodeLink$Receiver" ∈ lw_tbl := zin_1 _ (List.mem_of_getElem? (l := tables_1_1) (i := 8) rfl)
theorem zw131 : Cond.methodLink "DiodeLink" 48 ⟨"DiodeLink$Receiver", "<init>", "(LDiodeLink$Rules;LDiodeLink$Journal;)V"⟩ ∈ lw_tbl := zin_1 _ (List.mem_of_getElem? (l := tables_1_1) (i := 157) rfl)
theorem zw132 : Cond.fieldLink "DiodeLink" 51 "DiodeLink" "receiver" "LDiodeLink$Receiver;" ∈ lw_tbl := zin_2 _ (List.mem_of_getElem? (l := tables_1_2) (i := 11) rfl)
theorem zw133 : Cond.fieldLink "DiodeLink" 55 "DiodeLink" "packetsSent" "I" ∈ lw_tbl := zin_2 _ (List.mem_of_getElem? (l := tables_1_2) (i := 12) rfl)
theorem zw134 : Cond.methodLink "DiodeLink" 133 ⟨"DiodeLink", "checkSlot", "(I)V"⟩ ∈ lw_tbl := zin_3 _ (List.mem_of_getElem? (l := tables_1_3) (i := 149) rfl)
theorem zw135 : Cond.classLink "DiodeLink" 59 "java/lang/IllegalArgumentException" ∈ lw_tbl := zin_2 _ (List.mem_of_getElem? (l := tables_1_2) (i := 99) rfl)
theorem zw136 : Cond.initialized "java/lang/IllegalArgumentException" ∈ lw_tbl := zin_1 _ (List.mem_of_getElem? (l := tables_1_1) (i := 15) rfl)
theorem zw137 : Cond.methodLink "DiodeLink" 144 ⟨"DiodeLink$Bytes", "turn", "(II)V"⟩ ∈ lw_tbl := zin_3 _ (List.mem_of_getElem? (l := tables_1_3) (i := 164) rfl)
theorem zw138 : Cond.methodLink "DiodeLink" 82 ⟨"DiodeLink", "isFolder", "(I)Z"⟩ ∈ lw_tbl := zin_2 _ (List.mem_of_getElem? (l := tables_1_2) (i := 199) rfl)
theorem zw139 : Cond.methodLink "DiodeLink" 66 ⟨"DiodeLink$Bytes", "size", "()I"⟩ ∈ lw_tbl := zin_2 _ (List.mem_of_getElem? (l := tables_1_2) (i := 167) rfl)
theorem zw140 : Cond.constant "DiodeLink" 250 (Int32.ofInt (65535)) ∈ lw_tbl := zin_5 _ (List.mem_of_getElem? (l := tables_1_5) (i := 7) rfl)
theorem zw141 : Cond.methodLink "DiodeLink" 113 ⟨"DiodeLink", "checkFolder", "(I)V"⟩ ∈ lw_tbl := zin_3 _ (List.mem_of_getElem? (l := tables_1_3) (i := 31) rfl)
theorem zw142 : Cond.methodLink "DiodeLink" 116 ⟨"DiodeLink$Sender", "makeVersion", "(I)I"⟩ ∈ lw_tbl := zin_3 _ (List.mem_of_getElem? (l := tables_1_3) (i := 34) rfl)
theorem zw143 : Cond.classLink "DiodeLink" 73 "java/lang/IllegalStateException" ∈ lw_tbl := zin_2 _ (List.mem_of_getElem? (l := tables_1_2) (i := 175) rfl)
theorem zw144 : Cond.initialized "java/lang/IllegalStateException" ∈ lw_tbl := zin_1 _ (List.mem_of_getElem? (l := tables_1_1) (i := 16) rfl)
theorem zw145 : Cond.methodLink "DiodeLink" 242 ⟨"DiodeLink$Receiver", "dropped", "()I"⟩ ∈ lw_tbl := zin_5 _ (List.mem_of_getElem? (l := tables_1_5) (i := 120) rfl)
theorem zw146 : Cond.methodLink "DiodeLink" 245 ⟨"DiodeLink$Receiver", "allRows", "()I"⟩ ∈ lw_tbl := zin_5 _ (List.mem_of_getElem? (l := tables_1_5) (i := 124) rfl)
theorem zw147 : Cond.methodLink "DiodeLink" 70 ⟨"DiodeLink$Bytes", "limit", "()I"⟩ ∈ lw_tbl := zin_2 _ (List.mem_of_getElem? (l := tables_1_2) (i := 171) rfl)
theorem zw148 : Cond.methodLink "DiodeLink" 78 ⟨"DiodeLink$Bytes", "append", "(JI)V"⟩ ∈ lw_tbl := zin_2 _ (List.mem_of_getElem? (l := tables_1_2) (i := 191) rfl)
theorem zw149 : Cond.methodLink "DiodeLink" 188 ⟨"DiodeLink$Receiver", "shown", "(I)LDiodeLink$Version;"⟩ ∈ lw_tbl := zin_5 _ (List.mem_of_getElem? (l := tables_1_5) (i := 48) rfl)
theorem zw150 : Cond.methodLink "DiodeLink" 196 ⟨"DiodeLink$Version", "files", "()I"⟩ ∈ lw_tbl := zin_5 _ (List.mem_of_getElem? (l := tables_1_5) (i := 61) rfl)
theorem zw151 : Cond.classLink "DiodeLink" 199 "java/lang/IndexOutOfBoundsException" ∈ lw_tbl := zin_5 _ (List.mem_of_getElem? (l := tables_1_5) (i := 62) rfl)
theorem zw152 : Cond.initialized "java/lang/IndexOutOfBoundsException" ∈ lw_tbl := zin_1 _ (List.mem_of_getElem? (l := tables_1_1) (i := 20) rfl)
theorem zw153 : Cond.methodLink "DiodeLink" 204 ⟨"DiodeLink$Version", "fileSize", "(I)I"⟩ ∈ lw_tbl := zin_5 _ (List.mem_of_getElem? (l := tables_1_5) (i := 78) rfl)
theorem zw154 : Cond.methodLink "DiodeLink" 207 ⟨"DiodeLink$Version", "nameSize", "(I)I"⟩ ∈ lw_tbl := zin_5 _ (List.mem_of_getElem? (l := tables_1_5) (i := 79) rfl)
theorem zw155 : Cond.methodLink "DiodeLink" 210 ⟨"DiodeLink$Version", "item", "(I)LDiodeLink$Bytes;"⟩ ∈ lw_tbl := zin_5 _ (List.mem_of_getElem? (l := tables_1_5) (i := 80) rfl)
theorem zw156 : Cond.methodLink "DiodeLink" 214 ⟨"DiodeLink$Bytes", "at", "(I)I"⟩ ∈ lw_tbl := zin_5 _ (List.mem_of_getElem? (l := tables_1_5) (i := 81) rfl)
theorem zw157 : Cond.methodLink "DiodeLink" 217 ⟨"DiodeLink$Version", "namePlace", "(I)I"⟩ ∈ lw_tbl := zin_5 _ (List.mem_of_getElem? (l := tables_1_5) (i := 82) rfl)
theorem zw158 : Cond.methodLink "DiodeLink" 173 ⟨"DiodeLink", "checkVersion", "(II)V"⟩ ∈ lw_tbl := zin_5 _ (List.mem_of_getElem? (l := tables_1_5) (i := 4) rfl)
theorem zw159 : Cond.methodLink "DiodeLink" 176 ⟨"DiodeLink$Receiver", "stateOf", "(II)I"⟩ ∈ lw_tbl := zin_5 _ (List.mem_of_getElem? (l := tables_1_5) (i := 9) rfl)
theorem zw160 : Cond.methodLink "DiodeLink" 148 ⟨"DiodeLink$Receiver", "listen", "(LDiodeLink$Bytes;)I"⟩ ∈ lw_tbl := zin_3 _ (List.mem_of_getElem? (l := tables_1_3) (i := 179) rfl)
theorem zw161 : Cond.methodLink "DiodeLink" 239 ⟨"DiodeLink$Journal", "linksHold", "()Z"⟩ ∈ lw_tbl := zin_2 _ (List.mem_of_getElem? (l := tables_1_2) (i := 46) rfl)
theorem zw162 : Cond.methodLink "DiodeLink" 222 ⟨"DiodeLink$Journal", "entries", "()I"⟩ ∈ lw_tbl := zin_5 _ (List.mem_of_getElem? (l := tables_1_5) (i := 91) rfl)
theorem zw163 : Cond.methodLink "DiodeLink" 225 ⟨"DiodeLink$Journal", "keeps", "(I)Z"⟩ ∈ lw_tbl := zin_5 _ (List.mem_of_getElem? (l := tables_1_5) (i := 95) rfl)
theorem zw164 : Cond.methodLink "DiodeLink" 230 ⟨"DiodeLink$Journal", "link", "(I)J"⟩ ∈ lw_tbl := zin_5 _ (List.mem_of_getElem? (l := tables_1_5) (i := 100) rfl)
theorem zw165 : Cond.methodLink "DiodeLink" 234 ⟨"DiodeLink$Journal", "number", "(II)I"⟩ ∈ lw_tbl := zin_5 _ (List.mem_of_getElem? (l := tables_1_5) (i := 101) rfl)
theorem zw166 : Cond.methodLink "DiodeLink" 138 ⟨"DiodeLink$Bytes", "number", "(II)J"⟩ ∈ lw_tbl := zin_3 _ (List.mem_of_getElem? (l := tables_1_3) (i := 155) rfl)
theorem zw167 : Cond.methodLink "DiodeLink" 181 ⟨"DiodeLink$Receiver", "rowsOf", "(IIII)I"⟩ ∈ lw_tbl := zin_5 _ (List.mem_of_getElem? (l := tables_1_5) (i := 21) rfl)
theorem zw168 : Cond.methodLink "DiodeLink" 185 ⟨"DiodeLink$Receiver", "letOut", "(I)I"⟩ ∈ lw_tbl := zin_5 _ (List.mem_of_getElem? (l := tables_1_5) (i := 32) rfl)
theorem zw169 : Cond.methodLink "DiodeLink" 192 ⟨"DiodeLink$Version", "number", "()I"⟩ ∈ lw_tbl := zin_5 _ (List.mem_of_getElem? (l := tables_1_5) (i := 52) rfl)
theorem zw170 : Cond.methodLink "DiodeLink" 90 ⟨"DiodeLink$Sender", "folder", "(I)LDiodeLink$Folder;"⟩ ∈ lw_tbl := zin_2 _ (List.mem_of_getElem? (l := tables_1_2) (i := 206) rfl)
theorem zw171 : Cond.methodLink "DiodeLink" 107 ⟨"DiodeLink$Folder", "takeOut", "(LDiodeLink$Bytes;)Z"⟩ ∈ lw_tbl := zin_3 _ (List.mem_of_getElem? (l := tables_1_3) (i := 19) rfl)
theorem zw172 : Cond.methodLink "DiodeLink" 100 ⟨"DiodeLink$Bytes", "clear", "()V"⟩ ∈ lw_tbl := zin_3 _ (List.mem_of_getElem? (l := tables_1_3) (i := 9) rfl)
theorem zw173 : Cond.methodLink "DiodeLink" 161 ⟨"DiodeLink$Receiver", "loseRows", "()V"⟩ ∈ lw_tbl := zin_2 _ (List.mem_of_getElem? (l := tables_1_2) (i := 34) rfl)
theorem zw174 : Cond.methodLink "DiodeLink" 152 ⟨"DiodeLink$Sender", "beginLife", "()Z"⟩ ∈ lw_tbl := zin_4 _ (List.mem_of_getElem? (l := tables_1_4) (i := 213) rfl)
theorem zw175 : Cond.methodLink "DiodeLink" 158 ⟨"DiodeLink$Sender", "life", "()I"⟩ ∈ lw_tbl := zin_4 _ (List.mem_of_getElem? (l := tables_1_4) (i := 218) rfl)
theorem zw176 : Cond.methodLink "DiodeLink" 164 ⟨"DiodeLink$Rules", "greatestValue", "(I)I"⟩ ∈ lw_tbl := zin_4 _ (List.mem_of_getElem? (l := tables_1_4) (i := 229) rfl)
theorem zw177 : Cond.methodLink "DiodeLink" 169 ⟨"DiodeLink$Rules", "set", "(IIZ)V"⟩ ∈ lw_tbl := zin_4 _ (List.mem_of_getElem? (l := tables_1_4) (i := 233) rfl)
theorem zw178 : Cond.methodLink "DiodeLink" 122 ⟨"java/lang/Math", "floorMod", "(II)I"⟩ ∈ lw_tbl := zin_3 _ (List.mem_of_getElem? (l := tables_1_3) (i := 80) rfl)
theorem zw179 : Cond.methodLink "DiodeLink" 128 ⟨"DiodeLink$Sender", "fillNext", "(LDiodeLink$Bytes;)Z"⟩ ∈ lw_tbl := zin_3 _ (List.mem_of_getElem? (l := tables_1_3) (i := 83) rfl)
theorem zw180 : Cond.methodLink "DiodeLink" 236 ⟨"DiodeLink$Journal", "turn", "(III)V"⟩ ∈ lw_tbl := zin_5 _ (List.mem_of_getElem? (l := tables_1_5) (i := 109) rfl)
theorem zw181 : Cond.methodLink "DiodeLink" 86 ⟨"DiodeLink$Bytes", "isName", "(II)Z"⟩ ∈ lw_tbl := zin_2 _ (List.mem_of_getElem? (l := tables_1_2) (i := 202) rfl)
theorem zw182 : Cond.methodLink "DiodeLink" 94 ⟨"DiodeLink$Folder", "put", "(LDiodeLink$Bytes;LDiodeLink$Bytes;)I"⟩ ∈ lw_tbl := zin_2 _ (List.mem_of_getElem? (l := tables_1_2) (i := 210) rfl)
theorem zw183 : Cond.methodLink "DiodeLink$Bytes" 3 ⟨"java/lang/Object", "<init>", "()V"⟩ ∈ lw_tbl := zin_1 _ (List.mem_of_getElem? (l := tables_1_1) (i := 34) rfl)
theorem zw184 : Cond.fieldLink "DiodeLink$Bytes" 9 "DiodeLink$Bytes" "size" "I" ∈ lw_tbl := zin_1 _ (List.mem_of_getElem? (l := tables_1_1) (i := 36) rfl)
theorem zw185 : Cond.arrayClass .int ∈ lw_tbl := zin_1 _ (List.mem_of_getElem? (l := tables_1_1) (i := 42) rfl)
theorem zw186 : Cond.fieldLink "DiodeLink$Bytes" 15 "DiodeLink$Bytes" "row" "[I" ∈ lw_tbl := zin_1 _ (List.mem_of_getElem? (l := tables_1_1) (i := 35) rfl)
theorem zw187 : Cond.methodLink "DiodeLink$Bytes" 28 ⟨"DiodeLink$Bytes", "at", "(I)I"⟩ ∈ lw_tbl := zin_2 _ (List.mem_of_getElem? (l := tables_1_2) (i := 85) rfl)
theorem zw188 : Cond.methodLink "DiodeLink$Bytes" 36 ⟨"DiodeLink$Bytes", "append", "(JI)V"⟩ ∈ lw_tbl := zin_3 _ (List.mem_of_getElem? (l := tables_1_3) (i := 66) rfl)
theorem zw189 : Cond.methodLink "DiodeLink$Bytes" 54 ⟨"DiodeLink$Bytes", "compareParts", "(IILDiodeLink$Bytes;II)I"⟩ ∈ lw_tbl := zin_2 _ (List.mem_of_getElem? (l := tables_1_2) (i := 222) rfl)
theorem zw190 : Cond.methodLink "DiodeLink$Bytes" 19 ⟨"java/lang/Math", "min", "(II)I"⟩ ∈ lw_tbl := zin_2 _ (List.mem_of_getElem? (l := tables_1_2) (i := 226) rfl)
theorem zw191 : Cond.static ⟨"java/lang/Math", "min", "(II)I"⟩ ∈ lw_tbl := zin_2 _ (List.mem_of_getElem? (l := tables_1_2) (i := 227) rfl)
theorem zw192 : Cond.initialized "java/lang/Math" ∈ lw_tbl := zin_1 _ (List.mem_of_getElem? (l := tables_1_1) (i := 17) rfl)
theorem zw193 : Cond.code Lib.Math.min.name Lib.Math.min.code 2 (some .int) ∈ lw_tbl := zin_2 _ (List.mem_of_getElem? (l := tables_1_2) (i := 228) rfl)
theorem zw194 : Cond.methodLink "DiodeLink$Bytes" 40 ⟨"DiodeLink$Bytes", "resize", "(I)V"⟩ ∈ lw_tbl := zin_3 _ (List.mem_of_getElem? (l := tables_1_3) (i := 1) rfl)
theorem zw195 : Cond.methodLink "DiodeLink$Bytes" 44 ⟨"java/lang/System", "arraycopy", "(Ljava/lang/Object;ILjava/lang/Object;II)V"⟩ ∈ lw_tbl := zin_3 _ (List.mem_of_getElem? (l := tables_1_3) (i := 6) rfl)
theorem zw196 : Cond.native ⟨"java/lang/System", "arraycopy", "(Ljava/lang/Object;ILjava/lang/Object;II)V"⟩ ∈ lw_tbl := zin_3 _ (List.mem_of_getElem? (l := tables_1_3) (i := 8) rfl)
theorem zw197 : Cond.static ⟨"java/lang/System", "arraycopy", "(Ljava/lang/Object;ILjava/lang/Object;II)V"⟩ ∈ lw_tbl := zin_3 _ (List.mem_of_getElem? (l := tables_1_3) (i := 7) rfl)
theorem zw198 : Cond.initialized "java/lang/System" ∈ lw_tbl := zin_1 _ (List.mem_of_getElem? (l := tables_1_1) (i := 18) rfl)
theorem zw199 : Cond.constantLong "DiodeLink$Bytes" 50 (Int64.ofInt (-3750763034362895579)) ∈ lw_tbl := zin_2 _ (List.mem_of_getElem? (l := tables_1_2) (i := 84) rfl)
theorem zw200 : Cond.constantLong "DiodeLink$Bytes" 52 (Int64.ofInt (1099511628211)) ∈ lw_tbl := zin_2 _ (List.mem_of_getElem? (l := tables_1_2) (i := 89) rfl)
theorem zw201 : Cond.methodLink "DiodeLink$Bytes" 32 ⟨"DiodeLink$Bytes", "put", "(II)V"⟩ ∈ lw_tbl := zin_3 _ (List.mem_of_getElem? (l := tables_1_3) (i := 168) rfl)
theorem zw202 : Cond.methodLink "DiodeLink$Bytes" 25 ⟨"java/lang/Math", "max", "(II)I"⟩ ∈ lw_tbl := zin_3 _ (List.mem_of_getElem? (l := tables_1_3) (i := 5) rfl)
theorem zw203 : Cond.static ⟨"java/lang/Math", "max", "(II)I"⟩ ∈ lw_tbl := zin_2 _ (List.mem_of_getElem? (l := tables_1_2) (i := 55) rfl)
theorem zw204 : Cond.code Lib.Math.max.name Lib.Math.max.code 2 (some .int) ∈ lw_tbl := zin_2 _ (List.mem_of_getElem? (l := tables_1_2) (i := 56) rfl)
theorem zw205 : Cond.methodLink "DiodeLink$Cut" 9 ⟨"java/lang/Math", "max", "(II)I"⟩ ∈ lw_tbl := zin_3 _ (List.mem_of_getElem? (l := tables_1_3) (i := 108) rfl)
theorem zw206 : Cond.constant "DiodeLink$Cut" 23 (Int32.ofInt (40503)) ∈ lw_tbl := zin_3 _ (List.mem_of_getElem? (l := tables_1_3) (i := 136) rfl)
theorem zw207 : Cond.methodLink "DiodeLink$Cut" 18 ⟨"DiodeLink$Cut", "pieces", "(II)I"⟩ ∈ lw_tbl := zin_3 _ (List.mem_of_getElem? (l := tables_1_3) (i := 112) rfl)
theorem zw208 : Cond.methodLink "DiodeLink$Cut" 15 ⟨"java/lang/Math", "min", "(II)I"⟩ ∈ lw_tbl := zin_3 _ (List.mem_of_getElem? (l := tables_1_3) (i := 115) rfl)
theorem zw209 : Cond.methodLink "DiodeLink$Edition" 3 ⟨"java/lang/Object", "<init>", "()V"⟩ ∈ lw_tbl := zin_1 _ (List.mem_of_getElem? (l := tables_1_1) (i := 65) rfl)
theorem zw210 : Cond.classLink "DiodeLink$Edition" 9 "DiodeLink$Bytes" ∈ lw_tbl := zin_1 _ (List.mem_of_getElem? (l := tables_1_1) (i := 66) rfl)
theorem zw211 : Cond.fieldLink "DiodeLink$Edition" 11 "DiodeLink$Edition" "items" "[LDiodeLink$Bytes;" ∈ lw_tbl := zin_1 _ (List.mem_of_getElem? (l := tables_1_1) (i := 68) rfl)
theorem zw212 : Cond.fieldLink "DiodeLink$Edition" 17 "DiodeLink$Edition" "number" "I" ∈ lw_tbl := zin_1 _ (List.mem_of_getElem? (l := tables_1_1) (i := 69) rfl)
theorem zw213 : Cond.fieldLink "DiodeLink$Edition" 21 "DiodeLink$Edition" "itemCount" "I" ∈ lw_tbl := zin_1 _ (List.mem_of_getElem? (l := tables_1_1) (i := 70) rfl)
theorem zw214 : Cond.methodLink "DiodeLink$Edition" 24 ⟨"DiodeLink$Bytes", "<init>", "(I)V"⟩ ∈ lw_tbl := zin_1 _ (List.mem_of_getElem? (l := tables_1_1) (i := 67) rfl)
theorem zw215 : Cond.methodLink "DiodeLink$Edition" 36 ⟨"DiodeLink$Bytes", "append", "(JI)V"⟩ ∈ lw_tbl := zin_3 _ (List.mem_of_getElem? (l := tables_1_3) (i := 51) rfl)
theorem zw216 : Cond.methodLink "DiodeLink$Edition" 51 ⟨"DiodeLink$Bytes", "size", "()I"⟩ ∈ lw_tbl := zin_3 _ (List.mem_of_getElem? (l := tables_1_3) (i := 61) rfl)
theorem zw217 : Cond.methodLink "DiodeLink$Edition" 61 ⟨"DiodeLink$Cut", "blocks", "(I)I"⟩ ∈ lw_tbl := zin_3 _ (List.mem_of_getElem? (l := tables_1_3) (i := 105) rfl)
theorem zw218 : Cond.methodLink "DiodeLink$Edition" 67 ⟨"DiodeLink$Cut", "packets", "(II)I"⟩ ∈ lw_tbl := zin_3 _ (List.mem_of_getElem? (l := tables_1_3) (i := 109) rfl)
theorem zw219 : Cond.methodLink "DiodeLink$Edition" 33 ⟨"DiodeLink$Bytes", "clear", "()V"⟩ ∈ lw_tbl := zin_3 _ (List.mem_of_getElem? (l := tables_1_3) (i := 50) rfl)
theorem zw220 : Cond.methodLink "DiodeLink$Edition" 71 ⟨"DiodeLink$Edition", "appendPlace", "(LDiodeLink$Bytes;III)V"⟩ ∈ lw_tbl := zin_3 _ (List.mem_of_getElem? (l := tables_1_3) (i := 124) rfl)
theorem zw221 : Cond.methodLink "DiodeLink$Edition" 75 ⟨"DiodeLink$Edition", "sum", "(III)J"⟩ ∈ lw_tbl := zin_3 _ (List.mem_of_getElem? (l := tables_1_3) (i := 128) rfl)
theorem zw222 : Cond.methodLink "DiodeLink$Edition" 57 ⟨"DiodeLink$Bytes", "hash", "(I)J"⟩ ∈ lw_tbl := zin_3 _ (List.mem_of_getElem? (l := tables_1_3) (i := 67) rfl)
theorem zw223 : Cond.methodLink "DiodeLink$Edition" 27 ⟨"DiodeLink$Folder", "files", "()I"⟩ ∈ lw_tbl := zin_3 _ (List.mem_of_getElem? (l := tables_1_3) (i := 46) rfl)
theorem zw224 : Cond.methodLink "DiodeLink$Edition" 40 ⟨"DiodeLink$Folder", "content", "(I)LDiodeLink$Bytes;"⟩ ∈ lw_tbl := zin_3 _ (List.mem_of_getElem? (l := tables_1_3) (i := 52) rfl)
theorem zw225 : Cond.methodLink "DiodeLink$Edition" 44 ⟨"DiodeLink$Bytes", "copyFrom", "(LDiodeLink$Bytes;)V"⟩ ∈ lw_tbl := zin_3 _ (List.mem_of_getElem? (l := tables_1_3) (i := 56) rfl)
theorem zw226 : Cond.methodLink "DiodeLink$Edition" 48 ⟨"DiodeLink$Folder", "name", "(I)LDiodeLink$Bytes;"⟩ ∈ lw_tbl := zin_3 _ (List.mem_of_getElem? (l := tables_1_3) (i := 57) rfl)
theorem zw227 : Cond.methodLink "DiodeLink$Edition" 54 ⟨"DiodeLink$Bytes", "appendAll", "(LDiodeLink$Bytes;)V"⟩ ∈ lw_tbl := zin_3 _ (List.mem_of_getElem? (l := tables_1_3) (i := 62) rfl)
theorem zw228 : Cond.methodLink "DiodeLink$Edition" 79 ⟨"DiodeLink$Cut", "pieces", "(II)I"⟩ ∈ lw_tbl := zin_3 _ (List.mem_of_getElem? (l := tables_1_3) (i := 132) rfl)
theorem zw229 : Cond.methodLink "DiodeLink$Edition" 82 ⟨"DiodeLink$Cut", "mask", "(IIIII)I"⟩ ∈ lw_tbl := zin_3 _ (List.mem_of_getElem? (l := tables_1_3) (i := 133) rfl)
theorem zw230 : Cond.methodLink "DiodeLink$Edition" 86 ⟨"DiodeLink$Bytes", "number", "(II)J"⟩ ∈ lw_tbl := zin_3 _ (List.mem_of_getElem? (l := tables_1_3) (i := 137) rfl)
theorem zw231 : Cond.methodLink "DiodeLink$Folder" 3 ⟨"java/lang/Object", "<init>", "()V"⟩ ∈ lw_tbl := zin_1 _ (List.mem_of_getElem? (l := tables_1_1) (i := 55) rfl)
theorem zw232 : Cond.classLink "DiodeLink$Folder" 9 "DiodeLink$Bytes" ∈ lw_tbl := zin_1 _ (List.mem_of_getElem? (l := tables_1_1) (i := 56) rfl)
theorem zw233 : Cond.fieldLink "DiodeLink$Folder" 11 "DiodeLink$Folder" "names" "[LDiodeLink$Bytes;" ∈ lw_tbl := zin_1 _ (List.mem_of_getElem? (l := tables_1_1) (i := 78) rfl)
theorem zw234 : Cond.fieldLink "DiodeLink$Folder" 17 "DiodeLink$Folder" "contents" "[LDiodeLink$Bytes;" ∈ lw_tbl := zin_1 _ (List.mem_of_getElem? (l := tables_1_1) (i := 79) rfl)
theorem zw235 : Cond.classLink "DiodeLink$Folder" 20 "DiodeLink$Edition" ∈ lw_tbl := zin_1 _ (List.mem_of_getElem? (l := tables_1_1) (i := 58) rfl)
theorem zw236 : Cond.fieldLink "DiodeLink$Folder" 22 "DiodeLink$Folder" "editions" "[LDiodeLink$Edition;" ∈ lw_tbl := zin_1 _ (List.mem_of_getElem? (l := tables_1_1) (i := 80) rfl)
theorem zw237 : Cond.fieldLink "DiodeLink$Folder" 26 "DiodeLink$Folder" "files" "I" ∈ lw_tbl := zin_1 _ (List.mem_of_getElem? (l := tables_1_1) (i := 81) rfl)
theorem zw238 : Cond.fieldLink "DiodeLink$Folder" 30 "DiodeLink$Folder" "latest" "I" ∈ lw_tbl := zin_1 _ (List.mem_of_getElem? (l := tables_1_1) (i := 82) rfl)
theorem zw239 : Cond.methodLink "DiodeLink$Folder" 33 ⟨"DiodeLink$Bytes", "<init>", "(I)V"⟩ ∈ lw_tbl := zin_1 _ (List.mem_of_getElem? (l := tables_1_1) (i := 60) rfl)
theorem zw240 : Cond.instantiable "DiodeLink$Edition" 3 ∈ lw_tbl := zin_1 _ (List.mem_of_getElem? (l := tables_1_1) (i := 61) rfl)
theorem zw241 : Cond.initialized "DiodeLink$Edition" ∈ lw_tbl := zin_1 _ (List.mem_of_getElem? (l := tables_1_1) (i := 5) rfl)
theorem zw242 : Cond.methodLink "DiodeLink$Folder" 36 ⟨"DiodeLink$Edition", "<init>", "()V"⟩ ∈ lw_tbl := zin_1 _ (List.mem_of_getElem? (l := tables_1_1) (i := 62) rfl)
theorem zw243 : Cond.methodLink "DiodeLink$Folder" 57 ⟨"DiodeLink$Bytes", "compareAll", "(LDiodeLink$Bytes;)I"⟩ ∈ lw_tbl := zin_2 _ (List.mem_of_getElem? (l := tables_1_2) (i := 218) rfl)
theorem zw244 : Cond.methodLink "DiodeLink$Folder" 53 ⟨"DiodeLink$Edition", "record", "(ILDiodeLink$Folder;)V"⟩ ∈ lw_tbl := zin_3 _ (List.mem_of_getElem? (l := tables_1_3) (i := 42) rfl)
theorem zw245 : Cond.methodLink "DiodeLink$Folder" 37 ⟨"DiodeLink$Folder", "placeOf", "(LDiodeLink$Bytes;)I"⟩ ∈ lw_tbl := zin_2 _ (List.mem_of_getElem? (l := tables_1_2) (i := 214) rfl)
theorem zw246 : Cond.methodLink "DiodeLink$Folder" 41 ⟨"DiodeLink$Folder", "isAt", "(ILDiodeLink$Bytes;)Z"⟩ ∈ lw_tbl := zin_2 _ (List.mem_of_getElem? (l := tables_1_2) (i := 229) rfl)
theorem zw247 : Cond.methodLink "DiodeLink$Folder" 45 ⟨"DiodeLink$Folder", "moveFile", "(II)V"⟩ ∈ lw_tbl := zin_2 _ (List.mem_of_getElem? (l := tables_1_2) (i := 233) rfl)
theorem zw248 : Cond.methodLink "DiodeLink$Folder" 49 ⟨"DiodeLink$Bytes", "copyFrom", "(LDiodeLink$Bytes;)V"⟩ ∈ lw_tbl := zin_2 _ (List.mem_of_getElem? (l := tables_1_2) (i := 237) rfl)
theorem zw249 : Cond.methodLink "DiodeLink$Journal" 3 ⟨"java/lang/Object", "<init>", "()V"⟩ ∈ lw_tbl := zin_1 _ (List.mem_of_getElem? (l := tables_1_1) (i := 132) rfl)
theorem zw250 : Cond.fieldLink "DiodeLink$Journal" 11 "DiodeLink$Journal" "numbers" "[I" ∈ lw_tbl := zin_1 _ (List.mem_of_getElem? (l := tables_1_1) (i := 135) rfl)
theorem zw251 : Cond.arrayClass .long ∈ lw_tbl := zin_1 _ (List.mem_of_getElem? (l := tables_1_1) (i := 154) rfl)
theorem zw252 : Cond.fieldLink "DiodeLink$Journal" 15 "DiodeLink$Journal" "links" "[J" ∈ lw_tbl := zin_1 _ (List.mem_of_getElem? (l := tables_1_1) (i := 136) rfl)
theorem zw253 : Cond.classLink "DiodeLink$Journal" 19 "DiodeLink$Bytes" ∈ lw_tbl := zin_1 _ (List.mem_of_getElem? (l := tables_1_1) (i := 133) rfl)
theorem zw254 : Cond.methodLink "DiodeLink$Journal" 21 ⟨"DiodeLink$Bytes", "<init>", "(I)V"⟩ ∈ lw_tbl := zin_1 _ (List.mem_of_getElem? (l := tables_1_1) (i := 134) rfl)
theorem zw255 : Cond.fieldLink "DiodeLink$Journal" 24 "DiodeLink$Journal" "linked" "LDiodeLink$Bytes;" ∈ lw_tbl := zin_1 _ (List.mem_of_getElem? (l := tables_1_1) (i := 137) rfl)
theorem zw256 : Cond.fieldLink "DiodeLink$Journal" 28 "DiodeLink$Journal" "entries" "I" ∈ lw_tbl := zin_1 _ (List.mem_of_getElem? (l := tables_1_1) (i := 138) rfl)
theorem zw257 : Cond.fieldLink "DiodeLink$Journal" 32 "DiodeLink$Journal" "linkBeforeKept" "J" ∈ lw_tbl := zin_1 _ (List.mem_of_getElem? (l := tables_1_1) (i := 139) rfl)
theorem zw258 : Cond.fieldLink "DiodeLink$Journal" 36 "DiodeLink$Journal" "latestLink" "J" ∈ lw_tbl := zin_1 _ (List.mem_of_getElem? (l := tables_1_1) (i := 140) rfl)
theorem zw259 : Cond.methodLink "DiodeLink$Journal" 60 ⟨"DiodeLink$Bytes", "clear", "()V"⟩ ∈ lw_tbl := zin_2 _ (List.mem_of_getElem? (l := tables_1_2) (i := 65) rfl)
theorem zw260 : Cond.methodLink "DiodeLink$Journal" 63 ⟨"DiodeLink$Bytes", "append", "(JI)V"⟩ ∈ lw_tbl := zin_2 _ (List.mem_of_getElem? (l := tables_1_2) (i := 69) rfl)
theorem zw261 : Cond.methodLink "DiodeLink$Journal" 67 ⟨"DiodeLink$Journal", "number", "(II)I"⟩ ∈ lw_tbl := zin_2 _ (List.mem_of_getElem? (l := tables_1_2) (i := 73) rfl)
theorem zw262 : Cond.methodLink "DiodeLink$Journal" 70 ⟨"DiodeLink$Bytes", "hash", "(I)J"⟩ ∈ lw_tbl := zin_2 _ (List.mem_of_getElem? (l := tables_1_2) (i := 80) rfl)
theorem zw263 : Cond.methodLink "DiodeLink$Journal" 47 ⟨"DiodeLink$Journal", "link", "(I)J"⟩ ∈ lw_tbl := zin_2 _ (List.mem_of_getElem? (l := tables_1_2) (i := 57) rfl)
theorem zw264 : Cond.methodLink "DiodeLink$Journal" 43 ⟨"DiodeLink$Journal", "place", "(II)I"⟩ ∈ lw_tbl := zin_2 _ (List.mem_of_getElem? (l := tables_1_2) (i := 77) rfl)
theorem zw265 : Cond.methodLink "DiodeLink$Journal" 51 ⟨"DiodeLink$Journal", "dueLink", "(JI)J"⟩ ∈ lw_tbl := zin_2 _ (List.mem_of_getElem? (l := tables_1_2) (i := 61) rfl)
theorem zw266 : Cond.methodLink "DiodeLink$Journal" 55 ⟨"java/lang/Math", "max", "(II)I"⟩ ∈ lw_tbl := zin_2 _ (List.mem_of_getElem? (l := tables_1_2) (i := 54) rfl)
theorem zw267 : Cond.methodLink "DiodeLink$Journal" 39 ⟨"DiodeLink$Journal", "firstKept", "()I"⟩ ∈ lw_tbl := zin_2 _ (List.mem_of_getElem? (l := tables_1_2) (i := 50) rfl)
theorem zw268 : Cond.methodLink "DiodeLink$Receiver" 3 ⟨"java/lang/Object", "<init>", "()V"⟩ ∈ lw_tbl := zin_1 _ (List.mem_of_getElem? (l := tables_1_1) (i := 160) rfl)
theorem zw269 : Cond.classLink "DiodeLink$Receiver" 11 "DiodeLink$Version" ∈ lw_tbl := zin_1 _ (List.mem_of_getElem? (l := tables_1_1) (i := 161) rfl)
theorem zw270 : Cond.fieldLink "DiodeLink$Receiver" 13 "DiodeLink$Receiver" "known" "[LDiodeLink$Version;" ∈ lw_tbl := zin_1 _ (List.mem_of_getElem? (l := tables_1_1) (i := 223) rfl)
theorem zw271 : Cond.fieldLink "DiodeLink$Receiver" 17 "DiodeLink$Receiver" "shown" "[LDiodeLink$Version;" ∈ lw_tbl := zin_1 _ (List.mem_of_getElem? (l := tables_1_1) (i := 224) rfl)
theorem zw272 : Cond.classLink "DiodeLink$Receiver" 20 "DiodeLink$Rows" ∈ lw_tbl := zin_1 _ (List.mem_of_getElem? (l := tables_1_1) (i := 163) rfl)
theorem zw273 : Cond.instantiable "DiodeLink$Rows" 4 ∈ lw_tbl := zin_1 _ (List.mem_of_getElem? (l := tables_1_1) (i := 164) rfl)
theorem zw274 : Cond.initialized "DiodeLink$Rows" ∈ lw_tbl := zin_1 _ (List.mem_of_getElem? (l := tables_1_1) (i := 9) rfl)
theorem zw275 : Cond.fieldLink "DiodeLink$Receiver" 23 "DiodeLink$Receiver" "rows" "LDiodeLink$Rows;" ∈ lw_tbl := zin_1 _ (List.mem_of_getElem? (l := tables_1_1) (i := 225) rfl)
theorem zw276 : Cond.fieldLink "DiodeLink$Receiver" 27 "DiodeLink$Receiver" "greatestLife" "I" ∈ lw_tbl := zin_1 _ (List.mem_of_getElem? (l := tables_1_1) (i := 228) rfl)
theorem zw277 : Cond.fieldLink "DiodeLink$Receiver" 31 "DiodeLink$Receiver" "dropped" "I" ∈ lw_tbl := zin_1 _ (List.mem_of_getElem? (l := tables_1_1) (i := 229) rfl)
theorem zw278 : Cond.fieldLink "DiodeLink$Receiver" 34 "DiodeLink$Receiver" "rules" "LDiodeLink$Rules;" ∈ lw_tbl := zin_1 _ (List.mem_of_getElem? (l := tables_1_1) (i := 226) rfl)
theorem zw279 : Cond.fieldLink "DiodeLink$Receiver" 38 "DiodeLink$Receiver" "journal" "LDiodeLink$Journal;" ∈ lw_tbl := zin_1 _ (List.mem_of_getElem? (l := tables_1_1) (i := 227) rfl)
theorem zw280 : Cond.instantiable "DiodeLink$Version" 11 ∈ lw_tbl := zin_1 _ (List.mem_of_getElem? (l := tables_1_1) (i := 182) rfl)
theorem zw281 : Cond.initialized "DiodeLink$Version" ∈ lw_tbl := zin_1 _ (List.mem_of_getElem? (l := tables_1_1) (i := 10) rfl)
theorem zw282 : Cond.methodLink "DiodeLink$Receiver" 42 ⟨"DiodeLink$Version", "<init>", "()V"⟩ ∈ lw_tbl := zin_1 _ (List.mem_of_getElem? (l := tables_1_1) (i := 183) rfl)
theorem zw283 : Cond.methodLink "DiodeLink$Receiver" 43 ⟨"DiodeLink$Rows", "used", "()I"⟩ ∈ lw_tbl := zin_4 _ (List.mem_of_getElem? (l := tables_1_4) (i := 51) rfl)
theorem zw284 : Cond.methodLink "DiodeLink$Receiver" 54 ⟨"DiodeLink$Bytes", "at", "(I)I"⟩ ∈ lw_tbl := zin_3 _ (List.mem_of_getElem? (l := tables_1_3) (i := 189) rfl)
theorem zw285 : Cond.methodLink "DiodeLink$Receiver" 60 ⟨"DiodeLink$Bytes", "number", "(II)J"⟩ ∈ lw_tbl := zin_3 _ (List.mem_of_getElem? (l := tables_1_3) (i := 188) rfl)
theorem zw286 : Cond.methodLink "DiodeLink$Receiver" 163 ⟨"DiodeLink$Cut", "blocks", "(I)I"⟩ ∈ lw_tbl := zin_3 _ (List.mem_of_getElem? (l := tables_1_3) (i := 198) rfl)
theorem zw287 : Cond.methodLink "DiodeLink$Receiver" 168 ⟨"DiodeLink$Cut", "packets", "(II)I"⟩ ∈ lw_tbl := zin_3 _ (List.mem_of_getElem? (l := tables_1_3) (i := 199) rfl)
theorem zw288 : Cond.methodLink "DiodeLink$Receiver" 171 ⟨"DiodeLink$Receiver", "leastOf", "(I)LDiodeLink$Version;"⟩ ∈ lw_tbl := zin_3 _ (List.mem_of_getElem? (l := tables_1_3) (i := 200) rfl)
theorem zw289 : Cond.methodLink "DiodeLink$Receiver" 92 ⟨"DiodeLink$Version", "number", "()I"⟩ ∈ lw_tbl := zin_3 _ (List.mem_of_getElem? (l := tables_1_3) (i := 208) rfl)
theorem zw290 : Cond.methodLink "DiodeLink$Receiver" 101 ⟨"DiodeLink$Rows", "owner", "(II)I"⟩ ∈ lw_tbl := zin_3 _ (List.mem_of_getElem? (l := tables_1_3) (i := 220) rfl)
theorem zw291 : Cond.methodLink "DiodeLink$Receiver" 105 ⟨"DiodeLink$Rows", "key", "(III)I"⟩ ∈ lw_tbl := zin_4 _ (List.mem_of_getElem? (l := tables_1_4) (i := 14) rfl)
theorem zw292 : Cond.methodLink "DiodeLink$Receiver" 180 ⟨"DiodeLink$Rows", "drop", "(II)V"⟩ ∈ lw_tbl := zin_3 _ (List.mem_of_getElem? (l := tables_1_3) (i := 229) rfl)
theorem zw293 : Cond.methodLink "DiodeLink$Receiver" 112 ⟨"DiodeLink$Receiver", "knownAt", "(II)LDiodeLink$Version;"⟩ ∈ lw_tbl := zin_3 _ (List.mem_of_getElem? (l := tables_1_3) (i := 204) rfl)
theorem zw294 : Cond.methodLink "DiodeLink$Receiver" 248 ⟨"DiodeLink$Version", "clearItem", "(I)V"⟩ ∈ lw_tbl := zin_4 _ (List.mem_of_getElem? (l := tables_1_4) (i := 113) rfl)
theorem zw295 : Cond.methodLink "DiodeLink$Receiver" 251 ⟨"DiodeLink$Receiver", "dropItemRows", "(LDiodeLink$Version;II)V"⟩ ∈ lw_tbl := zin_4 _ (List.mem_of_getElem? (l := tables_1_4) (i := 114) rfl)
theorem zw296 : Cond.methodLink "DiodeLink$Receiver" 128 ⟨"java/lang/Math", "max", "(II)I"⟩ ∈ lw_tbl := zin_4 _ (List.mem_of_getElem? (l := tables_1_4) (i := 63) rfl)
theorem zw297 : Cond.methodLink "DiodeLink$Receiver" 187 ⟨"DiodeLink$Version", "hasSolved", "(I)Z"⟩ ∈ lw_tbl := zin_4 _ (List.mem_of_getElem? (l := tables_1_4) (i := 6) rfl)
theorem zw298 : Cond.methodLink "DiodeLink$Receiver" 109 ⟨"DiodeLink$Rows", "rowsIn", "(II)I"⟩ ∈ lw_tbl := zin_4 _ (List.mem_of_getElem? (l := tables_1_4) (i := 17) rfl)
theorem zw299 : Cond.methodLink "DiodeLink$Receiver" 190 ⟨"DiodeLink$Version", "item", "(I)LDiodeLink$Bytes;"⟩ ∈ lw_tbl := zin_4 _ (List.mem_of_getElem? (l := tables_1_4) (i := 21) rfl)
theorem zw300 : Cond.methodLink "DiodeLink$Receiver" 194 ⟨"DiodeLink$Bytes", "size", "()I"⟩ ∈ lw_tbl := zin_4 _ (List.mem_of_getElem? (l := tables_1_4) (i := 25) rfl)
theorem zw301 : Cond.methodLink "DiodeLink$Receiver" 242 ⟨"DiodeLink$Version", "files", "()I"⟩ ∈ lw_tbl := zin_4 _ (List.mem_of_getElem? (l := tables_1_4) (i := 130) rfl)
theorem zw302 : Cond.methodLink "DiodeLink$Receiver" 254 ⟨"DiodeLink$Receiver", "holdByOther", "(III)Z"⟩ ∈ lw_tbl := zin_4 _ (List.mem_of_getElem? (l := tables_1_4) (i := 138) rfl)
theorem zw303 : Cond.methodLink "DiodeLink$Receiver" 258 ⟨"DiodeLink$Version", "holds", "(I)Z"⟩ ∈ lw_tbl := zin_4 _ (List.mem_of_getElem? (l := tables_1_4) (i := 142) rfl)
theorem zw304 : Cond.methodLink "DiodeLink$Receiver" 261 ⟨"DiodeLink$Version", "heldLike", "(LDiodeLink$Version;I)I"⟩ ∈ lw_tbl := zin_4 _ (List.mem_of_getElem? (l := tables_1_4) (i := 146) rfl)
theorem zw305 : Cond.methodLink "DiodeLink$Receiver" 265 ⟨"DiodeLink$Version", "holdCopy", "(ILDiodeLink$Bytes;)V"⟩ ∈ lw_tbl := zin_4 _ (List.mem_of_getElem? (l := tables_1_4) (i := 150) rfl)
theorem zw306 : Cond.methodLink "DiodeLink$Receiver" 274 ⟨"DiodeLink$Rules", "brokenBy", "(ILDiodeLink$Version;)I"⟩ ∈ lw_tbl := zin_4 _ (List.mem_of_getElem? (l := tables_1_4) (i := 171) rfl)
theorem zw307 : Cond.methodLink "DiodeLink$Receiver" 115 ⟨"DiodeLink$Version", "become", "(I)V"⟩ ∈ lw_tbl := zin_4 _ (List.mem_of_getElem? (l := tables_1_4) (i := 198) rfl)
theorem zw308 : Cond.methodLink "DiodeLink$Receiver" 122 ⟨"DiodeLink$Journal", "enter", "(IIII)V"⟩ ∈ lw_tbl := zin_4 _ (List.mem_of_getElem? (l := tables_1_4) (i := 202) rfl)
theorem zw309 : Cond.methodLink "DiodeLink$Receiver" 213 ⟨"DiodeLink$Bytes", "resize", "(I)V"⟩ ∈ lw_tbl := zin_4 _ (List.mem_of_getElem? (l := tables_1_4) (i := 68) rfl)
theorem zw310 : Cond.methodLink "DiodeLink$Receiver" 150 ⟨"DiodeLink$Receiver", "maskOf", "(LDiodeLink$Bytes;)I"⟩ ∈ lw_tbl := zin_4 _ (List.mem_of_getElem? (l := tables_1_4) (i := 27) rfl)
theorem zw311 : Cond.methodLink "DiodeLink$Receiver" 216 ⟨"DiodeLink$Rows", "add", "(IIJ)V"⟩ ∈ lw_tbl := zin_4 _ (List.mem_of_getElem? (l := tables_1_4) (i := 69) rfl)
theorem zw312 : Cond.methodLink "DiodeLink$Receiver" 200 ⟨"DiodeLink$Receiver", "piecesOf", "(LDiodeLink$Bytes;)I"⟩ ∈ lw_tbl := zin_4 _ (List.mem_of_getElem? (l := tables_1_4) (i := 30) rfl)
theorem zw313 : Cond.methodLink "DiodeLink$Receiver" 220 ⟨"DiodeLink$Rows", "piece", "(II)J"⟩ ∈ lw_tbl := zin_4 _ (List.mem_of_getElem? (l := tables_1_4) (i := 74) rfl)
theorem zw314 : Cond.methodLink "DiodeLink$Receiver" 223 ⟨"DiodeLink$Bytes", "putNumber", "(IJI)V"⟩ ∈ lw_tbl := zin_4 _ (List.mem_of_getElem? (l := tables_1_4) (i := 78) rfl)
theorem zw315 : Cond.methodLink "DiodeLink$Receiver" 227 ⟨"DiodeLink$Version", "solve", "(II)V"⟩ ∈ lw_tbl := zin_4 _ (List.mem_of_getElem? (l := tables_1_4) (i := 82) rfl)
theorem zw316 : Cond.methodLink "DiodeLink$Receiver" 64 ⟨"DiodeLink$Receiver", "find", "(II)LDiodeLink$Version;"⟩ ∈ lw_tbl := zin_3 _ (List.mem_of_getElem? (l := tables_1_3) (i := 216) rfl)
theorem zw317 : Cond.methodLink "DiodeLink$Receiver" 174 ⟨"DiodeLink$Rows", "firstKey", "(I)I"⟩ ∈ lw_tbl := zin_3 _ (List.mem_of_getElem? (l := tables_1_3) (i := 223) rfl)
theorem zw318 : Cond.methodLink "DiodeLink$Receiver" 177 ⟨"DiodeLink$Rows", "lastKey", "(I)I"⟩ ∈ lw_tbl := zin_3 _ (List.mem_of_getElem? (l := tables_1_3) (i := 226) rfl)
theorem zw319 : Cond.methodLink "DiodeLink$Receiver" 184 ⟨"DiodeLink$Version", "begin", "(I)V"⟩ ∈ lw_tbl := zin_3 _ (List.mem_of_getElem? (l := tables_1_3) (i := 233) rfl)
theorem zw320 : Cond.methodLink "DiodeLink$Receiver" 94 ⟨"DiodeLink$Version", "state", "()I"⟩ ∈ lw_tbl := zin_4 _ (List.mem_of_getElem? (l := tables_1_4) (i := 159) rfl)
theorem zw321 : Cond.methodLink "DiodeLink$Receiver" 269 ⟨"DiodeLink$Version", "isWhole", "()Z"⟩ ∈ lw_tbl := zin_4 _ (List.mem_of_getElem? (l := tables_1_4) (i := 163) rfl)
theorem zw322 : Cond.methodLink "DiodeLink$Receiver" 118 ⟨"DiodeLink$Version", "showFrom", "(LDiodeLink$Version;)V"⟩ ∈ lw_tbl := zin_5 _ (List.mem_of_getElem? (l := tables_1_5) (i := 36) rfl)
theorem zw323 : Cond.methodLink "DiodeLink$Receiver" 50 ⟨"DiodeLink$Receiver", "whyDropped", "(LDiodeLink$Bytes;)I"⟩ ∈ lw_tbl := zin_3 _ (List.mem_of_getElem? (l := tables_1_3) (i := 183) rfl)
theorem zw324 : Cond.methodLink "DiodeLink$Receiver" 68 ⟨"DiodeLink$Receiver", "keepRow", "(LDiodeLink$Version;ILDiodeLink$Bytes;)Z"⟩ ∈ lw_tbl := zin_4 _ (List.mem_of_getElem? (l := tables_1_4) (i := 64) rfl)
theorem zw325 : Cond.methodLink "DiodeLink$Receiver" 72 ⟨"DiodeLink$Version", "isComplete", "(I)Z"⟩ ∈ lw_tbl := zin_4 _ (List.mem_of_getElem? (l := tables_1_4) (i := 86) rfl)
theorem zw326 : Cond.methodLink "DiodeLink$Receiver" 76 ⟨"DiodeLink$Receiver", "lookAt", "(LDiodeLink$Version;II)V"⟩ ∈ lw_tbl := zin_4 _ (List.mem_of_getElem? (l := tables_1_4) (i := 92) rfl)
theorem zw327 : Cond.methodLink "DiodeLink$Receiver" 80 ⟨"DiodeLink$Receiver", "holdAlike", "(I)V"⟩ ∈ lw_tbl := zin_4 _ (List.mem_of_getElem? (l := tables_1_4) (i := 134) rfl)
theorem zw328 : Cond.methodLink "DiodeLink$Receiver" 84 ⟨"DiodeLink$Receiver", "leastToJudge", "(I)LDiodeLink$Version;"⟩ ∈ lw_tbl := zin_4 _ (List.mem_of_getElem? (l := tables_1_4) (i := 155) rfl)
theorem zw329 : Cond.methodLink "DiodeLink$Receiver" 88 ⟨"DiodeLink$Receiver", "judge", "(LDiodeLink$Version;I)V"⟩ ∈ lw_tbl := zin_4 _ (List.mem_of_getElem? (l := tables_1_4) (i := 167) rfl)
theorem zw330 : Cond.methodLink "DiodeLink$Receiver" 230 ⟨"DiodeLink$Version", "isGood", "()Z"⟩ ∈ lw_tbl := zin_4 _ (List.mem_of_getElem? (l := tables_1_4) (i := 96) rfl)
theorem zw331 : Cond.methodLink "DiodeLink$Receiver" 233 ⟨"DiodeLink$Receiver", "lookAtFile", "(LDiodeLink$Version;II)V"⟩ ∈ lw_tbl := zin_4 _ (List.mem_of_getElem? (l := tables_1_4) (i := 100) rfl)
theorem zw332 : Cond.methodLink "DiodeLink$Receiver" 236 ⟨"DiodeLink$Version", "readManifest", "()Z"⟩ ∈ lw_tbl := zin_4 _ (List.mem_of_getElem? (l := tables_1_4) (i := 118) rfl)
theorem zw333 : Cond.methodLink "DiodeLink$Receiver" 239 ⟨"DiodeLink$Receiver", "forgetItem", "(LDiodeLink$Version;II)V"⟩ ∈ lw_tbl := zin_4 _ (List.mem_of_getElem? (l := tables_1_4) (i := 109) rfl)
theorem zw334 : Cond.methodLink "DiodeLink$Receiver" 245 ⟨"DiodeLink$Version", "holdIfRight", "(I)Z"⟩ ∈ lw_tbl := zin_4 _ (List.mem_of_getElem? (l := tables_1_4) (i := 104) rfl)
theorem zw335 : Cond.methodLink "DiodeLink$Receiver" 47 ⟨"DiodeLink$Rows", "dropAll", "()V"⟩ ∈ lw_tbl := zin_2 _ (List.mem_of_getElem? (l := tables_1_2) (i := 38) rfl)
theorem zw336 : Cond.methodLink "DiodeLink$Receiver" 207 ⟨"DiodeLink$Rows", "ownerAt", "(I)I"⟩ ∈ lw_tbl := zin_4 _ (List.mem_of_getElem? (l := tables_1_4) (i := 55) rfl)
theorem zw337 : Cond.methodLink "DiodeLink$Receiver" 210 ⟨"DiodeLink$Receiver", "greatestOf", "(I)I"⟩ ∈ lw_tbl := zin_4 _ (List.mem_of_getElem? (l := tables_1_4) (i := 59) rfl)
theorem zw338 : Cond.methodLink "DiodeLink$Receiver" 203 ⟨"DiodeLink$Cut", "mask", "(IIIII)I"⟩ ∈ lw_tbl := zin_4 _ (List.mem_of_getElem? (l := tables_1_4) (i := 34) rfl)
theorem zw339 : Cond.methodLink "DiodeLink$Receiver" 197 ⟨"DiodeLink$Cut", "pieces", "(II)I"⟩ ∈ lw_tbl := zin_4 _ (List.mem_of_getElem? (l := tables_1_4) (i := 33) rfl)
theorem zw340 : Cond.methodLink "DiodeLink$Receiver" 97 ⟨"DiodeLink$Version", "isSolved", "(II)Z"⟩ ∈ lw_tbl := zin_4 _ (List.mem_of_getElem? (l := tables_1_4) (i := 26) rfl)
theorem zw341 : Cond.methodLink "DiodeLink$Receiver" 133 ⟨"DiodeLink$Bytes", "hash", "(I)J"⟩ ∈ lw_tbl := zin_3 _ (List.mem_of_getElem? (l := tables_1_3) (i := 187) rfl)
theorem zw342 : Cond.methodLink "DiodeLink$Receiver" 137 ⟨"DiodeLink$Receiver", "noteLife", "(I)V"⟩ ∈ lw_tbl := zin_3 _ (List.mem_of_getElem? (l := tables_1_3) (i := 190) rfl)
theorem zw343 : Cond.methodLink "DiodeLink$Receiver" 140 ⟨"DiodeLink$Receiver", "canBe", "(LDiodeLink$Bytes;)Z"⟩ ∈ lw_tbl := zin_3 _ (List.mem_of_getElem? (l := tables_1_3) (i := 194) rfl)
theorem zw344 : Cond.methodLink "DiodeLink$Receiver" 144 ⟨"DiodeLink$Receiver", "learn", "(II)LDiodeLink$Version;"⟩ ∈ lw_tbl := zin_3 _ (List.mem_of_getElem? (l := tables_1_3) (i := 212) rfl)
theorem zw345 : Cond.methodLink "DiodeLink$Receiver" 147 ⟨"DiodeLink$Receiver", "hasOtherSize", "(LDiodeLink$Version;ILDiodeLink$Bytes;)Z"⟩ ∈ lw_tbl := zin_4 _ (List.mem_of_getElem? (l := tables_1_4) (i := 2) rfl)
theorem zw346 : Cond.methodLink "DiodeLink$Receiver" 153 ⟨"DiodeLink$Rows", "tells", "(II)Z"⟩ ∈ lw_tbl := zin_4 _ (List.mem_of_getElem? (l := tables_1_4) (i := 35) rfl)
theorem zw347 : Cond.methodLink "DiodeLink$Receiver" 156 ⟨"DiodeLink$Rows", "isFull", "()Z"⟩ ∈ lw_tbl := zin_4 _ (List.mem_of_getElem? (l := tables_1_4) (i := 43) rfl)
theorem zw348 : Cond.methodLink "DiodeLink$Receiver" 160 ⟨"DiodeLink$Receiver", "makeRoom", "()Z"⟩ ∈ lw_tbl := zin_4 _ (List.mem_of_getElem? (l := tables_1_4) (i := 47) rfl)
theorem zw349 : Cond.methodLink "DiodeLink$Rows" 3 ⟨"java/lang/Object", "<init>", "()V"⟩ ∈ lw_tbl := zin_1 _ (List.mem_of_getElem? (l := tables_1_1) (i := 168) rfl)
theorem zw350 : Cond.fieldLink "DiodeLink$Rows" 11 "DiodeLink$Rows" "keys" "[I" ∈ lw_tbl := zin_1 _ (List.mem_of_getElem? (l := tables_1_1) (i := 169) rfl)
theorem zw351 : Cond.fieldLink "DiodeLink$Rows" 15 "DiodeLink$Rows" "masks" "[I" ∈ lw_tbl := zin_1 _ (List.mem_of_getElem? (l := tables_1_1) (i := 170) rfl)
theorem zw352 : Cond.fieldLink "DiodeLink$Rows" 18 "DiodeLink$Rows" "values" "[J" ∈ lw_tbl := zin_1 _ (List.mem_of_getElem? (l := tables_1_1) (i := 171) rfl)
theorem zw353 : Cond.fieldLink "DiodeLink$Rows" 22 "DiodeLink$Rows" "used" "I" ∈ lw_tbl := zin_1 _ (List.mem_of_getElem? (l := tables_1_1) (i := 172) rfl)
theorem zw354 : Cond.methodLink "DiodeLink$Rows" 30 ⟨"DiodeLink$Rows", "isFull", "()Z"⟩ ∈ lw_tbl := zin_4 _ (List.mem_of_getElem? (l := tables_1_4) (i := 73) rfl)
theorem zw355 : Cond.methodLink "DiodeLink$Rows" 26 ⟨"DiodeLink$Rows", "hasPivotIn", "(III)Z"⟩ ∈ lw_tbl := zin_4 _ (List.mem_of_getElem? (l := tables_1_4) (i := 39) rfl)
theorem zw356 : Cond.methodLink "DiodeLink$Rules" 3 ⟨"java/lang/Object", "<init>", "()V"⟩ ∈ lw_tbl := zin_1 _ (List.mem_of_getElem? (l := tables_1_1) (i := 112) rfl)
theorem zw357 : Cond.arrayClass .boolean ∈ lw_tbl := zin_1 _ (List.mem_of_getElem? (l := tables_1_1) (i := 126) rfl)
theorem zw358 : Cond.fieldLink "DiodeLink$Rules" 11 "DiodeLink$Rules" "signs" "[Z" ∈ lw_tbl := zin_1 _ (List.mem_of_getElem? (l := tables_1_1) (i := 113) rfl)
theorem zw359 : Cond.fieldLink "DiodeLink$Rules" 15 "DiodeLink$Rules" "firsts" "[Z" ∈ lw_tbl := zin_1 _ (List.mem_of_getElem? (l := tables_1_1) (i := 114) rfl)
theorem zw360 : Cond.fieldLink "DiodeLink$Rules" 18 "DiodeLink$Rules" "mostBytes" "I" ∈ lw_tbl := zin_1 _ (List.mem_of_getElem? (l := tables_1_1) (i := 115) rfl)
theorem zw361 : Cond.fieldLink "DiodeLink$Rules" 22 "DiodeLink$Rules" "mostFiles" "I" ∈ lw_tbl := zin_1 _ (List.mem_of_getElem? (l := tables_1_1) (i := 116) rfl)
theorem zw362 : Cond.methodLink "DiodeLink$Rules" 25 ⟨"DiodeLink$Version", "files", "()I"⟩ ∈ lw_tbl := zin_4 _ (List.mem_of_getElem? (l := tables_1_4) (i := 175) rfl)
theorem zw363 : Cond.methodLink "DiodeLink$Rules" 31 ⟨"DiodeLink$Rules", "isBrokenByFile", "(ILDiodeLink$Version;I)Z"⟩ ∈ lw_tbl := zin_4 _ (List.mem_of_getElem? (l := tables_1_4) (i := 176) rfl)
theorem zw364 : Cond.methodLink "DiodeLink$Rules" 43 ⟨"DiodeLink$Version", "item", "(I)LDiodeLink$Bytes;"⟩ ∈ lw_tbl := zin_4 _ (List.mem_of_getElem? (l := tables_1_4) (i := 188) rfl)
theorem zw365 : Cond.methodLink "DiodeLink$Rules" 52 ⟨"DiodeLink$Version", "namePlace", "(I)I"⟩ ∈ lw_tbl := zin_4 _ (List.mem_of_getElem? (l := tables_1_4) (i := 189) rfl)
theorem zw366 : Cond.methodLink "DiodeLink$Rules" 55 ⟨"DiodeLink$Version", "nameSize", "(I)I"⟩ ∈ lw_tbl := zin_4 _ (List.mem_of_getElem? (l := tables_1_4) (i := 193) rfl)
theorem zw367 : Cond.methodLink "DiodeLink$Rules" 47 ⟨"DiodeLink$Bytes", "at", "(I)I"⟩ ∈ lw_tbl := zin_4 _ (List.mem_of_getElem? (l := tables_1_4) (i := 197) rfl)
theorem zw368 : Cond.methodLink "DiodeLink$Rules" 35 ⟨"DiodeLink$Version", "fileSize", "(I)I"⟩ ∈ lw_tbl := zin_4 _ (List.mem_of_getElem? (l := tables_1_4) (i := 180) rfl)
theorem zw369 : Cond.methodLink "DiodeLink$Rules" 39 ⟨"DiodeLink$Rules", "hasBadSign", "(LDiodeLink$Version;I)Z"⟩ ∈ lw_tbl := zin_4 _ (List.mem_of_getElem? (l := tables_1_4) (i := 184) rfl)
theorem zw370 : Cond.methodLink "DiodeLink$Sender" 3 ⟨"java/lang/Object", "<init>", "()V"⟩ ∈ lw_tbl := zin_1 _ (List.mem_of_getElem? (l := tables_1_1) (i := 48) rfl)
theorem zw371 : Cond.classLink "DiodeLink$Sender" 9 "DiodeLink$Folder" ∈ lw_tbl := zin_1 _ (List.mem_of_getElem? (l := tables_1_1) (i := 49) rfl)
theorem zw372 : Cond.fieldLink "DiodeLink$Sender" 11 "DiodeLink$Sender" "folders" "[LDiodeLink$Folder;" ∈ lw_tbl := zin_1 _ (List.mem_of_getElem? (l := tables_1_1) (i := 94) rfl)
theorem zw373 : Cond.fieldLink "DiodeLink$Sender" 17 "DiodeLink$Sender" "nextPlaces" "[I" ∈ lw_tbl := zin_1 _ (List.mem_of_getElem? (l := tables_1_1) (i := 95) rfl)
theorem zw374 : Cond.fieldLink "DiodeLink$Sender" 21 "DiodeLink$Sender" "life" "I" ∈ lw_tbl := zin_1 _ (List.mem_of_getElem? (l := tables_1_1) (i := 96) rfl)
theorem zw375 : Cond.fieldLink "DiodeLink$Sender" 25 "DiodeLink$Sender" "turn" "I" ∈ lw_tbl := zin_1 _ (List.mem_of_getElem? (l := tables_1_1) (i := 97) rfl)
theorem zw376 : Cond.instantiable "DiodeLink$Folder" 5 ∈ lw_tbl := zin_1 _ (List.mem_of_getElem? (l := tables_1_1) (i := 51) rfl)
theorem zw377 : Cond.initialized "DiodeLink$Folder" ∈ lw_tbl := zin_1 _ (List.mem_of_getElem? (l := tables_1_1) (i := 4) rfl)
theorem zw378 : Cond.methodLink "DiodeLink$Sender" 28 ⟨"DiodeLink$Folder", "<init>", "()V"⟩ ∈ lw_tbl := zin_1 _ (List.mem_of_getElem? (l := tables_1_1) (i := 52) rfl)
theorem zw379 : Cond.methodLink "DiodeLink$Sender" 29 ⟨"DiodeLink$Sender", "beginRounds", "()V"⟩ ∈ lw_tbl := zin_3 _ (List.mem_of_getElem? (l := tables_1_3) (i := 68) rfl)
theorem zw380 : Cond.methodLink "DiodeLink$Sender" 44 ⟨"DiodeLink$Sender", "oldestAge", "(I)I"⟩ ∈ lw_tbl := zin_3 _ (List.mem_of_getElem? (l := tables_1_3) (i := 91) rfl)
theorem zw381 : Cond.methodLink "DiodeLink$Sender" 47 ⟨"DiodeLink$Sender", "youngestAge", "(I)I"⟩ ∈ lw_tbl := zin_3 _ (List.mem_of_getElem? (l := tables_1_3) (i := 94) rfl)
theorem zw382 : Cond.methodLink "DiodeLink$Sender" 50 ⟨"DiodeLink$Folder", "edition", "(I)LDiodeLink$Edition;"⟩ ∈ lw_tbl := zin_3 _ (List.mem_of_getElem? (l := tables_1_3) (i := 97) rfl)
theorem zw383 : Cond.methodLink "DiodeLink$Sender" 54 ⟨"DiodeLink$Edition", "packets", "()I"⟩ ∈ lw_tbl := zin_3 _ (List.mem_of_getElem? (l := tables_1_3) (i := 101) rfl)
theorem zw384 : Cond.methodLink "DiodeLink$Sender" 59 ⟨"DiodeLink$Edition", "fillPacket", "(LDiodeLink$Bytes;III)V"⟩ ∈ lw_tbl := zin_3 _ (List.mem_of_getElem? (l := tables_1_3) (i := 120) rfl)
theorem zw385 : Cond.methodLink "DiodeLink$Sender" 36 ⟨"DiodeLink$Sender", "packetsOf", "(I)I"⟩ ∈ lw_tbl := zin_3 _ (List.mem_of_getElem? (l := tables_1_3) (i := 87) rfl)
theorem zw386 : Cond.methodLink "DiodeLink$Sender" 40 ⟨"DiodeLink$Sender", "fillFrom", "(LDiodeLink$Bytes;II)V"⟩ ∈ lw_tbl := zin_3 _ (List.mem_of_getElem? (l := tables_1_3) (i := 116) rfl)
theorem zw387 : Cond.methodLink "DiodeLink$Sender" 32 ⟨"DiodeLink$Folder", "makeVersion", "()I"⟩ ∈ lw_tbl := zin_3 _ (List.mem_of_getElem? (l := tables_1_3) (i := 38) rfl)
theorem zw388 : Cond.methodLink "DiodeLink$Version" 3 ⟨"java/lang/Object", "<init>", "()V"⟩ ∈ lw_tbl := zin_1 _ (List.mem_of_getElem? (l := tables_1_1) (i := 186) rfl)
theorem zw389 : Cond.classLink "DiodeLink$Version" 9 "DiodeLink$Bytes" ∈ lw_tbl := zin_1 _ (List.mem_of_getElem? (l := tables_1_1) (i := 187) rfl)
theorem zw390 : Cond.fieldLink "DiodeLink$Version" 11 "DiodeLink$Version" "items" "[LDiodeLink$Bytes;" ∈ lw_tbl := zin_1 _ (List.mem_of_getElem? (l := tables_1_1) (i := 189) rfl)
theorem zw391 : Cond.fieldLink "DiodeLink$Version" 17 "DiodeLink$Version" "solved" "[Z" ∈ lw_tbl := zin_1 _ (List.mem_of_getElem? (l := tables_1_1) (i := 190) rfl)
theorem zw392 : Cond.fieldLink "DiodeLink$Version" 21 "DiodeLink$Version" "held" "[Z" ∈ lw_tbl := zin_1 _ (List.mem_of_getElem? (l := tables_1_1) (i := 191) rfl)
theorem zw393 : Cond.fieldLink "DiodeLink$Version" 24 "DiodeLink$Version" "nameAt" "[I" ∈ lw_tbl := zin_1 _ (List.mem_of_getElem? (l := tables_1_1) (i := 192) rfl)
theorem zw394 : Cond.fieldLink "DiodeLink$Version" 28 "DiodeLink$Version" "nameSizes" "[I" ∈ lw_tbl := zin_1 _ (List.mem_of_getElem? (l := tables_1_1) (i := 193) rfl)
theorem zw395 : Cond.fieldLink "DiodeLink$Version" 31 "DiodeLink$Version" "fileSizes" "[I" ∈ lw_tbl := zin_1 _ (List.mem_of_getElem? (l := tables_1_1) (i := 194) rfl)
theorem zw396 : Cond.fieldLink "DiodeLink$Version" 34 "DiodeLink$Version" "fileHashes" "[J" ∈ lw_tbl := zin_1 _ (List.mem_of_getElem? (l := tables_1_1) (i := 195) rfl)
theorem zw397 : Cond.fieldLink "DiodeLink$Version" 38 "DiodeLink$Version" "number" "I" ∈ lw_tbl := zin_1 _ (List.mem_of_getElem? (l := tables_1_1) (i := 196) rfl)
theorem zw398 : Cond.fieldLink "DiodeLink$Version" 42 "DiodeLink$Version" "state" "I" ∈ lw_tbl := zin_1 _ (List.mem_of_getElem? (l := tables_1_1) (i := 197) rfl)
theorem zw399 : Cond.fieldLink "DiodeLink$Version" 45 "DiodeLink$Version" "files" "I" ∈ lw_tbl := zin_1 _ (List.mem_of_getElem? (l := tables_1_1) (i := 198) rfl)
theorem zw400 : Cond.fieldLink "DiodeLink$Version" 48 "DiodeLink$Version" "good" "Z" ∈ lw_tbl := zin_1 _ (List.mem_of_getElem? (l := tables_1_1) (i := 199) rfl)
theorem zw401 : Cond.methodLink "DiodeLink$Version" 52 ⟨"DiodeLink$Bytes", "<init>", "(I)V"⟩ ∈ lw_tbl := zin_1 _ (List.mem_of_getElem? (l := tables_1_1) (i := 188) rfl)
theorem zw402 : Cond.methodLink "DiodeLink$Version" 55 ⟨"DiodeLink$Version", "clearItem", "(I)V"⟩ ∈ lw_tbl := zin_3 _ (List.mem_of_getElem? (l := tables_1_3) (i := 237) rfl)
theorem zw403 : Cond.methodLink "DiodeLink$Version" 58 ⟨"DiodeLink$Bytes", "clear", "()V"⟩ ∈ lw_tbl := zin_4 _ (List.mem_of_getElem? (l := tables_1_4) (i := 1) rfl)
theorem zw404 : Cond.methodLink "DiodeLink$Version" 61 ⟨"DiodeLink$Version", "isSolved", "(II)Z"⟩ ∈ lw_tbl := zin_4 _ (List.mem_of_getElem? (l := tables_1_4) (i := 10) rfl)
theorem zw405 : Cond.methodLink "DiodeLink$Version" 96 ⟨"DiodeLink$Bytes", "copyFrom", "(LDiodeLink$Bytes;)V"⟩ ∈ lw_tbl := zin_4 _ (List.mem_of_getElem? (l := tables_1_4) (i := 154) rfl)
theorem zw406 : Cond.methodLink "DiodeLink$Version" 65 ⟨"DiodeLink$Bytes", "size", "()I"⟩ ∈ lw_tbl := zin_4 _ (List.mem_of_getElem? (l := tables_1_4) (i := 90) rfl)
theorem zw407 : Cond.methodLink "DiodeLink$Version" 69 ⟨"DiodeLink$Cut", "blocks", "(I)I"⟩ ∈ lw_tbl := zin_4 _ (List.mem_of_getElem? (l := tables_1_4) (i := 91) rfl)
theorem zw408 : Cond.methodLink "DiodeLink$Version" 92 ⟨"DiodeLink$Bytes", "hash", "(I)J"⟩ ∈ lw_tbl := zin_4 _ (List.mem_of_getElem? (l := tables_1_4) (i := 108) rfl)
theorem zw409 : Cond.methodLink "DiodeLink$Version" 88 ⟨"DiodeLink$Bytes", "compareParts", "(IILDiodeLink$Bytes;II)I"⟩ ∈ lw_tbl := zin_4 _ (List.mem_of_getElem? (l := tables_1_4) (i := 129) rfl)
theorem zw410 : Cond.methodLink "DiodeLink$Version" 75 ⟨"DiodeLink$Bytes", "at", "(I)I"⟩ ∈ lw_tbl := zin_4 _ (List.mem_of_getElem? (l := tables_1_4) (i := 122) rfl)
theorem zw411 : Cond.methodLink "DiodeLink$Version" 78 ⟨"DiodeLink$Bytes", "number", "(II)J"⟩ ∈ lw_tbl := zin_4 _ (List.mem_of_getElem? (l := tables_1_4) (i := 123) rfl)
theorem zw412 : Cond.methodLink "DiodeLink$Version" 81 ⟨"DiodeLink$Bytes", "isName", "(II)Z"⟩ ∈ lw_tbl := zin_4 _ (List.mem_of_getElem? (l := tables_1_4) (i := 124) rfl)
theorem zw413 : Cond.methodLink "DiodeLink$Version" 84 ⟨"DiodeLink$Version", "isBehindLast", "(I)Z"⟩ ∈ lw_tbl := zin_4 _ (List.mem_of_getElem? (l := tables_1_4) (i := 125) rfl)
theorem zw414 : Cond.methodLink "DiodeLink$Version" 100 ⟨"java/lang/System", "arraycopy", "(Ljava/lang/Object;ILjava/lang/Object;II)V"⟩ ∈ lw_tbl := zin_5 _ (List.mem_of_getElem? (l := tables_1_5) (i := 40) rfl)
theorem zw415 : Cond.methodLink "DiodeLinkLaw" 36 ⟨"DiodeLink", "alter", "(III)V"⟩ ∈ lw_tbl := zin_3 _ (List.mem_of_getElem? (l := tables_1_3) (i := 159) rfl)
theorem zw416 : Cond.methodLink "DiodeLinkLaw" 25 ⟨"DiodeLink", "commit", "(I)I"⟩ ∈ lw_tbl := zin_3 _ (List.mem_of_getElem? (l := tables_1_3) (i := 27) rfl)
theorem zw417 : Cond.methodLink "DiodeLinkLaw" 76 ⟨"DiodeLink", "count", "(I)I"⟩ ∈ lw_tbl := zin_5 _ (List.mem_of_getElem? (l := tables_1_5) (i := 116) rfl)
theorem zw418 : Cond.methodLink "DiodeLinkLaw" 7 ⟨"DiodeLink", "feed", "(ZJI)I"⟩ ∈ lw_tbl := zin_2 _ (List.mem_of_getElem? (l := tables_1_2) (i := 95) rfl)
theorem zw419 : Cond.methodLink "DiodeLinkLaw" 64 ⟨"DiodeLink", "file", "(IIIZ)I"⟩ ∈ lw_tbl := zin_5 _ (List.mem_of_getElem? (l := tables_1_5) (i := 57) rfl)
theorem zw420 : Cond.methodLink "DiodeLinkLaw" 50 ⟨"DiodeLink", "have", "(II)I"⟩ ∈ lw_tbl := zin_5 _ (List.mem_of_getElem? (l := tables_1_5) (i := 0) rfl)
theorem zw421 : Cond.methodLink "DiodeLinkLaw" 40 ⟨"DiodeLink", "hear", "(I)I"⟩ ∈ lw_tbl := zin_3 _ (List.mem_of_getElem? (l := tables_1_3) (i := 175) rfl)
theorem zw422 : Cond.methodLink "DiodeLinkLaw" 70 ⟨"DiodeLink", "journal", "(II)J"⟩ ∈ lw_tbl := zin_5 _ (List.mem_of_getElem? (l := tables_1_5) (i := 86) rfl)
theorem zw423 : Cond.methodLink "DiodeLinkLaw" 32 ⟨"DiodeLink", "packet", "(II)J"⟩ ∈ lw_tbl := zin_3 _ (List.mem_of_getElem? (l := tables_1_3) (i := 145) rfl)
theorem zw424 : Cond.methodLink "DiodeLinkLaw" 54 ⟨"DiodeLink", "rank", "(IIII)I"⟩ ∈ lw_tbl := zin_5 _ (List.mem_of_getElem? (l := tables_1_5) (i := 16) rfl)
theorem zw425 : Cond.methodLink "DiodeLinkLaw" 58 ⟨"DiodeLink", "release", "(I)I"⟩ ∈ lw_tbl := zin_5 _ (List.mem_of_getElem? (l := tables_1_5) (i := 28) rfl)
theorem zw426 : Cond.methodLink "DiodeLinkLaw" 61 ⟨"DiodeLink", "released", "(I)I"⟩ ∈ lw_tbl := zin_5 _ (List.mem_of_getElem? (l := tables_1_5) (i := 44) rfl)
theorem zw427 : Cond.methodLink "DiodeLinkLaw" 21 ⟨"DiodeLink", "remove", "(I)Z"⟩ ∈ lw_tbl := zin_3 _ (List.mem_of_getElem? (l := tables_1_3) (i := 15) rfl)
theorem zw428 : Cond.methodLink "DiodeLinkLaw" 43 ⟨"DiodeLink", "restartSender", "()I"⟩ ∈ lw_tbl := zin_4 _ (List.mem_of_getElem? (l := tables_1_4) (i := 209) rfl)
theorem zw429 : Cond.methodLink "DiodeLinkLaw" 46 ⟨"DiodeLink", "rule", "(IIZ)V"⟩ ∈ lw_tbl := zin_4 _ (List.mem_of_getElem? (l := tables_1_4) (i := 225) rfl)
theorem zw430 : Cond.methodLink "DiodeLinkLaw" 28 ⟨"DiodeLink", "send", "()I"⟩ ∈ lw_tbl := zin_3 _ (List.mem_of_getElem? (l := tables_1_3) (i := 76) rfl)
theorem zw431 : Cond.methodLink "DiodeLinkLaw" 73 ⟨"DiodeLink", "touch", "(III)V"⟩ ∈ lw_tbl := zin_5 _ (List.mem_of_getElem? (l := tables_1_5) (i := 105) rfl)
theorem zw432 : Cond.methodLink "DiodeLinkLaw" 17 ⟨"DiodeLink", "write", "(I)I"⟩ ∈ lw_tbl := zin_2 _ (List.mem_of_getElem? (l := tables_1_2) (i := 195) rfl)
theorem zw433 : Cond.methodLink "DiodeLinkModel" 1 ⟨"java/lang/Object", "<init>", "()V"⟩ ∈ lw_tbl := zin_5 _ (List.mem_of_getElem? (l := tables_1_5) (i := 134) rfl)
theorem zw434 : Cond.fieldLink "DiodeLinkModel" 7 "DiodeLinkModel" "name" "[I" ∈ lw_tbl := zin_5 _ (List.mem_of_getElem? (l := tables_1_5) (i := 138) rfl)
theorem zw435 : Cond.fieldLink "DiodeLinkModel" 13 "DiodeLinkModel" "data" "[I" ∈ lw_tbl := zin_5 _ (List.mem_of_getElem? (l := tables_1_5) (i := 139) rfl)
theorem zw436 : Cond.fieldLink "DiodeLinkModel" 16 "DiodeLinkModel" "files" "[I" ∈ lw_tbl := zin_5 _ (List.mem_of_getElem? (l := tables_1_5) (i := 140) rfl)
theorem zw437 : Cond.fieldLink "DiodeLinkModel" 19 "DiodeLinkModel" "nameSize" "[I" ∈ lw_tbl := zin_5 _ (List.mem_of_getElem? (l := tables_1_5) (i := 141) rfl)
theorem zw438 : Cond.fieldLink "DiodeLinkModel" 22 "DiodeLinkModel" "names" "[I" ∈ lw_tbl := zin_5 _ (List.mem_of_getElem? (l := tables_1_5) (i := 142) rfl)
theorem zw439 : Cond.fieldLink "DiodeLinkModel" 25 "DiodeLinkModel" "fileSize" "[I" ∈ lw_tbl := zin_5 _ (List.mem_of_getElem? (l := tables_1_5) (i := 143) rfl)
theorem zw440 : Cond.fieldLink "DiodeLinkModel" 28 "DiodeLinkModel" "fileData" "[I" ∈ lw_tbl := zin_5 _ (List.mem_of_getElem? (l := tables_1_5) (i := 144) rfl)
theorem zw441 : Cond.fieldLink "DiodeLinkModel" 31 "DiodeLinkModel" "versions" "[I" ∈ lw_tbl := zin_5 _ (List.mem_of_getElem? (l := tables_1_5) (i := 145) rfl)
theorem zw442 : Cond.fieldLink "DiodeLinkModel" 34 "DiodeLinkModel" "keptItems" "[I" ∈ lw_tbl := zin_5 _ (List.mem_of_getElem? (l := tables_1_5) (i := 146) rfl)
theorem zw443 : Cond.fieldLink "DiodeLinkModel" 37 "DiodeLinkModel" "keptSize" "[I" ∈ lw_tbl := zin_5 _ (List.mem_of_getElem? (l := tables_1_5) (i := 147) rfl)
theorem zw444 : Cond.fieldLink "DiodeLinkModel" 40 "DiodeLinkModel" "keptData" "[I" ∈ lw_tbl := zin_5 _ (List.mem_of_getElem? (l := tables_1_5) (i := 148) rfl)
theorem zw445 : Cond.fieldLink "DiodeLinkModel" 43 "DiodeLinkModel" "life" "I" ∈ lw_tbl := zin_5 _ (List.mem_of_getElem? (l := tables_1_5) (i := 149) rfl)
theorem zw446 : Cond.fieldLink "DiodeLinkModel" 47 "DiodeLinkModel" "goes" "[I" ∈ lw_tbl := zin_5 _ (List.mem_of_getElem? (l := tables_1_5) (i := 152) rfl)
theorem zw447 : Cond.fieldLink "DiodeLinkModel" 50 "DiodeLinkModel" "slots" "[I" ∈ lw_tbl := zin_5 _ (List.mem_of_getElem? (l := tables_1_5) (i := 153) rfl)
theorem zw448 : Cond.fieldLink "DiodeLinkModel" 53 "DiodeLinkModel" "filled" "[Z" ∈ lw_tbl := zin_5 _ (List.mem_of_getElem? (l := tables_1_5) (i := 154) rfl)
theorem zw449 : Cond.fieldLink "DiodeLinkModel" 57 "DiodeLinkModel" "found" "[I" ∈ lw_tbl := zin_5 _ (List.mem_of_getElem? (l := tables_1_5) (i := 155) rfl)
theorem zw450 : Cond.fieldLink "DiodeLinkModel" 60 "DiodeLinkModel" "known" "[I" ∈ lw_tbl := zin_5 _ (List.mem_of_getElem? (l := tables_1_5) (i := 157) rfl)
theorem zw451 : Cond.fieldLink "DiodeLinkModel" 63 "DiodeLinkModel" "good" "[Z" ∈ lw_tbl := zin_5 _ (List.mem_of_getElem? (l := tables_1_5) (i := 158) rfl)
theorem zw452 : Cond.fieldLink "DiodeLinkModel" 66 "DiodeLinkModel" "count" "[I" ∈ lw_tbl := zin_5 _ (List.mem_of_getElem? (l := tables_1_5) (i := 159) rfl)
theorem zw453 : Cond.fieldLink "DiodeLinkModel" 69 "DiodeLinkModel" "verdict" "[I" ∈ lw_tbl := zin_5 _ (List.mem_of_getElem? (l := tables_1_5) (i := 160) rfl)
theorem zw454 : Cond.fieldLink "DiodeLinkModel" 72 "DiodeLinkModel" "size" "[I" ∈ lw_tbl := zin_5 _ (List.mem_of_getElem? (l := tables_1_5) (i := 161) rfl)
theorem zw455 : Cond.fieldLink "DiodeLinkModel" 75 "DiodeLinkModel" "solved" "[Z" ∈ lw_tbl := zin_5 _ (List.mem_of_getElem? (l := tables_1_5) (i := 162) rfl)
theorem zw456 : Cond.fieldLink "DiodeLinkModel" 78 "DiodeLinkModel" "bytes" "[I" ∈ lw_tbl := zin_5 _ (List.mem_of_getElem? (l := tables_1_5) (i := 163) rfl)
theorem zw457 : Cond.fieldLink "DiodeLinkModel" 81 "DiodeLinkModel" "held" "[Z" ∈ lw_tbl := zin_5 _ (List.mem_of_getElem? (l := tables_1_5) (i := 164) rfl)
theorem zw458 : Cond.fieldLink "DiodeLinkModel" 84 "DiodeLinkModel" "rowItem" "[I" ∈ lw_tbl := zin_5 _ (List.mem_of_getElem? (l := tables_1_5) (i := 166) rfl)
theorem zw459 : Cond.fieldLink "DiodeLinkModel" 87 "DiodeLinkModel" "rowBlock" "[I" ∈ lw_tbl := zin_5 _ (List.mem_of_getElem? (l := tables_1_5) (i := 167) rfl)
theorem zw460 : Cond.fieldLink "DiodeLinkModel" 90 "DiodeLinkModel" "rowMask" "[I" ∈ lw_tbl := zin_5 _ (List.mem_of_getElem? (l := tables_1_5) (i := 168) rfl)
theorem zw461 : Cond.fieldLink "DiodeLinkModel" 93 "DiodeLinkModel" "rowBytes" "[J" ∈ lw_tbl := zin_5 _ (List.mem_of_getElem? (l := tables_1_5) (i := 169) rfl)
theorem zw462 : Cond.fieldLink "DiodeLinkModel" 97 "DiodeLinkModel" "mostSize" "I" ∈ lw_tbl := zin_5 _ (List.mem_of_getElem? (l := tables_1_5) (i := 171) rfl)
theorem zw463 : Cond.fieldLink "DiodeLinkModel" 100 "DiodeLinkModel" "mostFiles" "I" ∈ lw_tbl := zin_5 _ (List.mem_of_getElem? (l := tables_1_5) (i := 172) rfl)
theorem zw464 : Cond.fieldLink "DiodeLinkModel" 103 "DiodeLinkModel" "badSign" "[Z" ∈ lw_tbl := zin_5 _ (List.mem_of_getElem? (l := tables_1_5) (i := 173) rfl)
theorem zw465 : Cond.fieldLink "DiodeLinkModel" 106 "DiodeLinkModel" "badFirst" "[Z" ∈ lw_tbl := zin_5 _ (List.mem_of_getElem? (l := tables_1_5) (i := 174) rfl)
theorem zw466 : Cond.fieldLink "DiodeLinkModel" 109 "DiodeLinkModel" "released" "[I" ∈ lw_tbl := zin_5 _ (List.mem_of_getElem? (l := tables_1_5) (i := 175) rfl)
theorem zw467 : Cond.fieldLink "DiodeLinkModel" 112 "DiodeLinkModel" "releases" "[I" ∈ lw_tbl := zin_5 _ (List.mem_of_getElem? (l := tables_1_5) (i := 176) rfl)
theorem zw468 : Cond.fieldLink "DiodeLinkModel" 115 "DiodeLinkModel" "earlier" "[I" ∈ lw_tbl := zin_5 _ (List.mem_of_getElem? (l := tables_1_5) (i := 177) rfl)
theorem zw469 : Cond.fieldLink "DiodeLinkModel" 118 "DiodeLinkModel" "releasedFiles" "[I" ∈ lw_tbl := zin_5 _ (List.mem_of_getElem? (l := tables_1_5) (i := 178) rfl)
theorem zw470 : Cond.fieldLink "DiodeLinkModel" 121 "DiodeLinkModel" "releasedNames" "[I" ∈ lw_tbl := zin_5 _ (List.mem_of_getElem? (l := tables_1_5) (i := 179) rfl)
theorem zw471 : Cond.fieldLink "DiodeLinkModel" 124 "DiodeLinkModel" "releasedSize" "[I" ∈ lw_tbl := zin_5 _ (List.mem_of_getElem? (l := tables_1_5) (i := 180) rfl)
theorem zw472 : Cond.fieldLink "DiodeLinkModel" 127 "DiodeLinkModel" "releasedData" "[I" ∈ lw_tbl := zin_5 _ (List.mem_of_getElem? (l := tables_1_5) (i := 181) rfl)
theorem zw473 : Cond.fieldLink "DiodeLinkModel" 130 "DiodeLinkModel" "entry" "[I" ∈ lw_tbl := zin_5 _ (List.mem_of_getElem? (l := tables_1_5) (i := 184) rfl)
theorem zw474 : Cond.fieldLink "DiodeLinkModel" 133 "DiodeLinkModel" "links" "[J" ∈ lw_tbl := zin_5 _ (List.mem_of_getElem? (l := tables_1_5) (i := 185) rfl)
theorem zw475 : Cond.methodLink "DiodeLinkModel" 233 ⟨"DiodeLinkModel", "has", "(I)Z"⟩ ∈ lw_tbl := zin_6 _ (List.mem_of_getElem? (l := tables_1_6) (i := 155) rfl)
theorem zw476 : Cond.methodLink "DiodeLinkModel" 143 ⟨"DiodeLinkModel", "in", "(III)Z"⟩ ∈ lw_tbl := zin_6 _ (List.mem_of_getElem? (l := tables_1_6) (i := 57) rfl)
theorem zw477 : Cond.methodLink "DiodeLinkModel" 147 ⟨"DiodeLinkModel", "fails", "(ZI)Z"⟩ ∈ lw_tbl := zin_6 _ (List.mem_of_getElem? (l := tables_1_6) (i := 60) rfl)
theorem zw478 : Cond.fieldLink "DiodeLinkModel" 197 "DiodeLinkModel" "turn" "I" ∈ lw_tbl := zin_5 _ (List.mem_of_getElem? (l := tables_1_5) (i := 150) rfl)
theorem zw479 : Cond.constantLong "DiodeLinkModel" 141 (Int64.ofInt (-3750763034362895579)) ∈ lw_tbl := zin_6 _ (List.mem_of_getElem? (l := tables_1_6) (i := 108) rfl)
theorem zw480 : Cond.methodLink "DiodeLinkModel" 281 ⟨"DiodeLinkModel", "sizeTold", "(II)I"⟩ ∈ lw_tbl := zin_7 _ (List.mem_of_getElem? (l := tables_1_7) (i := 23) rfl)
theorem zw481 : Cond.methodLink "DiodeLinkModel" 284 ⟨"DiodeLinkModel", "hashTold", "(II)J"⟩ ∈ lw_tbl := zin_7 _ (List.mem_of_getElem? (l := tables_1_7) (i := 31) rfl)
theorem zw482 : Cond.methodLink "DiodeLinkModel" 250 ⟨"DiodeLinkModel", "forget", "(I)V"⟩ ∈ lw_tbl := zin_6 _ (List.mem_of_getElem? (l := tables_1_6) (i := 203) rfl)
theorem zw483 : Cond.methodLink "DiodeLinkModel" 201 ⟨"DiodeLinkModel", "blocks", "(I)I"⟩ ∈ lw_tbl := zin_6 _ (List.mem_of_getElem? (l := tables_1_6) (i := 129) rfl)
theorem zw484 : Cond.methodLink "DiodeLinkModel" 269 ⟨"DiodeLinkModel", "byteOf", "(II)I"⟩ ∈ lw_tbl := zin_7 _ (List.mem_of_getElem? (l := tables_1_7) (i := 19) rfl)
theorem zw485 : Cond.methodLink "DiodeLinkModel" 275 ⟨"DiodeLinkModel", "tells", "(II)I"⟩ ∈ lw_tbl := zin_7 _ (List.mem_of_getElem? (l := tables_1_7) (i := 27) rfl)
theorem zw486 : Cond.methodLink "DiodeLinkModel" 204 ⟨"DiodeLinkModel", "pieces", "(II)I"⟩ ∈ lw_tbl := zin_6 _ (List.mem_of_getElem? (l := tables_1_6) (i := 132) rfl)
theorem zw487 : Cond.methodLink "DiodeLinkModel" 190 ⟨"DiodeLinkModel", "manifest", "(III)V"⟩ ∈ lw_tbl := zin_6 _ (List.mem_of_getElem? (l := tables_1_6) (i := 97) rfl)
theorem zw488 : Cond.methodLink "DiodeLinkModel" 194 ⟨"DiodeLinkModel", "anew", "()V"⟩ ∈ lw_tbl := zin_6 _ (List.mem_of_getElem? (l := tables_1_6) (i := 113) rfl)
theorem zw489 : Cond.methodLink "DiodeLinkModel" 278 ⟨"DiodeLinkModel", "isComplete", "(I)Z"⟩ ∈ lw_tbl := zin_7 _ (List.mem_of_getElem? (l := tables_1_7) (i := 7) rfl)
theorem zw490 : Cond.methodLink "DiodeLinkModel" 182 ⟨"DiodeLinkModel", "begin", "()J"⟩ ∈ lw_tbl := zin_6 _ (List.mem_of_getElem? (l := tables_1_6) (i := 105) rfl)
theorem zw491 : Cond.methodLink "DiodeLinkModel" 186 ⟨"DiodeLinkModel", "more", "(JI)J"⟩ ∈ lw_tbl := zin_6 _ (List.mem_of_getElem? (l := tables_1_6) (i := 109) rfl)
theorem zw492 : Cond.methodLink "DiodeLinkModel" 287 ⟨"DiodeLinkModel", "compare", "(II)V"⟩ ∈ lw_tbl := zin_7 _ (List.mem_of_getElem? (l := tables_1_7) (i := 15) rfl)
theorem zw493 : Cond.methodLink "DiodeLinkModel" 290 ⟨"DiodeLinkModel", "isManifest", "(I)Z"⟩ ∈ lw_tbl := zin_7 _ (List.mem_of_getElem? (l := tables_1_7) (i := 35) rfl)
theorem zw494 : Cond.fieldLink "DiodeLinkModel" 306 "DiodeLinkModel" "dropped" "I" ∈ lw_tbl := zin_5 _ (List.mem_of_getElem? (l := tables_1_5) (i := 170) rfl)
theorem zw495 : Cond.fieldLink "DiodeLinkModel" 241 "DiodeLinkModel" "rows" "I" ∈ lw_tbl := zin_5 _ (List.mem_of_getElem? (l := tables_1_5) (i := 165) rfl)
theorem zw496 : Cond.fieldLink "DiodeLinkModel" 214 "DiodeLinkModel" "sent" "I" ∈ lw_tbl := zin_5 _ (List.mem_of_getElem? (l := tables_1_5) (i := 151) rfl)
theorem zw497 : Cond.fieldLink "DiodeLinkModel" 136 "DiodeLinkModel" "thrown" "I" ∈ lw_tbl := zin_5 _ (List.mem_of_getElem? (l := tables_1_5) (i := 135) rfl)
theorem zw498 : Cond.fieldLink "DiodeLinkModel" 151 "DiodeLinkModel" "given" "I" ∈ lw_tbl := zin_5 _ (List.mem_of_getElem? (l := tables_1_5) (i := 137) rfl)
theorem zw499 : Cond.fieldLink "DiodeLinkModel" 154 "DiodeLinkModel" "named" "I" ∈ lw_tbl := zin_5 _ (List.mem_of_getElem? (l := tables_1_5) (i := 136) rfl)
theorem zw500 : Cond.constantLong "DiodeLinkModel" 157 (Int64.ofInt (255)) ∈ lw_tbl := zin_6 _ (List.mem_of_getElem? (l := tables_1_6) (i := 64) rfl)
theorem zw501 : Cond.methodLink "DiodeLinkModel" 247 ⟨"DiodeLinkModel", "drop", "(III)V"⟩ ∈ lw_tbl := zin_6 _ (List.mem_of_getElem? (l := tables_1_6) (i := 207) rfl)
theorem zw502 : Cond.constant "DiodeLinkModel" 349 (Int32.ofInt (65535)) ∈ lw_tbl := zin_7 _ (List.mem_of_getElem? (l := tables_1_7) (i := 79) rfl)
theorem zw503 : Cond.methodLink "DiodeLinkModel" 257 ⟨"DiodeLinkModel", "placeOf", "(II)I"⟩ ∈ lw_tbl := zin_6 _ (List.mem_of_getElem? (l := tables_1_6) (i := 195) rfl)
theorem zw504 : Cond.methodLink "DiodeLinkModel" 350 ⟨"DiodeLinkModel", "wasReleased", "(II)Z"⟩ ∈ lw_tbl := zin_7 _ (List.mem_of_getElem? (l := tables_1_7) (i := 80) rfl)
theorem zw505 : Cond.methodLink "DiodeLinkModel" 229 ⟨"DiodeLinkModel", "hashOf", "(I)J"⟩ ∈ lw_tbl := zin_6 _ (List.mem_of_getElem? (l := tables_1_6) (i := 147) rfl)
theorem zw506 : Cond.methodLink "DiodeLinkModel" 237 ⟨"DiodeLinkModel", "eight", "(II)J"⟩ ∈ lw_tbl := zin_6 _ (List.mem_of_getElem? (l := tables_1_6) (i := 159) rfl)
theorem zw507 : Cond.methodLink "DiodeLinkModel" 309 ⟨"DiodeLinkModel", "drops", "(I)I"⟩ ∈ lw_tbl := zin_6 _ (List.mem_of_getElem? (l := tables_1_6) (i := 183) rfl)
theorem zw508 : Cond.fieldLink "DiodeLinkModel" 312 "DiodeLinkModel" "greatest" "I" ∈ lw_tbl := zin_5 _ (List.mem_of_getElem? (l := tables_1_5) (i := 156) rfl)
theorem zw509 : Cond.methodLink "DiodeLinkModel" 244 ⟨"DiodeLinkModel", "unsize", "()V"⟩ ∈ lw_tbl := zin_6 _ (List.mem_of_getElem? (l := tables_1_6) (i := 175) rfl)
theorem zw510 : Cond.methodLink "DiodeLinkModel" 315 ⟨"DiodeLinkModel", "canBe", "(I)Z"⟩ ∈ lw_tbl := zin_6 _ (List.mem_of_getElem? (l := tables_1_6) (i := 187) rfl)
theorem zw511 : Cond.methodLink "DiodeLinkModel" 318 ⟨"DiodeLinkModel", "hears", "(II)I"⟩ ∈ lw_tbl := zin_6 _ (List.mem_of_getElem? (l := tables_1_6) (i := 191) rfl)
theorem zw512 : Cond.methodLink "DiodeLinkModel" 321 ⟨"DiodeLinkModel", "takes", "(IIII)I"⟩ ∈ lw_tbl := zin_6 _ (List.mem_of_getElem? (l := tables_1_6) (i := 219) rfl)
theorem zw513 : Cond.methodLink "DiodeLinkModel" 260 ⟨"DiodeLinkModel", "empty", "(I)V"⟩ ∈ lw_tbl := zin_6 _ (List.mem_of_getElem? (l := tables_1_6) (i := 199) rfl)
theorem zw514 : Cond.methodLink "DiodeLinkModel" 263 ⟨"DiodeLinkModel", "shift", "(I)V"⟩ ∈ lw_tbl := zin_6 _ (List.mem_of_getElem? (l := tables_1_6) (i := 211) rfl)
theorem zw515 : Cond.fieldLink "DiodeLinkModel" 356 "DiodeLinkModel" "entries" "I" ∈ lw_tbl := zin_5 _ (List.mem_of_getElem? (l := tables_1_5) (i := 182) rfl)
theorem zw516 : Cond.methodLink "DiodeLinkModel" 272 ⟨"DiodeLinkModel", "isBelow", "(III)Z"⟩ ∈ lw_tbl := zin_7 _ (List.mem_of_getElem? (l := tables_1_7) (i := 39) rfl)
theorem zw517 : Cond.fieldLink "DiodeLinkModel" 359 "DiodeLinkModel" "before" "J" ∈ lw_tbl := zin_5 _ (List.mem_of_getElem? (l := tables_1_5) (i := 183) rfl)
theorem zw518 : Cond.methodLink "DiodeLinkModel" 363 ⟨"DiodeLinkModel", "linked", "(JI)J"⟩ ∈ lw_tbl := zin_7 _ (List.mem_of_getElem? (l := tables_1_7) (i := 63) rfl)
theorem zw519 : Cond.methodLink "DiodeLinkModel" 159 ⟨"DiodeLinkModel", "order", "(I)I"⟩ ∈ lw_tbl := zin_6 _ (List.mem_of_getElem? (l := tables_1_6) (i := 77) rfl)
theorem zw520 : Cond.methodLink "DiodeLinkModel" 366 ⟨"DiodeLinkModel", "isKept", "(I)Z"⟩ ∈ lw_tbl := zin_7 _ (List.mem_of_getElem? (l := tables_1_7) (i := 108) rfl)
theorem zw521 : Cond.methodLink "DiodeLinkModel" 296 ⟨"DiodeLinkModel", "reject", "(III)V"⟩ ∈ lw_tbl := zin_7 _ (List.mem_of_getElem? (l := tables_1_7) (i := 55) rfl)
theorem zw522 : Cond.methodLink "DiodeLinkModel" 299 ⟨"DiodeLinkModel", "breaks", "(III)Z"⟩ ∈ lw_tbl := zin_7 _ (List.mem_of_getElem? (l := tables_1_7) (i := 67) rfl)
theorem zw523 : Cond.methodLink "DiodeLinkModel" 208 ⟨"DiodeLinkModel", "within", "(III)I"⟩ ∈ lw_tbl := zin_6 _ (List.mem_of_getElem? (l := tables_1_6) (i := 125) rfl)
theorem zw524 : Cond.methodLink "DiodeLinkModel" 178 ⟨"DiodeLinkModel", "told", "(III)I"⟩ ∈ lw_tbl := zin_6 _ (List.mem_of_getElem? (l := tables_1_6) (i := 101) rfl)
theorem zw525 : Cond.constant "DiodeLinkModel" 200 (Int32.ofInt (40503)) ∈ lw_tbl := zin_6 _ (List.mem_of_getElem? (l := tables_1_6) (i := 138) rfl)
theorem zw526 : Cond.constantLong "DiodeLinkModel" 139 (Int64.ofInt (1099511628211)) ∈ lw_tbl := zin_6 _ (List.mem_of_getElem? (l := tables_1_6) (i := 112) rfl)
theorem zw527 : Cond.methodLink "DiodeLinkModel" 331 ⟨"DiodeLinkModel", "rowsOf", "(II)I"⟩ ∈ lw_tbl := zin_6 _ (List.mem_of_getElem? (l := tables_1_6) (i := 235) rfl)
theorem zw528 : Cond.methodLink "DiodeLinkModel" 302 ⟨"DiodeLinkModel", "note", "(IIII)V"⟩ ∈ lw_tbl := zin_7 _ (List.mem_of_getElem? (l := tables_1_7) (i := 59) rfl)
theorem zw529 : Cond.methodLink "DiodeLinkModel" 353 ⟨"DiodeLinkModel", "keep", "(II)V"⟩ ∈ lw_tbl := zin_7 _ (List.mem_of_getElem? (l := tables_1_7) (i := 92) rfl)
theorem zw530 : Cond.methodLink "DiodeLinkModel" 167 ⟨"DiodeLinkModel", "place", "(I)I"⟩ ∈ lw_tbl := zin_6 _ (List.mem_of_getElem? (l := tables_1_6) (i := 73) rfl)
theorem zw531 : Cond.methodLink "DiodeLinkModel" 170 ⟨"DiodeLinkModel", "isThere", "(II)Z"⟩ ∈ lw_tbl := zin_6 _ (List.mem_of_getElem? (l := tables_1_6) (i := 81) rfl)
theorem zw532 : Cond.methodLink "DiodeLinkModel" 174 ⟨"DiodeLinkModel", "move", "(II)V"⟩ ∈ lw_tbl := zin_6 _ (List.mem_of_getElem? (l := tables_1_6) (i := 85) rfl)
theorem zw533 : Cond.methodLink "DiodeLinkModel" 266 ⟨"DiodeLinkModel", "hasRows", "(I)Z"⟩ ∈ lw_tbl := zin_6 _ (List.mem_of_getElem? (l := tables_1_6) (i := 231) rfl)
theorem zw534 : Cond.methodLink "DiodeLinkModel" 211 ⟨"DiodeLinkModel", "look", "(II)I"⟩ ∈ lw_tbl := zin_6 _ (List.mem_of_getElem? (l := tables_1_6) (i := 121) rfl)
theorem zw535 : Cond.methodLink "DiodeLinkModel" 217 ⟨"DiodeLinkModel", "mask", "(IIIII)I"⟩ ∈ lw_tbl := zin_6 _ (List.mem_of_getElem? (l := tables_1_6) (i := 135) rfl)
theorem zw536 : Cond.methodLink "DiodeLinkModel" 221 ⟨"DiodeLinkModel", "piece", "(III)J"⟩ ∈ lw_tbl := zin_6 _ (List.mem_of_getElem? (l := tables_1_6) (i := 139) rfl)
theorem zw537 : Cond.methodLink "DiodeLinkModel" 225 ⟨"DiodeLinkModel", "lay", "(IIJI)V"⟩ ∈ lw_tbl := zin_6 _ (List.mem_of_getElem? (l := tables_1_6) (i := 143) rfl)
theorem zw538 : Cond.methodLink "DiodeLinkModel" 293 ⟨"DiodeLinkModel", "borrows", "(II)Z"⟩ ∈ lw_tbl := zin_7 _ (List.mem_of_getElem? (l := tables_1_7) (i := 47) rfl)
theorem zw539 : Cond.methodLink "DiodeLinkModel" 254 ⟨"DiodeLinkModel", "clear", "(I)V"⟩ ∈ lw_tbl := zin_6 _ (List.mem_of_getElem? (l := tables_1_6) (i := 215) rfl)
theorem zw540 : Cond.methodLink "DiodeLinkModel" 325 ⟨"DiodeLinkModel", "sum", "(III)I"⟩ ∈ lw_tbl := zin_6 _ (List.mem_of_getElem? (l := tables_1_6) (i := 223) rfl)
theorem zw541 : Cond.methodLink "DiodeLinkModel" 346 ⟨"DiodeLinkModel", "together", "(III)J"⟩ ∈ lw_tbl := zin_7 _ (List.mem_of_getElem? (l := tables_1_7) (i := 3) rfl)
theorem zw542 : Cond.methodLink "DiodeLinkModel" 328 ⟨"DiodeLinkModel", "room", "()Z"⟩ ∈ lw_tbl := zin_6 _ (List.mem_of_getElem? (l := tables_1_6) (i := 227) rfl)
theorem zw543 : Cond.methodLink "DiodeLinkModel" 334 ⟨"DiodeLinkModel", "solve", "(III)V"⟩ ∈ lw_tbl := zin_6 _ (List.mem_of_getElem? (l := tables_1_6) (i := 239) rfl)
theorem zw544 : Cond.methodLink "DiodeLinkModel" 337 ⟨"DiodeLinkModel", "completes", "(II)V"⟩ ∈ lw_tbl := zin_7 _ (List.mem_of_getElem? (l := tables_1_7) (i := 11) rfl)
theorem zw545 : Cond.methodLink "DiodeLinkModel" 340 ⟨"DiodeLinkModel", "share", "(I)V"⟩ ∈ lw_tbl := zin_7 _ (List.mem_of_getElem? (l := tables_1_7) (i := 43) rfl)
theorem zw546 : Cond.methodLink "DiodeLinkModel" 343 ⟨"DiodeLinkModel", "judge", "(I)V"⟩ ∈ lw_tbl := zin_7 _ (List.mem_of_getElem? (l := tables_1_7) (i := 51) rfl)
theorem zw547 : Cond.methodLink "DiodeLinkModel" 163 ⟨"DiodeLinkModel", "isName", "()Z"⟩ ∈ lw_tbl := zin_6 _ (List.mem_of_getElem? (l := tables_1_6) (i := 69) rfl)
theorem zw548 : Cond.classLink "DiodeLinkLaw" 8 "DiodeLink" ∈ lw_tbl := zin_1 _ (List.mem_of_getElem? (l := tables_1_1) (i := 21) rfl)
theorem zw549 : Cond.instantiable "DiodeLink" 8 ∈ lw_tbl := zin_1 _ (List.mem_of_getElem? (l := tables_1_1) (i := 22) rfl)
theorem zw550 : Cond.initialized "DiodeLink" ∈ lw_tbl := zin_1 _ (List.mem_of_getElem? (l := tables_1_1) (i := 1) rfl)
theorem zw551 : Cond.methodLink "DiodeLinkLaw" 79 ⟨"DiodeLink", "<init>", "()V"⟩ ∈ lw_tbl := zin_1 _ (List.mem_of_getElem? (l := tables_1_1) (i := 23) rfl)
theorem zw552 : Cond.classLink "DiodeLinkLaw" 80 "DiodeLinkModel" ∈ lw_tbl := zin_5 _ (List.mem_of_getElem? (l := tables_1_5) (i := 129) rfl)
theorem zw553 : Cond.instantiable "DiodeLinkModel" 51 ∈ lw_tbl := zin_5 _ (List.mem_of_getElem? (l := tables_1_5) (i := 130) rfl)
theorem zw554 : Cond.initialized "DiodeLinkModel" ∈ lw_tbl := zin_1 _ (List.mem_of_getElem? (l := tables_1_1) (i := 11) rfl)
theorem zw555 : Cond.methodLink "DiodeLinkLaw" 82 ⟨"DiodeLinkModel", "<init>", "()V"⟩ ∈ lw_tbl := zin_5 _ (List.mem_of_getElem? (l := tables_1_5) (i := 131) rfl)
theorem zw556 : Cond.constantLong "DiodeLinkLaw" 83 (Int64.ofInt (4294967295)) ∈ lw_tbl := zin_7 _ (List.mem_of_getElem? (l := tables_1_7) (i := 124) rfl)
theorem zw557 : Cond.methodLink "DiodeLinkLaw" 85 ⟨"DiodeLinkLaw", "feed", "(LDiodeLink;ZJI[J)I"⟩ ∈ lw_tbl := zin_2 _ (List.mem_of_getElem? (l := tables_1_2) (i := 90) rfl)
theorem zw558 : Cond.methodLink "DiodeLinkLaw" 90 ⟨"DiodeLinkModel", "feed", "(ZJI)I"⟩ ∈ lw_tbl := zin_6 _ (List.mem_of_getElem? (l := tables_1_6) (i := 53) rfl)
theorem zw559 : Cond.methodLink "DiodeLinkLaw" 91 ⟨"DiodeLinkLaw", "write", "(LDiodeLink;I[J)I"⟩ ∈ lw_tbl := zin_2 _ (List.mem_of_getElem? (l := tables_1_2) (i := 192) rfl)
theorem zw560 : Cond.methodLink "DiodeLinkLaw" 94 ⟨"DiodeLinkModel", "write", "(I)I"⟩ ∈ lw_tbl := zin_6 _ (List.mem_of_getElem? (l := tables_1_6) (i := 65) rfl)
theorem zw561 : Cond.methodLink "DiodeLinkLaw" 95 ⟨"DiodeLinkLaw", "remove", "(LDiodeLink;I[J)I"⟩ ∈ lw_tbl := zin_3 _ (List.mem_of_getElem? (l := tables_1_3) (i := 12) rfl)
theorem zw562 : Cond.methodLink "DiodeLinkLaw" 97 ⟨"DiodeLinkModel", "remove", "(I)Z"⟩ ∈ lw_tbl := zin_6 _ (List.mem_of_getElem? (l := tables_1_6) (i := 89) rfl)
theorem zw563 : Cond.methodLink "DiodeLinkLaw" 98 ⟨"DiodeLinkLaw", "commit", "(LDiodeLink;I[J)I"⟩ ∈ lw_tbl := zin_3 _ (List.mem_of_getElem? (l := tables_1_3) (i := 24) rfl)
theorem zw564 : Cond.methodLink "DiodeLinkLaw" 100 ⟨"DiodeLinkModel", "commit", "(I)I"⟩ ∈ lw_tbl := zin_6 _ (List.mem_of_getElem? (l := tables_1_6) (i := 93) rfl)
theorem zw565 : Cond.methodLink "DiodeLinkLaw" 101 ⟨"DiodeLinkLaw", "send", "(LDiodeLink;[J)I"⟩ ∈ lw_tbl := zin_3 _ (List.mem_of_getElem? (l := tables_1_3) (i := 73) rfl)
theorem zw566 : Cond.methodLink "DiodeLinkLaw" 104 ⟨"DiodeLinkModel", "send", "()I"⟩ ∈ lw_tbl := zin_6 _ (List.mem_of_getElem? (l := tables_1_6) (i := 117) rfl)
theorem zw567 : Cond.methodLink "DiodeLinkLaw" 105 ⟨"DiodeLinkLaw", "packet", "(LDiodeLink;II[J)I"⟩ ∈ lw_tbl := zin_3 _ (List.mem_of_getElem? (l := tables_1_3) (i := 142) rfl)
theorem zw568 : Cond.methodLink "DiodeLinkLaw" 108 ⟨"DiodeLinkModel", "packet", "(II)J"⟩ ∈ lw_tbl := zin_6 _ (List.mem_of_getElem? (l := tables_1_6) (i := 151) rfl)
theorem zw569 : Cond.methodLink "DiodeLinkLaw" 109 ⟨"DiodeLinkLaw", "alter", "(LDiodeLink;III)I"⟩ ∈ lw_tbl := zin_3 _ (List.mem_of_getElem? (l := tables_1_3) (i := 156) rfl)
theorem zw570 : Cond.methodLink "DiodeLinkLaw" 112 ⟨"DiodeLinkModel", "alter", "(III)V"⟩ ∈ lw_tbl := zin_6 _ (List.mem_of_getElem? (l := tables_1_6) (i := 163) rfl)
theorem zw571 : Cond.methodLink "DiodeLinkLaw" 113 ⟨"DiodeLinkLaw", "hear", "(LDiodeLink;I[J)I"⟩ ∈ lw_tbl := zin_3 _ (List.mem_of_getElem? (l := tables_1_3) (i := 172) rfl)
theorem zw572 : Cond.methodLink "DiodeLinkLaw" 115 ⟨"DiodeLinkModel", "hear", "(I)I"⟩ ∈ lw_tbl := zin_6 _ (List.mem_of_getElem? (l := tables_1_6) (i := 179) rfl)
theorem zw573 : Cond.methodLink "DiodeLinkLaw" 116 ⟨"DiodeLinkModel", "thrown", "()I"⟩ ∈ lw_tbl := zin_6 _ (List.mem_of_getElem? (l := tables_1_6) (i := 49) rfl)
theorem zw574 : Cond.methodLink "DiodeLinkLaw" 119 ⟨"DiodeLinkLaw", "restartSender", "(LDiodeLink;[J)I"⟩ ∈ lw_tbl := zin_4 _ (List.mem_of_getElem? (l := tables_1_4) (i := 206) rfl)
theorem zw575 : Cond.methodLink "DiodeLinkLaw" 121 ⟨"DiodeLinkModel", "restartSender", "()I"⟩ ∈ lw_tbl := zin_6 _ (List.mem_of_getElem? (l := tables_1_6) (i := 167) rfl)
theorem zw576 : Cond.methodLink "DiodeLinkLaw" 122 ⟨"DiodeLink", "restartReceiver", "()V"⟩ ∈ lw_tbl := zin_2 _ (List.mem_of_getElem? (l := tables_1_2) (i := 30) rfl)
theorem zw577 : Cond.methodLink "DiodeLinkLaw" 125 ⟨"DiodeLinkModel", "restartReceiver", "()V"⟩ ∈ lw_tbl := zin_6 _ (List.mem_of_getElem? (l := tables_1_6) (i := 171) rfl)
theorem zw578 : Cond.methodLink "DiodeLinkLaw" 126 ⟨"DiodeLinkLaw", "rule", "(LDiodeLink;IIZ)I"⟩ ∈ lw_tbl := zin_4 _ (List.mem_of_getElem? (l := tables_1_4) (i := 222) rfl)
theorem zw579 : Cond.methodLink "DiodeLinkLaw" 129 ⟨"DiodeLinkModel", "rule", "(IIZ)V"⟩ ∈ lw_tbl := zin_7 _ (List.mem_of_getElem? (l := tables_1_7) (i := 71) rfl)
theorem zw580 : Cond.methodLink "DiodeLinkLaw" 130 ⟨"DiodeLinkLaw", "have", "(LDiodeLink;II[J)I"⟩ ∈ lw_tbl := zin_4 _ (List.mem_of_getElem? (l := tables_1_4) (i := 237) rfl)
theorem zw581 : Cond.methodLink "DiodeLinkLaw" 132 ⟨"DiodeLinkModel", "have", "(II)I"⟩ ∈ lw_tbl := zin_7 _ (List.mem_of_getElem? (l := tables_1_7) (i := 75) rfl)
theorem zw582 : Cond.methodLink "DiodeLinkLaw" 133 ⟨"DiodeLinkLaw", "rank", "(LDiodeLink;IIII[J)I"⟩ ∈ lw_tbl := zin_5 _ (List.mem_of_getElem? (l := tables_1_5) (i := 13) rfl)
theorem zw583 : Cond.methodLink "DiodeLinkLaw" 136 ⟨"DiodeLinkModel", "rank", "(IIII)I"⟩ ∈ lw_tbl := zin_7 _ (List.mem_of_getElem? (l := tables_1_7) (i := 84) rfl)
theorem zw584 : Cond.methodLink "DiodeLinkLaw" 137 ⟨"DiodeLinkLaw", "release", "(LDiodeLink;I[J)I"⟩ ∈ lw_tbl := zin_5 _ (List.mem_of_getElem? (l := tables_1_5) (i := 25) rfl)
theorem zw585 : Cond.methodLink "DiodeLinkLaw" 139 ⟨"DiodeLinkModel", "release", "(I)I"⟩ ∈ lw_tbl := zin_7 _ (List.mem_of_getElem? (l := tables_1_7) (i := 88) rfl)
theorem zw586 : Cond.methodLink "DiodeLinkLaw" 140 ⟨"DiodeLinkLaw", "released", "(LDiodeLink;I[J)I"⟩ ∈ lw_tbl := zin_5 _ (List.mem_of_getElem? (l := tables_1_5) (i := 41) rfl)
theorem zw587 : Cond.methodLink "DiodeLinkLaw" 142 ⟨"DiodeLinkModel", "released", "(I)I"⟩ ∈ lw_tbl := zin_7 _ (List.mem_of_getElem? (l := tables_1_7) (i := 96) rfl)
theorem zw588 : Cond.methodLink "DiodeLinkLaw" 143 ⟨"DiodeLinkLaw", "file", "(LDiodeLink;IIIZ[J)I"⟩ ∈ lw_tbl := zin_5 _ (List.mem_of_getElem? (l := tables_1_5) (i := 53) rfl)
theorem zw589 : Cond.methodLink "DiodeLinkLaw" 146 ⟨"DiodeLinkModel", "file", "(IIIZ)I"⟩ ∈ lw_tbl := zin_7 _ (List.mem_of_getElem? (l := tables_1_7) (i := 100) rfl)
theorem zw590 : Cond.methodLink "DiodeLinkLaw" 147 ⟨"DiodeLinkLaw", "journal", "(LDiodeLink;II[J)I"⟩ ∈ lw_tbl := zin_5 _ (List.mem_of_getElem? (l := tables_1_5) (i := 83) rfl)
theorem zw591 : Cond.methodLink "DiodeLinkLaw" 149 ⟨"DiodeLinkModel", "journal", "(II)J"⟩ ∈ lw_tbl := zin_7 _ (List.mem_of_getElem? (l := tables_1_7) (i := 104) rfl)
theorem zw592 : Cond.methodLink "DiodeLinkLaw" 150 ⟨"DiodeLinkLaw", "touch", "(LDiodeLink;III)I"⟩ ∈ lw_tbl := zin_5 _ (List.mem_of_getElem? (l := tables_1_5) (i := 102) rfl)
theorem zw593 : Cond.methodLink "DiodeLinkLaw" 152 ⟨"DiodeLinkModel", "touch", "(III)V"⟩ ∈ lw_tbl := zin_7 _ (List.mem_of_getElem? (l := tables_1_7) (i := 112) rfl)
theorem zw594 : Cond.methodLink "DiodeLinkLaw" 153 ⟨"DiodeLink", "isSound", "()Z"⟩ ∈ lw_tbl := zin_2 _ (List.mem_of_getElem? (l := tables_1_2) (i := 42) rfl)
theorem zw595 : Cond.methodLink "DiodeLinkLaw" 157 ⟨"DiodeLinkModel", "isSound", "()Z"⟩ ∈ lw_tbl := zin_7 _ (List.mem_of_getElem? (l := tables_1_7) (i := 116) rfl)
theorem zw596 : Cond.methodLink "DiodeLinkLaw" 158 ⟨"DiodeLinkLaw", "count", "(LDiodeLink;I[J)I"⟩ ∈ lw_tbl := zin_5 _ (List.mem_of_getElem? (l := tables_1_5) (i := 113) rfl)
theorem zw597 : Cond.methodLink "DiodeLinkLaw" 160 ⟨"DiodeLinkModel", "count", "(I)I"⟩ ∈ lw_tbl := zin_7 _ (List.mem_of_getElem? (l := tables_1_7) (i := 120) rfl)
theorem zw598 : Cond.classLink "DiodeLinkLaw" 13 "java/lang/IllegalArgumentException" ∈ lw_tbl := zin_2 _ (List.mem_of_getElem? (l := tables_1_2) (i := 93) rfl)
theorem zw599 : Cond.classLink "DiodeLinkLaw" 15 "java/lang/IllegalStateException" ∈ lw_tbl := zin_2 _ (List.mem_of_getElem? (l := tables_1_2) (i := 94) rfl)
theorem zw600 : Cond.classLink "DiodeLinkLaw" 68 "java/lang/IndexOutOfBoundsException" ∈ lw_tbl := zin_5 _ (List.mem_of_getElem? (l := tables_1_5) (i := 56) rfl)
theorem zw601 : Cond.instanceMethod ⟨"DiodeLink", "<init>", "()V"⟩ ∈ lw_tbl := zin_1 _ (List.mem_of_getElem? (l := tables_1_1) (i := 24) rfl)
theorem zw602 : Cond.instanceMethod ⟨"DiodeLink", "alter", "(III)V"⟩ ∈ lw_tbl := zin_3 _ (List.mem_of_getElem? (l := tables_1_3) (i := 160) rfl)
theorem zw603 : Cond.selects "DiodeLink" ⟨"DiodeLink", "alter", "(III)V"⟩ ⟨"DiodeLink", "alter", "(III)V"⟩ ∈ lw_tbl := zin_3 _ (List.mem_of_getElem? (l := tables_1_3) (i := 161) rfl)
theorem zw604 : Cond.static ⟨"DiodeLink", "checkFolder", "(I)V"⟩ ∈ lw_tbl := zin_3 _ (List.mem_of_getElem? (l := tables_1_3) (i := 32) rfl)
theorem zw605 : Cond.instanceMethod ⟨"DiodeLink", "checkSlot", "(I)V"⟩ ∈ lw_tbl := zin_3 _ (List.mem_of_getElem? (l := tables_1_3) (i := 151) rfl)
theorem zw606 : Cond.selects "DiodeLink" ⟨"DiodeLink", "checkSlot", "(I)V"⟩ ⟨"DiodeLink", "checkSlot", "(I)V"⟩ ∈ lw_tbl := zin_s _ (List.mem_of_getElem? (l := k2_sels lw_privs) (i := 11) rfl)
theorem zw607 : Cond.static ⟨"DiodeLink", "checkVersion", "(II)V"⟩ ∈ lw_tbl := zin_5 _ (List.mem_of_getElem? (l := tables_1_5) (i := 5) rfl)
theorem zw608 : Cond.instanceMethod ⟨"DiodeLink", "commit", "(I)I"⟩ ∈ lw_tbl := zin_3 _ (List.mem_of_getElem? (l := tables_1_3) (i := 28) rfl)
theorem zw609 : Cond.selects "DiodeLink" ⟨"DiodeLink", "commit", "(I)I"⟩ ⟨"DiodeLink", "commit", "(I)I"⟩ ∈ lw_tbl := zin_3 _ (List.mem_of_getElem? (l := tables_1_3) (i := 29) rfl)
theorem zw610 : Cond.instanceMethod ⟨"DiodeLink", "count", "(I)I"⟩ ∈ lw_tbl := zin_5 _ (List.mem_of_getElem? (l := tables_1_5) (i := 117) rfl)
theorem zw611 : Cond.selects "DiodeLink" ⟨"DiodeLink", "count", "(I)I"⟩ ⟨"DiodeLink", "count", "(I)I"⟩ ∈ lw_tbl := zin_5 _ (List.mem_of_getElem? (l := tables_1_5) (i := 118) rfl)
theorem zw612 : Cond.instanceMethod ⟨"DiodeLink", "feed", "(ZJI)I"⟩ ∈ lw_tbl := zin_2 _ (List.mem_of_getElem? (l := tables_1_2) (i := 96) rfl)
theorem zw613 : Cond.selects "DiodeLink" ⟨"DiodeLink", "feed", "(ZJI)I"⟩ ⟨"DiodeLink", "feed", "(ZJI)I"⟩ ∈ lw_tbl := zin_2 _ (List.mem_of_getElem? (l := tables_1_2) (i := 97) rfl)
theorem zw614 : Cond.instanceMethod ⟨"DiodeLink", "file", "(IIIZ)I"⟩ ∈ lw_tbl := zin_5 _ (List.mem_of_getElem? (l := tables_1_5) (i := 58) rfl)
theorem zw615 : Cond.selects "DiodeLink" ⟨"DiodeLink", "file", "(IIIZ)I"⟩ ⟨"DiodeLink", "file", "(IIIZ)I"⟩ ∈ lw_tbl := zin_5 _ (List.mem_of_getElem? (l := tables_1_5) (i := 59) rfl)
theorem zw616 : Cond.instanceMethod ⟨"DiodeLink", "have", "(II)I"⟩ ∈ lw_tbl := zin_5 _ (List.mem_of_getElem? (l := tables_1_5) (i := 1) rfl)
theorem zw617 : Cond.selects "DiodeLink" ⟨"DiodeLink", "have", "(II)I"⟩ ⟨"DiodeLink", "have", "(II)I"⟩ ∈ lw_tbl := zin_5 _ (List.mem_of_getElem? (l := tables_1_5) (i := 2) rfl)
theorem zw618 : Cond.instanceMethod ⟨"DiodeLink", "hear", "(I)I"⟩ ∈ lw_tbl := zin_3 _ (List.mem_of_getElem? (l := tables_1_3) (i := 176) rfl)
theorem zw619 : Cond.selects "DiodeLink" ⟨"DiodeLink", "hear", "(I)I"⟩ ⟨"DiodeLink", "hear", "(I)I"⟩ ∈ lw_tbl := zin_3 _ (List.mem_of_getElem? (l := tables_1_3) (i := 177) rfl)
theorem zw620 : Cond.static ⟨"DiodeLink", "isFolder", "(I)Z"⟩ ∈ lw_tbl := zin_2 _ (List.mem_of_getElem? (l := tables_1_2) (i := 200) rfl)
theorem zw621 : Cond.instanceMethod ⟨"DiodeLink", "isSound", "()Z"⟩ ∈ lw_tbl := zin_2 _ (List.mem_of_getElem? (l := tables_1_2) (i := 43) rfl)
theorem zw622 : Cond.selects "DiodeLink" ⟨"DiodeLink", "isSound", "()Z"⟩ ⟨"DiodeLink", "isSound", "()Z"⟩ ∈ lw_tbl := zin_2 _ (List.mem_of_getElem? (l := tables_1_2) (i := 44) rfl)
theorem zw623 : Cond.instanceMethod ⟨"DiodeLink", "journal", "(II)J"⟩ ∈ lw_tbl := zin_5 _ (List.mem_of_getElem? (l := tables_1_5) (i := 87) rfl)
theorem zw624 : Cond.selects "DiodeLink" ⟨"DiodeLink", "journal", "(II)J"⟩ ⟨"DiodeLink", "journal", "(II)J"⟩ ∈ lw_tbl := zin_5 _ (List.mem_of_getElem? (l := tables_1_5) (i := 88) rfl)
theorem zw625 : Cond.instanceMethod ⟨"DiodeLink", "packet", "(II)J"⟩ ∈ lw_tbl := zin_3 _ (List.mem_of_getElem? (l := tables_1_3) (i := 146) rfl)
theorem zw626 : Cond.selects "DiodeLink" ⟨"DiodeLink", "packet", "(II)J"⟩ ⟨"DiodeLink", "packet", "(II)J"⟩ ∈ lw_tbl := zin_3 _ (List.mem_of_getElem? (l := tables_1_3) (i := 147) rfl)
theorem zw627 : Cond.instanceMethod ⟨"DiodeLink", "rank", "(IIII)I"⟩ ∈ lw_tbl := zin_5 _ (List.mem_of_getElem? (l := tables_1_5) (i := 17) rfl)
theorem zw628 : Cond.selects "DiodeLink" ⟨"DiodeLink", "rank", "(IIII)I"⟩ ⟨"DiodeLink", "rank", "(IIII)I"⟩ ∈ lw_tbl := zin_5 _ (List.mem_of_getElem? (l := tables_1_5) (i := 18) rfl)
theorem zw629 : Cond.instanceMethod ⟨"DiodeLink", "release", "(I)I"⟩ ∈ lw_tbl := zin_5 _ (List.mem_of_getElem? (l := tables_1_5) (i := 29) rfl)
theorem zw630 : Cond.selects "DiodeLink" ⟨"DiodeLink", "release", "(I)I"⟩ ⟨"DiodeLink", "release", "(I)I"⟩ ∈ lw_tbl := zin_5 _ (List.mem_of_getElem? (l := tables_1_5) (i := 30) rfl)
theorem zw631 : Cond.instanceMethod ⟨"DiodeLink", "released", "(I)I"⟩ ∈ lw_tbl := zin_5 _ (List.mem_of_getElem? (l := tables_1_5) (i := 45) rfl)
theorem zw632 : Cond.selects "DiodeLink" ⟨"DiodeLink", "released", "(I)I"⟩ ⟨"DiodeLink", "released", "(I)I"⟩ ∈ lw_tbl := zin_5 _ (List.mem_of_getElem? (l := tables_1_5) (i := 46) rfl)
theorem zw633 : Cond.instanceMethod ⟨"DiodeLink", "remove", "(I)Z"⟩ ∈ lw_tbl := zin_3 _ (List.mem_of_getElem? (l := tables_1_3) (i := 16) rfl)
theorem zw634 : Cond.selects "DiodeLink" ⟨"DiodeLink", "remove", "(I)Z"⟩ ⟨"DiodeLink", "remove", "(I)Z"⟩ ∈ lw_tbl := zin_3 _ (List.mem_of_getElem? (l := tables_1_3) (i := 17) rfl)
theorem zw635 : Cond.instanceMethod ⟨"DiodeLink", "restartReceiver", "()V"⟩ ∈ lw_tbl := zin_2 _ (List.mem_of_getElem? (l := tables_1_2) (i := 31) rfl)
theorem zw636 : Cond.selects "DiodeLink" ⟨"DiodeLink", "restartReceiver", "()V"⟩ ⟨"DiodeLink", "restartReceiver", "()V"⟩ ∈ lw_tbl := zin_2 _ (List.mem_of_getElem? (l := tables_1_2) (i := 32) rfl)
theorem zw637 : Cond.instanceMethod ⟨"DiodeLink", "restartSender", "()I"⟩ ∈ lw_tbl := zin_4 _ (List.mem_of_getElem? (l := tables_1_4) (i := 210) rfl)
theorem zw638 : Cond.selects "DiodeLink" ⟨"DiodeLink", "restartSender", "()I"⟩ ⟨"DiodeLink", "restartSender", "()I"⟩ ∈ lw_tbl := zin_4 _ (List.mem_of_getElem? (l := tables_1_4) (i := 211) rfl)
theorem zw639 : Cond.instanceMethod ⟨"DiodeLink", "rule", "(IIZ)V"⟩ ∈ lw_tbl := zin_4 _ (List.mem_of_getElem? (l := tables_1_4) (i := 226) rfl)
theorem zw640 : Cond.selects "DiodeLink" ⟨"DiodeLink", "rule", "(IIZ)V"⟩ ⟨"DiodeLink", "rule", "(IIZ)V"⟩ ∈ lw_tbl := zin_4 _ (List.mem_of_getElem? (l := tables_1_4) (i := 227) rfl)
theorem zw641 : Cond.instanceMethod ⟨"DiodeLink", "send", "()I"⟩ ∈ lw_tbl := zin_3 _ (List.mem_of_getElem? (l := tables_1_3) (i := 77) rfl)
theorem zw642 : Cond.selects "DiodeLink" ⟨"DiodeLink", "send", "()I"⟩ ⟨"DiodeLink", "send", "()I"⟩ ∈ lw_tbl := zin_3 _ (List.mem_of_getElem? (l := tables_1_3) (i := 78) rfl)
theorem zw643 : Cond.instanceMethod ⟨"DiodeLink", "touch", "(III)V"⟩ ∈ lw_tbl := zin_5 _ (List.mem_of_getElem? (l := tables_1_5) (i := 106) rfl)
theorem zw644 : Cond.selects "DiodeLink" ⟨"DiodeLink", "touch", "(III)V"⟩ ⟨"DiodeLink", "touch", "(III)V"⟩ ∈ lw_tbl := zin_5 _ (List.mem_of_getElem? (l := tables_1_5) (i := 107) rfl)
theorem zw645 : Cond.instanceMethod ⟨"DiodeLink", "write", "(I)I"⟩ ∈ lw_tbl := zin_2 _ (List.mem_of_getElem? (l := tables_1_2) (i := 196) rfl)
theorem zw646 : Cond.selects "DiodeLink" ⟨"DiodeLink", "write", "(I)I"⟩ ⟨"DiodeLink", "write", "(I)I"⟩ ∈ lw_tbl := zin_2 _ (List.mem_of_getElem? (l := tables_1_2) (i := 197) rfl)
theorem zw647 : Cond.instanceMethod ⟨"DiodeLink$Bytes", "<init>", "(I)V"⟩ ∈ lw_tbl := zin_1 _ (List.mem_of_getElem? (l := tables_1_1) (i := 32) rfl)
theorem zw648 : Cond.instanceMethod ⟨"DiodeLink$Bytes", "append", "(JI)V"⟩ ∈ lw_tbl := zin_2 _ (List.mem_of_getElem? (l := tables_1_2) (i := 70) rfl)
theorem zw649 : Cond.selects "DiodeLink$Bytes" ⟨"DiodeLink$Bytes", "append", "(JI)V"⟩ ⟨"DiodeLink$Bytes", "append", "(JI)V"⟩ ∈ lw_tbl := zin_2 _ (List.mem_of_getElem? (l := tables_1_2) (i := 71) rfl)
theorem zw650 : Cond.instanceMethod ⟨"DiodeLink$Bytes", "appendAll", "(LDiodeLink$Bytes;)V"⟩ ∈ lw_tbl := zin_3 _ (List.mem_of_getElem? (l := tables_1_3) (i := 63) rfl)
theorem zw651 : Cond.selects "DiodeLink$Bytes" ⟨"DiodeLink$Bytes", "appendAll", "(LDiodeLink$Bytes;)V"⟩ ⟨"DiodeLink$Bytes", "appendAll", "(LDiodeLink$Bytes;)V"⟩ ∈ lw_tbl := zin_3 _ (List.mem_of_getElem? (l := tables_1_3) (i := 64) rfl)
theorem zw652 : Cond.instanceMethod ⟨"DiodeLink$Bytes", "at", "(I)I"⟩ ∈ lw_tbl := zin_2 _ (List.mem_of_getElem? (l := tables_1_2) (i := 86) rfl)
theorem zw653 : Cond.selects "DiodeLink$Bytes" ⟨"DiodeLink$Bytes", "at", "(I)I"⟩ ⟨"DiodeLink$Bytes", "at", "(I)I"⟩ ∈ lw_tbl := zin_2 _ (List.mem_of_getElem? (l := tables_1_2) (i := 87) rfl)
theorem zw654 : Cond.instanceMethod ⟨"DiodeLink$Bytes", "clear", "()V"⟩ ∈ lw_tbl := zin_2 _ (List.mem_of_getElem? (l := tables_1_2) (i := 66) rfl)
theorem zw655 : Cond.selects "DiodeLink$Bytes" ⟨"DiodeLink$Bytes", "clear", "()V"⟩ ⟨"DiodeLink$Bytes", "clear", "()V"⟩ ∈ lw_tbl := zin_2 _ (List.mem_of_getElem? (l := tables_1_2) (i := 67) rfl)
theorem zw656 : Cond.instanceMethod ⟨"DiodeLink$Bytes", "compareAll", "(LDiodeLink$Bytes;)I"⟩ ∈ lw_tbl := zin_2 _ (List.mem_of_getElem? (l := tables_1_2) (i := 219) rfl)
theorem zw657 : Cond.selects "DiodeLink$Bytes" ⟨"DiodeLink$Bytes", "compareAll", "(LDiodeLink$Bytes;)I"⟩ ⟨"DiodeLink$Bytes", "compareAll", "(LDiodeLink$Bytes;)I"⟩ ∈ lw_tbl := zin_2 _ (List.mem_of_getElem? (l := tables_1_2) (i := 220) rfl)
theorem zw658 : Cond.instanceMethod ⟨"DiodeLink$Bytes", "compareParts", "(IILDiodeLink$Bytes;II)I"⟩ ∈ lw_tbl := zin_2 _ (List.mem_of_getElem? (l := tables_1_2) (i := 223) rfl)
theorem zw659 : Cond.selects "DiodeLink$Bytes" ⟨"DiodeLink$Bytes", "compareParts", "(IILDiodeLink$Bytes;II)I"⟩ ⟨"DiodeLink$Bytes", "compareParts", "(IILDiodeLink$Bytes;II)I"⟩ ∈ lw_tbl := zin_2 _ (List.mem_of_getElem? (l := tables_1_2) (i := 224) rfl)
theorem zw660 : Cond.instanceMethod ⟨"DiodeLink$Bytes", "copyFrom", "(LDiodeLink$Bytes;)V"⟩ ∈ lw_tbl := zin_2 _ (List.mem_of_getElem? (l := tables_1_2) (i := 238) rfl)
theorem zw661 : Cond.selects "DiodeLink$Bytes" ⟨"DiodeLink$Bytes", "copyFrom", "(LDiodeLink$Bytes;)V"⟩ ⟨"DiodeLink$Bytes", "copyFrom", "(LDiodeLink$Bytes;)V"⟩ ∈ lw_tbl := zin_2 _ (List.mem_of_getElem? (l := tables_1_2) (i := 239) rfl)
theorem zw662 : Cond.instanceMethod ⟨"DiodeLink$Bytes", "hash", "(I)J"⟩ ∈ lw_tbl := zin_2 _ (List.mem_of_getElem? (l := tables_1_2) (i := 81) rfl)
theorem zw663 : Cond.selects "DiodeLink$Bytes" ⟨"DiodeLink$Bytes", "hash", "(I)J"⟩ ⟨"DiodeLink$Bytes", "hash", "(I)J"⟩ ∈ lw_tbl := zin_2 _ (List.mem_of_getElem? (l := tables_1_2) (i := 82) rfl)
theorem zw664 : Cond.instanceMethod ⟨"DiodeLink$Bytes", "isName", "(II)Z"⟩ ∈ lw_tbl := zin_2 _ (List.mem_of_getElem? (l := tables_1_2) (i := 203) rfl)
theorem zw665 : Cond.selects "DiodeLink$Bytes" ⟨"DiodeLink$Bytes", "isName", "(II)Z"⟩ ⟨"DiodeLink$Bytes", "isName", "(II)Z"⟩ ∈ lw_tbl := zin_2 _ (List.mem_of_getElem? (l := tables_1_2) (i := 204) rfl)
theorem zw666 : Cond.instanceMethod ⟨"DiodeLink$Bytes", "limit", "()I"⟩ ∈ lw_tbl := zin_2 _ (List.mem_of_getElem? (l := tables_1_2) (i := 172) rfl)
theorem zw667 : Cond.selects "DiodeLink$Bytes" ⟨"DiodeLink$Bytes", "limit", "()I"⟩ ⟨"DiodeLink$Bytes", "limit", "()I"⟩ ∈ lw_tbl := zin_2 _ (List.mem_of_getElem? (l := tables_1_2) (i := 173) rfl)
theorem zw668 : Cond.instanceMethod ⟨"DiodeLink$Bytes", "number", "(II)J"⟩ ∈ lw_tbl := zin_3 _ (List.mem_of_getElem? (l := tables_1_3) (i := 138) rfl)
theorem zw669 : Cond.selects "DiodeLink$Bytes" ⟨"DiodeLink$Bytes", "number", "(II)J"⟩ ⟨"DiodeLink$Bytes", "number", "(II)J"⟩ ∈ lw_tbl := zin_3 _ (List.mem_of_getElem? (l := tables_1_3) (i := 139) rfl)
theorem zw670 : Cond.instanceMethod ⟨"DiodeLink$Bytes", "put", "(II)V"⟩ ∈ lw_tbl := zin_3 _ (List.mem_of_getElem? (l := tables_1_3) (i := 169) rfl)
theorem zw671 : Cond.selects "DiodeLink$Bytes" ⟨"DiodeLink$Bytes", "put", "(II)V"⟩ ⟨"DiodeLink$Bytes", "put", "(II)V"⟩ ∈ lw_tbl := zin_3 _ (List.mem_of_getElem? (l := tables_1_3) (i := 170) rfl)
theorem zw672 : Cond.instanceMethod ⟨"DiodeLink$Bytes", "putNumber", "(IJI)V"⟩ ∈ lw_tbl := zin_4 _ (List.mem_of_getElem? (l := tables_1_4) (i := 79) rfl)
theorem zw673 : Cond.selects "DiodeLink$Bytes" ⟨"DiodeLink$Bytes", "putNumber", "(IJI)V"⟩ ⟨"DiodeLink$Bytes", "putNumber", "(IJI)V"⟩ ∈ lw_tbl := zin_4 _ (List.mem_of_getElem? (l := tables_1_4) (i := 80) rfl)
theorem zw674 : Cond.instanceMethod ⟨"DiodeLink$Bytes", "resize", "(I)V"⟩ ∈ lw_tbl := zin_3 _ (List.mem_of_getElem? (l := tables_1_3) (i := 2) rfl)
theorem zw675 : Cond.selects "DiodeLink$Bytes" ⟨"DiodeLink$Bytes", "resize", "(I)V"⟩ ⟨"DiodeLink$Bytes", "resize", "(I)V"⟩ ∈ lw_tbl := zin_3 _ (List.mem_of_getElem? (l := tables_1_3) (i := 3) rfl)
theorem zw676 : Cond.instanceMethod ⟨"DiodeLink$Bytes", "size", "()I"⟩ ∈ lw_tbl := zin_2 _ (List.mem_of_getElem? (l := tables_1_2) (i := 168) rfl)
theorem zw677 : Cond.selects "DiodeLink$Bytes" ⟨"DiodeLink$Bytes", "size", "()I"⟩ ⟨"DiodeLink$Bytes", "size", "()I"⟩ ∈ lw_tbl := zin_2 _ (List.mem_of_getElem? (l := tables_1_2) (i := 169) rfl)
theorem zw678 : Cond.instanceMethod ⟨"DiodeLink$Bytes", "turn", "(II)V"⟩ ∈ lw_tbl := zin_3 _ (List.mem_of_getElem? (l := tables_1_3) (i := 165) rfl)
theorem zw679 : Cond.selects "DiodeLink$Bytes" ⟨"DiodeLink$Bytes", "turn", "(II)V"⟩ ⟨"DiodeLink$Bytes", "turn", "(II)V"⟩ ∈ lw_tbl := zin_3 _ (List.mem_of_getElem? (l := tables_1_3) (i := 166) rfl)
theorem zw680 : Cond.static ⟨"DiodeLink$Cut", "blocks", "(I)I"⟩ ∈ lw_tbl := zin_3 _ (List.mem_of_getElem? (l := tables_1_3) (i := 106) rfl)
theorem zw681 : Cond.initialized "DiodeLink$Cut" ∈ lw_tbl := zin_1 _ (List.mem_of_getElem? (l := tables_1_1) (i := 19) rfl)
theorem zw682 : Cond.static ⟨"DiodeLink$Cut", "mask", "(IIIII)I"⟩ ∈ lw_tbl := zin_3 _ (List.mem_of_getElem? (l := tables_1_3) (i := 134) rfl)
theorem zw683 : Cond.static ⟨"DiodeLink$Cut", "packets", "(II)I"⟩ ∈ lw_tbl := zin_3 _ (List.mem_of_getElem? (l := tables_1_3) (i := 110) rfl)
theorem zw684 : Cond.static ⟨"DiodeLink$Cut", "pieces", "(II)I"⟩ ∈ lw_tbl := zin_3 _ (List.mem_of_getElem? (l := tables_1_3) (i := 113) rfl)
theorem zw685 : Cond.instanceMethod ⟨"DiodeLink$Edition", "<init>", "()V"⟩ ∈ lw_tbl := zin_1 _ (List.mem_of_getElem? (l := tables_1_1) (i := 63) rfl)
theorem zw686 : Cond.instanceMethod ⟨"DiodeLink$Edition", "appendPlace", "(LDiodeLink$Bytes;III)V"⟩ ∈ lw_tbl := zin_3 _ (List.mem_of_getElem? (l := tables_1_3) (i := 126) rfl)
theorem zw687 : Cond.selects "DiodeLink$Edition" ⟨"DiodeLink$Edition", "appendPlace", "(LDiodeLink$Bytes;III)V"⟩ ⟨"DiodeLink$Edition", "appendPlace", "(LDiodeLink$Bytes;III)V"⟩ ∈ lw_tbl := zin_s _ (List.mem_of_getElem? (l := k2_sels lw_privs) (i := 9) rfl)
theorem zw688 : Cond.instanceMethod ⟨"DiodeLink$Edition", "fillPacket", "(LDiodeLink$Bytes;III)V"⟩ ∈ lw_tbl := zin_3 _ (List.mem_of_getElem? (l := tables_1_3) (i := 121) rfl)
theorem zw689 : Cond.selects "DiodeLink$Edition" ⟨"DiodeLink$Edition", "fillPacket", "(LDiodeLink$Bytes;III)V"⟩ ⟨"DiodeLink$Edition", "fillPacket", "(LDiodeLink$Bytes;III)V"⟩ ∈ lw_tbl := zin_3 _ (List.mem_of_getElem? (l := tables_1_3) (i := 122) rfl)
theorem zw690 : Cond.instanceMethod ⟨"DiodeLink$Edition", "packets", "()I"⟩ ∈ lw_tbl := zin_3 _ (List.mem_of_getElem? (l := tables_1_3) (i := 102) rfl)
theorem zw691 : Cond.selects "DiodeLink$Edition" ⟨"DiodeLink$Edition", "packets", "()I"⟩ ⟨"DiodeLink$Edition", "packets", "()I"⟩ ∈ lw_tbl := zin_3 _ (List.mem_of_getElem? (l := tables_1_3) (i := 103) rfl)
theorem zw692 : Cond.instanceMethod ⟨"DiodeLink$Edition", "record", "(ILDiodeLink$Folder;)V"⟩ ∈ lw_tbl := zin_3 _ (List.mem_of_getElem? (l := tables_1_3) (i := 43) rfl)
theorem zw693 : Cond.selects "DiodeLink$Edition" ⟨"DiodeLink$Edition", "record", "(ILDiodeLink$Folder;)V"⟩ ⟨"DiodeLink$Edition", "record", "(ILDiodeLink$Folder;)V"⟩ ∈ lw_tbl := zin_3 _ (List.mem_of_getElem? (l := tables_1_3) (i := 44) rfl)
theorem zw694 : Cond.instanceMethod ⟨"DiodeLink$Edition", "sum", "(III)J"⟩ ∈ lw_tbl := zin_3 _ (List.mem_of_getElem? (l := tables_1_3) (i := 130) rfl)
theorem zw695 : Cond.selects "DiodeLink$Edition" ⟨"DiodeLink$Edition", "sum", "(III)J"⟩ ⟨"DiodeLink$Edition", "sum", "(III)J"⟩ ∈ lw_tbl := zin_s _ (List.mem_of_getElem? (l := k2_sels lw_privs) (i := 10) rfl)
theorem zw696 : Cond.instanceMethod ⟨"DiodeLink$Folder", "<init>", "()V"⟩ ∈ lw_tbl := zin_1 _ (List.mem_of_getElem? (l := tables_1_1) (i := 53) rfl)
theorem zw697 : Cond.instanceMethod ⟨"DiodeLink$Folder", "content", "(I)LDiodeLink$Bytes;"⟩ ∈ lw_tbl := zin_3 _ (List.mem_of_getElem? (l := tables_1_3) (i := 53) rfl)
theorem zw698 : Cond.selects "DiodeLink$Folder" ⟨"DiodeLink$Folder", "content", "(I)LDiodeLink$Bytes;"⟩ ⟨"DiodeLink$Folder", "content", "(I)LDiodeLink$Bytes;"⟩ ∈ lw_tbl := zin_3 _ (List.mem_of_getElem? (l := tables_1_3) (i := 54) rfl)
theorem zw699 : Cond.instanceMethod ⟨"DiodeLink$Folder", "edition", "(I)LDiodeLink$Edition;"⟩ ∈ lw_tbl := zin_3 _ (List.mem_of_getElem? (l := tables_1_3) (i := 98) rfl)
theorem zw700 : Cond.selects "DiodeLink$Folder" ⟨"DiodeLink$Folder", "edition", "(I)LDiodeLink$Edition;"⟩ ⟨"DiodeLink$Folder", "edition", "(I)LDiodeLink$Edition;"⟩ ∈ lw_tbl := zin_3 _ (List.mem_of_getElem? (l := tables_1_3) (i := 99) rfl)
theorem zw701 : Cond.instanceMethod ⟨"DiodeLink$Folder", "files", "()I"⟩ ∈ lw_tbl := zin_3 _ (List.mem_of_getElem? (l := tables_1_3) (i := 47) rfl)
theorem zw702 : Cond.selects "DiodeLink$Folder" ⟨"DiodeLink$Folder", "files", "()I"⟩ ⟨"DiodeLink$Folder", "files", "()I"⟩ ∈ lw_tbl := zin_3 _ (List.mem_of_getElem? (l := tables_1_3) (i := 48) rfl)
theorem zw703 : Cond.instanceMethod ⟨"DiodeLink$Folder", "isAt", "(ILDiodeLink$Bytes;)Z"⟩ ∈ lw_tbl := zin_2 _ (List.mem_of_getElem? (l := tables_1_2) (i := 231) rfl)
theorem zw704 : Cond.selects "DiodeLink$Folder" ⟨"DiodeLink$Folder", "isAt", "(ILDiodeLink$Bytes;)Z"⟩ ⟨"DiodeLink$Folder", "isAt", "(ILDiodeLink$Bytes;)Z"⟩ ∈ lw_tbl := zin_s _ (List.mem_of_getElem? (l := k2_sels lw_privs) (i := 4) rfl)
theorem zw705 : Cond.instanceMethod ⟨"DiodeLink$Folder", "makeVersion", "()I"⟩ ∈ lw_tbl := zin_3 _ (List.mem_of_getElem? (l := tables_1_3) (i := 39) rfl)
theorem zw706 : Cond.selects "DiodeLink$Folder" ⟨"DiodeLink$Folder", "makeVersion", "()I"⟩ ⟨"DiodeLink$Folder", "makeVersion", "()I"⟩ ∈ lw_tbl := zin_3 _ (List.mem_of_getElem? (l := tables_1_3) (i := 40) rfl)
theorem zw707 : Cond.instanceMethod ⟨"DiodeLink$Folder", "moveFile", "(II)V"⟩ ∈ lw_tbl := zin_2 _ (List.mem_of_getElem? (l := tables_1_2) (i := 235) rfl)
theorem zw708 : Cond.selects "DiodeLink$Folder" ⟨"DiodeLink$Folder", "moveFile", "(II)V"⟩ ⟨"DiodeLink$Folder", "moveFile", "(II)V"⟩ ∈ lw_tbl := zin_s _ (List.mem_of_getElem? (l := k2_sels lw_privs) (i := 5) rfl)
theorem zw709 : Cond.instanceMethod ⟨"DiodeLink$Folder", "name", "(I)LDiodeLink$Bytes;"⟩ ∈ lw_tbl := zin_3 _ (List.mem_of_getElem? (l := tables_1_3) (i := 58) rfl)
theorem zw710 : Cond.selects "DiodeLink$Folder" ⟨"DiodeLink$Folder", "name", "(I)LDiodeLink$Bytes;"⟩ ⟨"DiodeLink$Folder", "name", "(I)LDiodeLink$Bytes;"⟩ ∈ lw_tbl := zin_3 _ (List.mem_of_getElem? (l := tables_1_3) (i := 59) rfl)
theorem zw711 : Cond.instanceMethod ⟨"DiodeLink$Folder", "placeOf", "(LDiodeLink$Bytes;)I"⟩ ∈ lw_tbl := zin_2 _ (List.mem_of_getElem? (l := tables_1_2) (i := 216) rfl)
theorem zw712 : Cond.selects "DiodeLink$Folder" ⟨"DiodeLink$Folder", "placeOf", "(LDiodeLink$Bytes;)I"⟩ ⟨"DiodeLink$Folder", "placeOf", "(LDiodeLink$Bytes;)I"⟩ ∈ lw_tbl := zin_s _ (List.mem_of_getElem? (l := k2_sels lw_privs) (i := 3) rfl)
theorem zw713 : Cond.instanceMethod ⟨"DiodeLink$Folder", "put", "(LDiodeLink$Bytes;LDiodeLink$Bytes;)I"⟩ ∈ lw_tbl := zin_2 _ (List.mem_of_getElem? (l := tables_1_2) (i := 211) rfl)
theorem zw714 : Cond.selects "DiodeLink$Folder" ⟨"DiodeLink$Folder", "put", "(LDiodeLink$Bytes;LDiodeLink$Bytes;)I"⟩ ⟨"DiodeLink$Folder", "put", "(LDiodeLink$Bytes;LDiodeLink$Bytes;)I"⟩ ∈ lw_tbl := zin_2 _ (List.mem_of_getElem? (l := tables_1_2) (i := 212) rfl)
theorem zw715 : Cond.instanceMethod ⟨"DiodeLink$Folder", "takeOut", "(LDiodeLink$Bytes;)Z"⟩ ∈ lw_tbl := zin_3 _ (List.mem_of_getElem? (l := tables_1_3) (i := 20) rfl)
theorem zw716 : Cond.selects "DiodeLink$Folder" ⟨"DiodeLink$Folder", "takeOut", "(LDiodeLink$Bytes;)Z"⟩ ⟨"DiodeLink$Folder", "takeOut", "(LDiodeLink$Bytes;)Z"⟩ ∈ lw_tbl := zin_3 _ (List.mem_of_getElem? (l := tables_1_3) (i := 21) rfl)
theorem zw717 : Cond.instanceMethod ⟨"DiodeLink$Journal", "<init>", "()V"⟩ ∈ lw_tbl := zin_1 _ (List.mem_of_getElem? (l := tables_1_1) (i := 130) rfl)
theorem zw718 : Cond.instanceMethod ⟨"DiodeLink$Journal", "dueLink", "(JI)J"⟩ ∈ lw_tbl := zin_2 _ (List.mem_of_getElem? (l := tables_1_2) (i := 63) rfl)
theorem zw719 : Cond.selects "DiodeLink$Journal" ⟨"DiodeLink$Journal", "dueLink", "(JI)J"⟩ ⟨"DiodeLink$Journal", "dueLink", "(JI)J"⟩ ∈ lw_tbl := zin_s _ (List.mem_of_getElem? (l := k2_sels lw_privs) (i := 1) rfl)
theorem zw720 : Cond.instanceMethod ⟨"DiodeLink$Journal", "enter", "(IIII)V"⟩ ∈ lw_tbl := zin_4 _ (List.mem_of_getElem? (l := tables_1_4) (i := 203) rfl)
theorem zw721 : Cond.selects "DiodeLink$Journal" ⟨"DiodeLink$Journal", "enter", "(IIII)V"⟩ ⟨"DiodeLink$Journal", "enter", "(IIII)V"⟩ ∈ lw_tbl := zin_4 _ (List.mem_of_getElem? (l := tables_1_4) (i := 204) rfl)
theorem zw722 : Cond.instanceMethod ⟨"DiodeLink$Journal", "entries", "()I"⟩ ∈ lw_tbl := zin_5 _ (List.mem_of_getElem? (l := tables_1_5) (i := 92) rfl)
theorem zw723 : Cond.selects "DiodeLink$Journal" ⟨"DiodeLink$Journal", "entries", "()I"⟩ ⟨"DiodeLink$Journal", "entries", "()I"⟩ ∈ lw_tbl := zin_5 _ (List.mem_of_getElem? (l := tables_1_5) (i := 93) rfl)
theorem zw724 : Cond.instanceMethod ⟨"DiodeLink$Journal", "firstKept", "()I"⟩ ∈ lw_tbl := zin_2 _ (List.mem_of_getElem? (l := tables_1_2) (i := 52) rfl)
theorem zw725 : Cond.selects "DiodeLink$Journal" ⟨"DiodeLink$Journal", "firstKept", "()I"⟩ ⟨"DiodeLink$Journal", "firstKept", "()I"⟩ ∈ lw_tbl := zin_s _ (List.mem_of_getElem? (l := k2_sels lw_privs) (i := 0) rfl)
theorem zw726 : Cond.instanceMethod ⟨"DiodeLink$Journal", "keeps", "(I)Z"⟩ ∈ lw_tbl := zin_5 _ (List.mem_of_getElem? (l := tables_1_5) (i := 96) rfl)
theorem zw727 : Cond.selects "DiodeLink$Journal" ⟨"DiodeLink$Journal", "keeps", "(I)Z"⟩ ⟨"DiodeLink$Journal", "keeps", "(I)Z"⟩ ∈ lw_tbl := zin_5 _ (List.mem_of_getElem? (l := tables_1_5) (i := 97) rfl)
theorem zw728 : Cond.instanceMethod ⟨"DiodeLink$Journal", "link", "(I)J"⟩ ∈ lw_tbl := zin_2 _ (List.mem_of_getElem? (l := tables_1_2) (i := 58) rfl)
theorem zw729 : Cond.selects "DiodeLink$Journal" ⟨"DiodeLink$Journal", "link", "(I)J"⟩ ⟨"DiodeLink$Journal", "link", "(I)J"⟩ ∈ lw_tbl := zin_2 _ (List.mem_of_getElem? (l := tables_1_2) (i := 59) rfl)
theorem zw730 : Cond.instanceMethod ⟨"DiodeLink$Journal", "linksHold", "()Z"⟩ ∈ lw_tbl := zin_2 _ (List.mem_of_getElem? (l := tables_1_2) (i := 47) rfl)
theorem zw731 : Cond.selects "DiodeLink$Journal" ⟨"DiodeLink$Journal", "linksHold", "()Z"⟩ ⟨"DiodeLink$Journal", "linksHold", "()Z"⟩ ∈ lw_tbl := zin_2 _ (List.mem_of_getElem? (l := tables_1_2) (i := 48) rfl)
theorem zw732 : Cond.instanceMethod ⟨"DiodeLink$Journal", "number", "(II)I"⟩ ∈ lw_tbl := zin_2 _ (List.mem_of_getElem? (l := tables_1_2) (i := 74) rfl)
theorem zw733 : Cond.selects "DiodeLink$Journal" ⟨"DiodeLink$Journal", "number", "(II)I"⟩ ⟨"DiodeLink$Journal", "number", "(II)I"⟩ ∈ lw_tbl := zin_2 _ (List.mem_of_getElem? (l := tables_1_2) (i := 75) rfl)
theorem zw734 : Cond.static ⟨"DiodeLink$Journal", "place", "(II)I"⟩ ∈ lw_tbl := zin_2 _ (List.mem_of_getElem? (l := tables_1_2) (i := 78) rfl)
theorem zw735 : Cond.instanceMethod ⟨"DiodeLink$Journal", "turn", "(III)V"⟩ ∈ lw_tbl := zin_5 _ (List.mem_of_getElem? (l := tables_1_5) (i := 110) rfl)
theorem zw736 : Cond.selects "DiodeLink$Journal" ⟨"DiodeLink$Journal", "turn", "(III)V"⟩ ⟨"DiodeLink$Journal", "turn", "(III)V"⟩ ∈ lw_tbl := zin_5 _ (List.mem_of_getElem? (l := tables_1_5) (i := 111) rfl)
theorem zw737 : Cond.instanceMethod ⟨"DiodeLink$Receiver", "<init>", "(LDiodeLink$Rules;LDiodeLink$Journal;)V"⟩ ∈ lw_tbl := zin_1 _ (List.mem_of_getElem? (l := tables_1_1) (i := 158) rfl)
theorem zw738 : Cond.instanceMethod ⟨"DiodeLink$Receiver", "allRows", "()I"⟩ ∈ lw_tbl := zin_5 _ (List.mem_of_getElem? (l := tables_1_5) (i := 125) rfl)
theorem zw739 : Cond.selects "DiodeLink$Receiver" ⟨"DiodeLink$Receiver", "allRows", "()I"⟩ ⟨"DiodeLink$Receiver", "allRows", "()I"⟩ ∈ lw_tbl := zin_5 _ (List.mem_of_getElem? (l := tables_1_5) (i := 126) rfl)
theorem zw740 : Cond.instanceMethod ⟨"DiodeLink$Receiver", "canBe", "(LDiodeLink$Bytes;)Z"⟩ ∈ lw_tbl := zin_3 _ (List.mem_of_getElem? (l := tables_1_3) (i := 196) rfl)
theorem zw741 : Cond.selects "DiodeLink$Receiver" ⟨"DiodeLink$Receiver", "canBe", "(LDiodeLink$Bytes;)Z"⟩ ⟨"DiodeLink$Receiver", "canBe", "(LDiodeLink$Bytes;)Z"⟩ ∈ lw_tbl := zin_s _ (List.mem_of_getElem? (l := k2_sels lw_privs) (i := 14) rfl)
theorem zw742 : Cond.instanceMethod ⟨"DiodeLink$Receiver", "dropItemRows", "(LDiodeLink$Version;II)V"⟩ ∈ lw_tbl := zin_4 _ (List.mem_of_getElem? (l := tables_1_4) (i := 116) rfl)
theorem zw743 : Cond.selects "DiodeLink$Receiver" ⟨"DiodeLink$Receiver", "dropItemRows", "(LDiodeLink$Version;II)V"⟩ ⟨"DiodeLink$Receiver", "dropItemRows", "(LDiodeLink$Version;II)V"⟩ ∈ lw_tbl := zin_s _ (List.mem_of_getElem? (l := k2_sels lw_privs) (i := 27) rfl)
theorem zw744 : Cond.instanceMethod ⟨"DiodeLink$Receiver", "dropped", "()I"⟩ ∈ lw_tbl := zin_5 _ (List.mem_of_getElem? (l := tables_1_5) (i := 121) rfl)
theorem zw745 : Cond.selects "DiodeLink$Receiver" ⟨"DiodeLink$Receiver", "dropped", "()I"⟩ ⟨"DiodeLink$Receiver", "dropped", "()I"⟩ ∈ lw_tbl := zin_5 _ (List.mem_of_getElem? (l := tables_1_5) (i := 122) rfl)
theorem zw746 : Cond.instanceMethod ⟨"DiodeLink$Receiver", "find", "(II)LDiodeLink$Version;"⟩ ∈ lw_tbl := zin_3 _ (List.mem_of_getElem? (l := tables_1_3) (i := 218) rfl)
theorem zw747 : Cond.selects "DiodeLink$Receiver" ⟨"DiodeLink$Receiver", "find", "(II)LDiodeLink$Version;"⟩ ⟨"DiodeLink$Receiver", "find", "(II)LDiodeLink$Version;"⟩ ∈ lw_tbl := zin_s _ (List.mem_of_getElem? (l := k2_sels lw_privs) (i := 18) rfl)
theorem zw748 : Cond.instanceMethod ⟨"DiodeLink$Receiver", "forgetItem", "(LDiodeLink$Version;II)V"⟩ ∈ lw_tbl := zin_4 _ (List.mem_of_getElem? (l := tables_1_4) (i := 111) rfl)
theorem zw749 : Cond.selects "DiodeLink$Receiver" ⟨"DiodeLink$Receiver", "forgetItem", "(LDiodeLink$Version;II)V"⟩ ⟨"DiodeLink$Receiver", "forgetItem", "(LDiodeLink$Version;II)V"⟩ ∈ lw_tbl := zin_s _ (List.mem_of_getElem? (l := k2_sels lw_privs) (i := 26) rfl)
theorem zw750 : Cond.instanceMethod ⟨"DiodeLink$Receiver", "greatestOf", "(I)I"⟩ ∈ lw_tbl := zin_4 _ (List.mem_of_getElem? (l := tables_1_4) (i := 61) rfl)
theorem zw751 : Cond.selects "DiodeLink$Receiver" ⟨"DiodeLink$Receiver", "greatestOf", "(I)I"⟩ ⟨"DiodeLink$Receiver", "greatestOf", "(I)I"⟩ ∈ lw_tbl := zin_s _ (List.mem_of_getElem? (l := k2_sels lw_privs) (i := 22) rfl)
theorem zw752 : Cond.instanceMethod ⟨"DiodeLink$Receiver", "hasOtherSize", "(LDiodeLink$Version;ILDiodeLink$Bytes;)Z"⟩ ∈ lw_tbl := zin_4 _ (List.mem_of_getElem? (l := tables_1_4) (i := 4) rfl)
theorem zw753 : Cond.selects "DiodeLink$Receiver" ⟨"DiodeLink$Receiver", "hasOtherSize", "(LDiodeLink$Version;ILDiodeLink$Bytes;)Z"⟩ ⟨"DiodeLink$Receiver", "hasOtherSize", "(LDiodeLink$Version;ILDiodeLink$Bytes;)Z"⟩ ∈ lw_tbl := zin_s _ (List.mem_of_getElem? (l := k2_sels lw_privs) (i := 19) rfl)
theorem zw754 : Cond.instanceMethod ⟨"DiodeLink$Receiver", "holdAlike", "(I)V"⟩ ∈ lw_tbl := zin_4 _ (List.mem_of_getElem? (l := tables_1_4) (i := 136) rfl)
theorem zw755 : Cond.selects "DiodeLink$Receiver" ⟨"DiodeLink$Receiver", "holdAlike", "(I)V"⟩ ⟨"DiodeLink$Receiver", "holdAlike", "(I)V"⟩ ∈ lw_tbl := zin_s _ (List.mem_of_getElem? (l := k2_sels lw_privs) (i := 29) rfl)
theorem zw756 : Cond.instanceMethod ⟨"DiodeLink$Receiver", "holdByOther", "(III)Z"⟩ ∈ lw_tbl := zin_4 _ (List.mem_of_getElem? (l := tables_1_4) (i := 140) rfl)
theorem zw757 : Cond.selects "DiodeLink$Receiver" ⟨"DiodeLink$Receiver", "holdByOther", "(III)Z"⟩ ⟨"DiodeLink$Receiver", "holdByOther", "(III)Z"⟩ ∈ lw_tbl := zin_s _ (List.mem_of_getElem? (l := k2_sels lw_privs) (i := 30) rfl)
theorem zw758 : Cond.instanceMethod ⟨"DiodeLink$Receiver", "judge", "(LDiodeLink$Version;I)V"⟩ ∈ lw_tbl := zin_4 _ (List.mem_of_getElem? (l := tables_1_4) (i := 169) rfl)
theorem zw759 : Cond.selects "DiodeLink$Receiver" ⟨"DiodeLink$Receiver", "judge", "(LDiodeLink$Version;I)V"⟩ ⟨"DiodeLink$Receiver", "judge", "(LDiodeLink$Version;I)V"⟩ ∈ lw_tbl := zin_s _ (List.mem_of_getElem? (l := k2_sels lw_privs) (i := 32) rfl)
theorem zw760 : Cond.instanceMethod ⟨"DiodeLink$Receiver", "keepRow", "(LDiodeLink$Version;ILDiodeLink$Bytes;)Z"⟩ ∈ lw_tbl := zin_4 _ (List.mem_of_getElem? (l := tables_1_4) (i := 66) rfl)
theorem zw761 : Cond.selects "DiodeLink$Receiver" ⟨"DiodeLink$Receiver", "keepRow", "(LDiodeLink$Version;ILDiodeLink$Bytes;)Z"⟩ ⟨"DiodeLink$Receiver", "keepRow", "(LDiodeLink$Version;ILDiodeLink$Bytes;)Z"⟩ ∈ lw_tbl := zin_s _ (List.mem_of_getElem? (l := k2_sels lw_privs) (i := 23) rfl)
theorem zw762 : Cond.instanceMethod ⟨"DiodeLink$Receiver", "knownAt", "(II)LDiodeLink$Version;"⟩ ∈ lw_tbl := zin_3 _ (List.mem_of_getElem? (l := tables_1_3) (i := 206) rfl)
theorem zw763 : Cond.selects "DiodeLink$Receiver" ⟨"DiodeLink$Receiver", "knownAt", "(II)LDiodeLink$Version;"⟩ ⟨"DiodeLink$Receiver", "knownAt", "(II)LDiodeLink$Version;"⟩ ∈ lw_tbl := zin_s _ (List.mem_of_getElem? (l := k2_sels lw_privs) (i := 16) rfl)
theorem zw764 : Cond.instanceMethod ⟨"DiodeLink$Receiver", "learn", "(II)LDiodeLink$Version;"⟩ ∈ lw_tbl := zin_3 _ (List.mem_of_getElem? (l := tables_1_3) (i := 214) rfl)
theorem zw765 : Cond.selects "DiodeLink$Receiver" ⟨"DiodeLink$Receiver", "learn", "(II)LDiodeLink$Version;"⟩ ⟨"DiodeLink$Receiver", "learn", "(II)LDiodeLink$Version;"⟩ ∈ lw_tbl := zin_s _ (List.mem_of_getElem? (l := k2_sels lw_privs) (i := 17) rfl)
theorem zw766 : Cond.instanceMethod ⟨"DiodeLink$Receiver", "leastOf", "(I)LDiodeLink$Version;"⟩ ∈ lw_tbl := zin_3 _ (List.mem_of_getElem? (l := tables_1_3) (i := 202) rfl)
theorem zw767 : Cond.selects "DiodeLink$Receiver" ⟨"DiodeLink$Receiver", "leastOf", "(I)LDiodeLink$Version;"⟩ ⟨"DiodeLink$Receiver", "leastOf", "(I)LDiodeLink$Version;"⟩ ∈ lw_tbl := zin_s _ (List.mem_of_getElem? (l := k2_sels lw_privs) (i := 15) rfl)
theorem zw768 : Cond.instanceMethod ⟨"DiodeLink$Receiver", "leastToJudge", "(I)LDiodeLink$Version;"⟩ ∈ lw_tbl := zin_4 _ (List.mem_of_getElem? (l := tables_1_4) (i := 157) rfl)
theorem zw769 : Cond.selects "DiodeLink$Receiver" ⟨"DiodeLink$Receiver", "leastToJudge", "(I)LDiodeLink$Version;"⟩ ⟨"DiodeLink$Receiver", "leastToJudge", "(I)LDiodeLink$Version;"⟩ ∈ lw_tbl := zin_s _ (List.mem_of_getElem? (l := k2_sels lw_privs) (i := 31) rfl)
theorem zw770 : Cond.instanceMethod ⟨"DiodeLink$Receiver", "letOut", "(I)I"⟩ ∈ lw_tbl := zin_5 _ (List.mem_of_getElem? (l := tables_1_5) (i := 33) rfl)
theorem zw771 : Cond.selects "DiodeLink$Receiver" ⟨"DiodeLink$Receiver", "letOut", "(I)I"⟩ ⟨"DiodeLink$Receiver", "letOut", "(I)I"⟩ ∈ lw_tbl := zin_5 _ (List.mem_of_getElem? (l := tables_1_5) (i := 34) rfl)
theorem zw772 : Cond.instanceMethod ⟨"DiodeLink$Receiver", "listen", "(LDiodeLink$Bytes;)I"⟩ ∈ lw_tbl := zin_3 _ (List.mem_of_getElem? (l := tables_1_3) (i := 180) rfl)
theorem zw773 : Cond.selects "DiodeLink$Receiver" ⟨"DiodeLink$Receiver", "listen", "(LDiodeLink$Bytes;)I"⟩ ⟨"DiodeLink$Receiver", "listen", "(LDiodeLink$Bytes;)I"⟩ ∈ lw_tbl := zin_3 _ (List.mem_of_getElem? (l := tables_1_3) (i := 181) rfl)
theorem zw774 : Cond.instanceMethod ⟨"DiodeLink$Receiver", "lookAt", "(LDiodeLink$Version;II)V"⟩ ∈ lw_tbl := zin_4 _ (List.mem_of_getElem? (l := tables_1_4) (i := 94) rfl)
theorem zw775 : Cond.selects "DiodeLink$Receiver" ⟨"DiodeLink$Receiver", "lookAt", "(LDiodeLink$Version;II)V"⟩ ⟨"DiodeLink$Receiver", "lookAt", "(LDiodeLink$Version;II)V"⟩ ∈ lw_tbl := zin_s _ (List.mem_of_getElem? (l := k2_sels lw_privs) (i := 24) rfl)
theorem zw776 : Cond.instanceMethod ⟨"DiodeLink$Receiver", "lookAtFile", "(LDiodeLink$Version;II)V"⟩ ∈ lw_tbl := zin_4 _ (List.mem_of_getElem? (l := tables_1_4) (i := 102) rfl)
theorem zw777 : Cond.selects "DiodeLink$Receiver" ⟨"DiodeLink$Receiver", "lookAtFile", "(LDiodeLink$Version;II)V"⟩ ⟨"DiodeLink$Receiver", "lookAtFile", "(LDiodeLink$Version;II)V"⟩ ∈ lw_tbl := zin_s _ (List.mem_of_getElem? (l := k2_sels lw_privs) (i := 25) rfl)
theorem zw778 : Cond.instanceMethod ⟨"DiodeLink$Receiver", "loseRows", "()V"⟩ ∈ lw_tbl := zin_2 _ (List.mem_of_getElem? (l := tables_1_2) (i := 35) rfl)
theorem zw779 : Cond.selects "DiodeLink$Receiver" ⟨"DiodeLink$Receiver", "loseRows", "()V"⟩ ⟨"DiodeLink$Receiver", "loseRows", "()V"⟩ ∈ lw_tbl := zin_2 _ (List.mem_of_getElem? (l := tables_1_2) (i := 36) rfl)
theorem zw780 : Cond.instanceMethod ⟨"DiodeLink$Receiver", "makeRoom", "()Z"⟩ ∈ lw_tbl := zin_4 _ (List.mem_of_getElem? (l := tables_1_4) (i := 49) rfl)
theorem zw781 : Cond.selects "DiodeLink$Receiver" ⟨"DiodeLink$Receiver", "makeRoom", "()Z"⟩ ⟨"DiodeLink$Receiver", "makeRoom", "()Z"⟩ ∈ lw_tbl := zin_s _ (List.mem_of_getElem? (l := k2_sels lw_privs) (i := 21) rfl)
theorem zw782 : Cond.static ⟨"DiodeLink$Receiver", "maskOf", "(LDiodeLink$Bytes;)I"⟩ ∈ lw_tbl := zin_4 _ (List.mem_of_getElem? (l := tables_1_4) (i := 28) rfl)
theorem zw783 : Cond.instanceMethod ⟨"DiodeLink$Receiver", "noteLife", "(I)V"⟩ ∈ lw_tbl := zin_3 _ (List.mem_of_getElem? (l := tables_1_3) (i := 192) rfl)
theorem zw784 : Cond.selects "DiodeLink$Receiver" ⟨"DiodeLink$Receiver", "noteLife", "(I)V"⟩ ⟨"DiodeLink$Receiver", "noteLife", "(I)V"⟩ ∈ lw_tbl := zin_s _ (List.mem_of_getElem? (l := k2_sels lw_privs) (i := 13) rfl)
theorem zw785 : Cond.static ⟨"DiodeLink$Receiver", "piecesOf", "(LDiodeLink$Bytes;)I"⟩ ∈ lw_tbl := zin_4 _ (List.mem_of_getElem? (l := tables_1_4) (i := 31) rfl)
theorem zw786 : Cond.instanceMethod ⟨"DiodeLink$Receiver", "rowsOf", "(IIII)I"⟩ ∈ lw_tbl := zin_5 _ (List.mem_of_getElem? (l := tables_1_5) (i := 22) rfl)
theorem zw787 : Cond.selects "DiodeLink$Receiver" ⟨"DiodeLink$Receiver", "rowsOf", "(IIII)I"⟩ ⟨"DiodeLink$Receiver", "rowsOf", "(IIII)I"⟩ ∈ lw_tbl := zin_5 _ (List.mem_of_getElem? (l := tables_1_5) (i := 23) rfl)
theorem zw788 : Cond.instanceMethod ⟨"DiodeLink$Receiver", "shown", "(I)LDiodeLink$Version;"⟩ ∈ lw_tbl := zin_5 _ (List.mem_of_getElem? (l := tables_1_5) (i := 49) rfl)
theorem zw789 : Cond.selects "DiodeLink$Receiver" ⟨"DiodeLink$Receiver", "shown", "(I)LDiodeLink$Version;"⟩ ⟨"DiodeLink$Receiver", "shown", "(I)LDiodeLink$Version;"⟩ ∈ lw_tbl := zin_5 _ (List.mem_of_getElem? (l := tables_1_5) (i := 50) rfl)
theorem zw790 : Cond.instanceMethod ⟨"DiodeLink$Receiver", "stateOf", "(II)I"⟩ ∈ lw_tbl := zin_5 _ (List.mem_of_getElem? (l := tables_1_5) (i := 10) rfl)
theorem zw791 : Cond.selects "DiodeLink$Receiver" ⟨"DiodeLink$Receiver", "stateOf", "(II)I"⟩ ⟨"DiodeLink$Receiver", "stateOf", "(II)I"⟩ ∈ lw_tbl := zin_5 _ (List.mem_of_getElem? (l := tables_1_5) (i := 11) rfl)
theorem zw792 : Cond.instanceMethod ⟨"DiodeLink$Receiver", "whyDropped", "(LDiodeLink$Bytes;)I"⟩ ∈ lw_tbl := zin_3 _ (List.mem_of_getElem? (l := tables_1_3) (i := 185) rfl)
theorem zw793 : Cond.selects "DiodeLink$Receiver" ⟨"DiodeLink$Receiver", "whyDropped", "(LDiodeLink$Bytes;)I"⟩ ⟨"DiodeLink$Receiver", "whyDropped", "(LDiodeLink$Bytes;)I"⟩ ∈ lw_tbl := zin_s _ (List.mem_of_getElem? (l := k2_sels lw_privs) (i := 12) rfl)
theorem zw794 : Cond.instanceMethod ⟨"DiodeLink$Rows", "<init>", "()V"⟩ ∈ lw_tbl := zin_1 _ (List.mem_of_getElem? (l := tables_1_1) (i := 166) rfl)
theorem zw795 : Cond.instanceMethod ⟨"DiodeLink$Rows", "add", "(IIJ)V"⟩ ∈ lw_tbl := zin_4 _ (List.mem_of_getElem? (l := tables_1_4) (i := 70) rfl)
theorem zw796 : Cond.selects "DiodeLink$Rows" ⟨"DiodeLink$Rows", "add", "(IIJ)V"⟩ ⟨"DiodeLink$Rows", "add", "(IIJ)V"⟩ ∈ lw_tbl := zin_4 _ (List.mem_of_getElem? (l := tables_1_4) (i := 71) rfl)
theorem zw797 : Cond.instanceMethod ⟨"DiodeLink$Rows", "drop", "(II)V"⟩ ∈ lw_tbl := zin_3 _ (List.mem_of_getElem? (l := tables_1_3) (i := 230) rfl)
theorem zw798 : Cond.selects "DiodeLink$Rows" ⟨"DiodeLink$Rows", "drop", "(II)V"⟩ ⟨"DiodeLink$Rows", "drop", "(II)V"⟩ ∈ lw_tbl := zin_3 _ (List.mem_of_getElem? (l := tables_1_3) (i := 231) rfl)
theorem zw799 : Cond.instanceMethod ⟨"DiodeLink$Rows", "dropAll", "()V"⟩ ∈ lw_tbl := zin_2 _ (List.mem_of_getElem? (l := tables_1_2) (i := 39) rfl)
theorem zw800 : Cond.selects "DiodeLink$Rows" ⟨"DiodeLink$Rows", "dropAll", "()V"⟩ ⟨"DiodeLink$Rows", "dropAll", "()V"⟩ ∈ lw_tbl := zin_2 _ (List.mem_of_getElem? (l := tables_1_2) (i := 40) rfl)
theorem zw801 : Cond.static ⟨"DiodeLink$Rows", "firstKey", "(I)I"⟩ ∈ lw_tbl := zin_3 _ (List.mem_of_getElem? (l := tables_1_3) (i := 224) rfl)
theorem zw802 : Cond.instanceMethod ⟨"DiodeLink$Rows", "hasPivotIn", "(III)Z"⟩ ∈ lw_tbl := zin_4 _ (List.mem_of_getElem? (l := tables_1_4) (i := 41) rfl)
theorem zw803 : Cond.selects "DiodeLink$Rows" ⟨"DiodeLink$Rows", "hasPivotIn", "(III)Z"⟩ ⟨"DiodeLink$Rows", "hasPivotIn", "(III)Z"⟩ ∈ lw_tbl := zin_s _ (List.mem_of_getElem? (l := k2_sels lw_privs) (i := 20) rfl)
theorem zw804 : Cond.instanceMethod ⟨"DiodeLink$Rows", "isFull", "()Z"⟩ ∈ lw_tbl := zin_4 _ (List.mem_of_getElem? (l := tables_1_4) (i := 44) rfl)
theorem zw805 : Cond.selects "DiodeLink$Rows" ⟨"DiodeLink$Rows", "isFull", "()Z"⟩ ⟨"DiodeLink$Rows", "isFull", "()Z"⟩ ∈ lw_tbl := zin_4 _ (List.mem_of_getElem? (l := tables_1_4) (i := 45) rfl)
theorem zw806 : Cond.static ⟨"DiodeLink$Rows", "key", "(III)I"⟩ ∈ lw_tbl := zin_4 _ (List.mem_of_getElem? (l := tables_1_4) (i := 15) rfl)
theorem zw807 : Cond.static ⟨"DiodeLink$Rows", "lastKey", "(I)I"⟩ ∈ lw_tbl := zin_3 _ (List.mem_of_getElem? (l := tables_1_3) (i := 227) rfl)
theorem zw808 : Cond.static ⟨"DiodeLink$Rows", "owner", "(II)I"⟩ ∈ lw_tbl := zin_3 _ (List.mem_of_getElem? (l := tables_1_3) (i := 221) rfl)
theorem zw809 : Cond.instanceMethod ⟨"DiodeLink$Rows", "ownerAt", "(I)I"⟩ ∈ lw_tbl := zin_4 _ (List.mem_of_getElem? (l := tables_1_4) (i := 56) rfl)
theorem zw810 : Cond.selects "DiodeLink$Rows" ⟨"DiodeLink$Rows", "ownerAt", "(I)I"⟩ ⟨"DiodeLink$Rows", "ownerAt", "(I)I"⟩ ∈ lw_tbl := zin_4 _ (List.mem_of_getElem? (l := tables_1_4) (i := 57) rfl)
theorem zw811 : Cond.instanceMethod ⟨"DiodeLink$Rows", "piece", "(II)J"⟩ ∈ lw_tbl := zin_4 _ (List.mem_of_getElem? (l := tables_1_4) (i := 75) rfl)
theorem zw812 : Cond.selects "DiodeLink$Rows" ⟨"DiodeLink$Rows", "piece", "(II)J"⟩ ⟨"DiodeLink$Rows", "piece", "(II)J"⟩ ∈ lw_tbl := zin_4 _ (List.mem_of_getElem? (l := tables_1_4) (i := 76) rfl)
theorem zw813 : Cond.instanceMethod ⟨"DiodeLink$Rows", "rowsIn", "(II)I"⟩ ∈ lw_tbl := zin_4 _ (List.mem_of_getElem? (l := tables_1_4) (i := 18) rfl)
theorem zw814 : Cond.selects "DiodeLink$Rows" ⟨"DiodeLink$Rows", "rowsIn", "(II)I"⟩ ⟨"DiodeLink$Rows", "rowsIn", "(II)I"⟩ ∈ lw_tbl := zin_4 _ (List.mem_of_getElem? (l := tables_1_4) (i := 19) rfl)
theorem zw815 : Cond.instanceMethod ⟨"DiodeLink$Rows", "tells", "(II)Z"⟩ ∈ lw_tbl := zin_4 _ (List.mem_of_getElem? (l := tables_1_4) (i := 36) rfl)
theorem zw816 : Cond.selects "DiodeLink$Rows" ⟨"DiodeLink$Rows", "tells", "(II)Z"⟩ ⟨"DiodeLink$Rows", "tells", "(II)Z"⟩ ∈ lw_tbl := zin_4 _ (List.mem_of_getElem? (l := tables_1_4) (i := 37) rfl)
theorem zw817 : Cond.instanceMethod ⟨"DiodeLink$Rows", "used", "()I"⟩ ∈ lw_tbl := zin_4 _ (List.mem_of_getElem? (l := tables_1_4) (i := 52) rfl)
theorem zw818 : Cond.selects "DiodeLink$Rows" ⟨"DiodeLink$Rows", "used", "()I"⟩ ⟨"DiodeLink$Rows", "used", "()I"⟩ ∈ lw_tbl := zin_4 _ (List.mem_of_getElem? (l := tables_1_4) (i := 53) rfl)
theorem zw819 : Cond.instanceMethod ⟨"DiodeLink$Rules", "<init>", "()V"⟩ ∈ lw_tbl := zin_1 _ (List.mem_of_getElem? (l := tables_1_1) (i := 110) rfl)
theorem zw820 : Cond.instanceMethod ⟨"DiodeLink$Rules", "brokenBy", "(ILDiodeLink$Version;)I"⟩ ∈ lw_tbl := zin_4 _ (List.mem_of_getElem? (l := tables_1_4) (i := 172) rfl)
theorem zw821 : Cond.selects "DiodeLink$Rules" ⟨"DiodeLink$Rules", "brokenBy", "(ILDiodeLink$Version;)I"⟩ ⟨"DiodeLink$Rules", "brokenBy", "(ILDiodeLink$Version;)I"⟩ ∈ lw_tbl := zin_4 _ (List.mem_of_getElem? (l := tables_1_4) (i := 173) rfl)
theorem zw822 : Cond.static ⟨"DiodeLink$Rules", "greatestValue", "(I)I"⟩ ∈ lw_tbl := zin_4 _ (List.mem_of_getElem? (l := tables_1_4) (i := 230) rfl)
theorem zw823 : Cond.instanceMethod ⟨"DiodeLink$Rules", "hasBadSign", "(LDiodeLink$Version;I)Z"⟩ ∈ lw_tbl := zin_4 _ (List.mem_of_getElem? (l := tables_1_4) (i := 186) rfl)
theorem zw824 : Cond.selects "DiodeLink$Rules" ⟨"DiodeLink$Rules", "hasBadSign", "(LDiodeLink$Version;I)Z"⟩ ⟨"DiodeLink$Rules", "hasBadSign", "(LDiodeLink$Version;I)Z"⟩ ∈ lw_tbl := zin_s _ (List.mem_of_getElem? (l := k2_sels lw_privs) (i := 34) rfl)
theorem zw825 : Cond.instanceMethod ⟨"DiodeLink$Rules", "isBrokenByFile", "(ILDiodeLink$Version;I)Z"⟩ ∈ lw_tbl := zin_4 _ (List.mem_of_getElem? (l := tables_1_4) (i := 178) rfl)
theorem zw826 : Cond.selects "DiodeLink$Rules" ⟨"DiodeLink$Rules", "isBrokenByFile", "(ILDiodeLink$Version;I)Z"⟩ ⟨"DiodeLink$Rules", "isBrokenByFile", "(ILDiodeLink$Version;I)Z"⟩ ∈ lw_tbl := zin_s _ (List.mem_of_getElem? (l := k2_sels lw_privs) (i := 33) rfl)
theorem zw827 : Cond.instanceMethod ⟨"DiodeLink$Rules", "set", "(IIZ)V"⟩ ∈ lw_tbl := zin_4 _ (List.mem_of_getElem? (l := tables_1_4) (i := 234) rfl)
theorem zw828 : Cond.selects "DiodeLink$Rules" ⟨"DiodeLink$Rules", "set", "(IIZ)V"⟩ ⟨"DiodeLink$Rules", "set", "(IIZ)V"⟩ ∈ lw_tbl := zin_4 _ (List.mem_of_getElem? (l := tables_1_4) (i := 235) rfl)
theorem zw829 : Cond.instanceMethod ⟨"DiodeLink$Sender", "<init>", "()V"⟩ ∈ lw_tbl := zin_1 _ (List.mem_of_getElem? (l := tables_1_1) (i := 46) rfl)
theorem zw830 : Cond.instanceMethod ⟨"DiodeLink$Sender", "beginLife", "()Z"⟩ ∈ lw_tbl := zin_4 _ (List.mem_of_getElem? (l := tables_1_4) (i := 214) rfl)
theorem zw831 : Cond.selects "DiodeLink$Sender" ⟨"DiodeLink$Sender", "beginLife", "()Z"⟩ ⟨"DiodeLink$Sender", "beginLife", "()Z"⟩ ∈ lw_tbl := zin_4 _ (List.mem_of_getElem? (l := tables_1_4) (i := 215) rfl)
theorem zw832 : Cond.instanceMethod ⟨"DiodeLink$Sender", "beginRounds", "()V"⟩ ∈ lw_tbl := zin_3 _ (List.mem_of_getElem? (l := tables_1_3) (i := 70) rfl)
theorem zw833 : Cond.selects "DiodeLink$Sender" ⟨"DiodeLink$Sender", "beginRounds", "()V"⟩ ⟨"DiodeLink$Sender", "beginRounds", "()V"⟩ ∈ lw_tbl := zin_s _ (List.mem_of_getElem? (l := k2_sels lw_privs) (i := 6) rfl)
theorem zw834 : Cond.instanceMethod ⟨"DiodeLink$Sender", "fillFrom", "(LDiodeLink$Bytes;II)V"⟩ ∈ lw_tbl := zin_3 _ (List.mem_of_getElem? (l := tables_1_3) (i := 118) rfl)
theorem zw835 : Cond.selects "DiodeLink$Sender" ⟨"DiodeLink$Sender", "fillFrom", "(LDiodeLink$Bytes;II)V"⟩ ⟨"DiodeLink$Sender", "fillFrom", "(LDiodeLink$Bytes;II)V"⟩ ∈ lw_tbl := zin_s _ (List.mem_of_getElem? (l := k2_sels lw_privs) (i := 8) rfl)
theorem zw836 : Cond.instanceMethod ⟨"DiodeLink$Sender", "fillNext", "(LDiodeLink$Bytes;)Z"⟩ ∈ lw_tbl := zin_3 _ (List.mem_of_getElem? (l := tables_1_3) (i := 84) rfl)
theorem zw837 : Cond.selects "DiodeLink$Sender" ⟨"DiodeLink$Sender", "fillNext", "(LDiodeLink$Bytes;)Z"⟩ ⟨"DiodeLink$Sender", "fillNext", "(LDiodeLink$Bytes;)Z"⟩ ∈ lw_tbl := zin_3 _ (List.mem_of_getElem? (l := tables_1_3) (i := 85) rfl)
theorem zw838 : Cond.instanceMethod ⟨"DiodeLink$Sender", "folder", "(I)LDiodeLink$Folder;"⟩ ∈ lw_tbl := zin_2 _ (List.mem_of_getElem? (l := tables_1_2) (i := 207) rfl)
theorem zw839 : Cond.selects "DiodeLink$Sender" ⟨"DiodeLink$Sender", "folder", "(I)LDiodeLink$Folder;"⟩ ⟨"DiodeLink$Sender", "folder", "(I)LDiodeLink$Folder;"⟩ ∈ lw_tbl := zin_2 _ (List.mem_of_getElem? (l := tables_1_2) (i := 208) rfl)
theorem zw840 : Cond.instanceMethod ⟨"DiodeLink$Sender", "life", "()I"⟩ ∈ lw_tbl := zin_4 _ (List.mem_of_getElem? (l := tables_1_4) (i := 219) rfl)
theorem zw841 : Cond.selects "DiodeLink$Sender" ⟨"DiodeLink$Sender", "life", "()I"⟩ ⟨"DiodeLink$Sender", "life", "()I"⟩ ∈ lw_tbl := zin_4 _ (List.mem_of_getElem? (l := tables_1_4) (i := 220) rfl)
theorem zw842 : Cond.instanceMethod ⟨"DiodeLink$Sender", "makeVersion", "(I)I"⟩ ∈ lw_tbl := zin_3 _ (List.mem_of_getElem? (l := tables_1_3) (i := 35) rfl)
theorem zw843 : Cond.selects "DiodeLink$Sender" ⟨"DiodeLink$Sender", "makeVersion", "(I)I"⟩ ⟨"DiodeLink$Sender", "makeVersion", "(I)I"⟩ ∈ lw_tbl := zin_3 _ (List.mem_of_getElem? (l := tables_1_3) (i := 36) rfl)
theorem zw844 : Cond.static ⟨"DiodeLink$Sender", "oldestAge", "(I)I"⟩ ∈ lw_tbl := zin_3 _ (List.mem_of_getElem? (l := tables_1_3) (i := 92) rfl)
theorem zw845 : Cond.instanceMethod ⟨"DiodeLink$Sender", "packetsOf", "(I)I"⟩ ∈ lw_tbl := zin_3 _ (List.mem_of_getElem? (l := tables_1_3) (i := 89) rfl)
theorem zw846 : Cond.selects "DiodeLink$Sender" ⟨"DiodeLink$Sender", "packetsOf", "(I)I"⟩ ⟨"DiodeLink$Sender", "packetsOf", "(I)I"⟩ ∈ lw_tbl := zin_s _ (List.mem_of_getElem? (l := k2_sels lw_privs) (i := 7) rfl)
theorem zw847 : Cond.static ⟨"DiodeLink$Sender", "youngestAge", "(I)I"⟩ ∈ lw_tbl := zin_3 _ (List.mem_of_getElem? (l := tables_1_3) (i := 95) rfl)
theorem zw848 : Cond.instanceMethod ⟨"DiodeLink$Version", "<init>", "()V"⟩ ∈ lw_tbl := zin_1 _ (List.mem_of_getElem? (l := tables_1_1) (i := 184) rfl)
theorem zw849 : Cond.instanceMethod ⟨"DiodeLink$Version", "become", "(I)V"⟩ ∈ lw_tbl := zin_4 _ (List.mem_of_getElem? (l := tables_1_4) (i := 199) rfl)
theorem zw850 : Cond.selects "DiodeLink$Version" ⟨"DiodeLink$Version", "become", "(I)V"⟩ ⟨"DiodeLink$Version", "become", "(I)V"⟩ ∈ lw_tbl := zin_4 _ (List.mem_of_getElem? (l := tables_1_4) (i := 200) rfl)
theorem zw851 : Cond.instanceMethod ⟨"DiodeLink$Version", "begin", "(I)V"⟩ ∈ lw_tbl := zin_3 _ (List.mem_of_getElem? (l := tables_1_3) (i := 234) rfl)
theorem zw852 : Cond.selects "DiodeLink$Version" ⟨"DiodeLink$Version", "begin", "(I)V"⟩ ⟨"DiodeLink$Version", "begin", "(I)V"⟩ ∈ lw_tbl := zin_3 _ (List.mem_of_getElem? (l := tables_1_3) (i := 235) rfl)
theorem zw853 : Cond.instanceMethod ⟨"DiodeLink$Version", "clearItem", "(I)V"⟩ ∈ lw_tbl := zin_3 _ (List.mem_of_getElem? (l := tables_1_3) (i := 238) rfl)
theorem zw854 : Cond.selects "DiodeLink$Version" ⟨"DiodeLink$Version", "clearItem", "(I)V"⟩ ⟨"DiodeLink$Version", "clearItem", "(I)V"⟩ ∈ lw_tbl := zin_3 _ (List.mem_of_getElem? (l := tables_1_3) (i := 239) rfl)
theorem zw855 : Cond.instanceMethod ⟨"DiodeLink$Version", "fileSize", "(I)I"⟩ ∈ lw_tbl := zin_4 _ (List.mem_of_getElem? (l := tables_1_4) (i := 181) rfl)
theorem zw856 : Cond.selects "DiodeLink$Version" ⟨"DiodeLink$Version", "fileSize", "(I)I"⟩ ⟨"DiodeLink$Version", "fileSize", "(I)I"⟩ ∈ lw_tbl := zin_4 _ (List.mem_of_getElem? (l := tables_1_4) (i := 182) rfl)
theorem zw857 : Cond.instanceMethod ⟨"DiodeLink$Version", "files", "()I"⟩ ∈ lw_tbl := zin_4 _ (List.mem_of_getElem? (l := tables_1_4) (i := 131) rfl)
theorem zw858 : Cond.selects "DiodeLink$Version" ⟨"DiodeLink$Version", "files", "()I"⟩ ⟨"DiodeLink$Version", "files", "()I"⟩ ∈ lw_tbl := zin_4 _ (List.mem_of_getElem? (l := tables_1_4) (i := 132) rfl)
theorem zw859 : Cond.instanceMethod ⟨"DiodeLink$Version", "hasSolved", "(I)Z"⟩ ∈ lw_tbl := zin_4 _ (List.mem_of_getElem? (l := tables_1_4) (i := 7) rfl)
theorem zw860 : Cond.selects "DiodeLink$Version" ⟨"DiodeLink$Version", "hasSolved", "(I)Z"⟩ ⟨"DiodeLink$Version", "hasSolved", "(I)Z"⟩ ∈ lw_tbl := zin_4 _ (List.mem_of_getElem? (l := tables_1_4) (i := 8) rfl)
theorem zw861 : Cond.instanceMethod ⟨"DiodeLink$Version", "heldLike", "(LDiodeLink$Version;I)I"⟩ ∈ lw_tbl := zin_4 _ (List.mem_of_getElem? (l := tables_1_4) (i := 147) rfl)
theorem zw862 : Cond.selects "DiodeLink$Version" ⟨"DiodeLink$Version", "heldLike", "(LDiodeLink$Version;I)I"⟩ ⟨"DiodeLink$Version", "heldLike", "(LDiodeLink$Version;I)I"⟩ ∈ lw_tbl := zin_4 _ (List.mem_of_getElem? (l := tables_1_4) (i := 148) rfl)
theorem zw863 : Cond.instanceMethod ⟨"DiodeLink$Version", "holdCopy", "(ILDiodeLink$Bytes;)V"⟩ ∈ lw_tbl := zin_4 _ (List.mem_of_getElem? (l := tables_1_4) (i := 151) rfl)
theorem zw864 : Cond.selects "DiodeLink$Version" ⟨"DiodeLink$Version", "holdCopy", "(ILDiodeLink$Bytes;)V"⟩ ⟨"DiodeLink$Version", "holdCopy", "(ILDiodeLink$Bytes;)V"⟩ ∈ lw_tbl := zin_4 _ (List.mem_of_getElem? (l := tables_1_4) (i := 152) rfl)
theorem zw865 : Cond.instanceMethod ⟨"DiodeLink$Version", "holdIfRight", "(I)Z"⟩ ∈ lw_tbl := zin_4 _ (List.mem_of_getElem? (l := tables_1_4) (i := 105) rfl)
theorem zw866 : Cond.selects "DiodeLink$Version" ⟨"DiodeLink$Version", "holdIfRight", "(I)Z"⟩ ⟨"DiodeLink$Version", "holdIfRight", "(I)Z"⟩ ∈ lw_tbl := zin_4 _ (List.mem_of_getElem? (l := tables_1_4) (i := 106) rfl)
theorem zw867 : Cond.instanceMethod ⟨"DiodeLink$Version", "holds", "(I)Z"⟩ ∈ lw_tbl := zin_4 _ (List.mem_of_getElem? (l := tables_1_4) (i := 143) rfl)
theorem zw868 : Cond.selects "DiodeLink$Version" ⟨"DiodeLink$Version", "holds", "(I)Z"⟩ ⟨"DiodeLink$Version", "holds", "(I)Z"⟩ ∈ lw_tbl := zin_4 _ (List.mem_of_getElem? (l := tables_1_4) (i := 144) rfl)
theorem zw869 : Cond.instanceMethod ⟨"DiodeLink$Version", "isBehindLast", "(I)Z"⟩ ∈ lw_tbl := zin_4 _ (List.mem_of_getElem? (l := tables_1_4) (i := 127) rfl)
theorem zw870 : Cond.selects "DiodeLink$Version" ⟨"DiodeLink$Version", "isBehindLast", "(I)Z"⟩ ⟨"DiodeLink$Version", "isBehindLast", "(I)Z"⟩ ∈ lw_tbl := zin_s _ (List.mem_of_getElem? (l := k2_sels lw_privs) (i := 28) rfl)
theorem zw871 : Cond.instanceMethod ⟨"DiodeLink$Version", "isComplete", "(I)Z"⟩ ∈ lw_tbl := zin_4 _ (List.mem_of_getElem? (l := tables_1_4) (i := 87) rfl)
theorem zw872 : Cond.selects "DiodeLink$Version" ⟨"DiodeLink$Version", "isComplete", "(I)Z"⟩ ⟨"DiodeLink$Version", "isComplete", "(I)Z"⟩ ∈ lw_tbl := zin_4 _ (List.mem_of_getElem? (l := tables_1_4) (i := 88) rfl)
theorem zw873 : Cond.instanceMethod ⟨"DiodeLink$Version", "isGood", "()Z"⟩ ∈ lw_tbl := zin_4 _ (List.mem_of_getElem? (l := tables_1_4) (i := 97) rfl)
theorem zw874 : Cond.selects "DiodeLink$Version" ⟨"DiodeLink$Version", "isGood", "()Z"⟩ ⟨"DiodeLink$Version", "isGood", "()Z"⟩ ∈ lw_tbl := zin_4 _ (List.mem_of_getElem? (l := tables_1_4) (i := 98) rfl)
theorem zw875 : Cond.instanceMethod ⟨"DiodeLink$Version", "isSolved", "(II)Z"⟩ ∈ lw_tbl := zin_4 _ (List.mem_of_getElem? (l := tables_1_4) (i := 11) rfl)
theorem zw876 : Cond.selects "DiodeLink$Version" ⟨"DiodeLink$Version", "isSolved", "(II)Z"⟩ ⟨"DiodeLink$Version", "isSolved", "(II)Z"⟩ ∈ lw_tbl := zin_4 _ (List.mem_of_getElem? (l := tables_1_4) (i := 12) rfl)
theorem zw877 : Cond.instanceMethod ⟨"DiodeLink$Version", "isWhole", "()Z"⟩ ∈ lw_tbl := zin_4 _ (List.mem_of_getElem? (l := tables_1_4) (i := 164) rfl)
theorem zw878 : Cond.selects "DiodeLink$Version" ⟨"DiodeLink$Version", "isWhole", "()Z"⟩ ⟨"DiodeLink$Version", "isWhole", "()Z"⟩ ∈ lw_tbl := zin_4 _ (List.mem_of_getElem? (l := tables_1_4) (i := 165) rfl)
theorem zw879 : Cond.instanceMethod ⟨"DiodeLink$Version", "item", "(I)LDiodeLink$Bytes;"⟩ ∈ lw_tbl := zin_4 _ (List.mem_of_getElem? (l := tables_1_4) (i := 22) rfl)
theorem zw880 : Cond.selects "DiodeLink$Version" ⟨"DiodeLink$Version", "item", "(I)LDiodeLink$Bytes;"⟩ ⟨"DiodeLink$Version", "item", "(I)LDiodeLink$Bytes;"⟩ ∈ lw_tbl := zin_4 _ (List.mem_of_getElem? (l := tables_1_4) (i := 23) rfl)
theorem zw881 : Cond.instanceMethod ⟨"DiodeLink$Version", "namePlace", "(I)I"⟩ ∈ lw_tbl := zin_4 _ (List.mem_of_getElem? (l := tables_1_4) (i := 190) rfl)
theorem zw882 : Cond.selects "DiodeLink$Version" ⟨"DiodeLink$Version", "namePlace", "(I)I"⟩ ⟨"DiodeLink$Version", "namePlace", "(I)I"⟩ ∈ lw_tbl := zin_4 _ (List.mem_of_getElem? (l := tables_1_4) (i := 191) rfl)
theorem zw883 : Cond.instanceMethod ⟨"DiodeLink$Version", "nameSize", "(I)I"⟩ ∈ lw_tbl := zin_4 _ (List.mem_of_getElem? (l := tables_1_4) (i := 194) rfl)
theorem zw884 : Cond.selects "DiodeLink$Version" ⟨"DiodeLink$Version", "nameSize", "(I)I"⟩ ⟨"DiodeLink$Version", "nameSize", "(I)I"⟩ ∈ lw_tbl := zin_4 _ (List.mem_of_getElem? (l := tables_1_4) (i := 195) rfl)
theorem zw885 : Cond.instanceMethod ⟨"DiodeLink$Version", "number", "()I"⟩ ∈ lw_tbl := zin_3 _ (List.mem_of_getElem? (l := tables_1_3) (i := 209) rfl)
theorem zw886 : Cond.selects "DiodeLink$Version" ⟨"DiodeLink$Version", "number", "()I"⟩ ⟨"DiodeLink$Version", "number", "()I"⟩ ∈ lw_tbl := zin_3 _ (List.mem_of_getElem? (l := tables_1_3) (i := 210) rfl)
theorem zw887 : Cond.instanceMethod ⟨"DiodeLink$Version", "readManifest", "()Z"⟩ ∈ lw_tbl := zin_4 _ (List.mem_of_getElem? (l := tables_1_4) (i := 119) rfl)
theorem zw888 : Cond.selects "DiodeLink$Version" ⟨"DiodeLink$Version", "readManifest", "()Z"⟩ ⟨"DiodeLink$Version", "readManifest", "()Z"⟩ ∈ lw_tbl := zin_4 _ (List.mem_of_getElem? (l := tables_1_4) (i := 120) rfl)
theorem zw889 : Cond.instanceMethod ⟨"DiodeLink$Version", "showFrom", "(LDiodeLink$Version;)V"⟩ ∈ lw_tbl := zin_5 _ (List.mem_of_getElem? (l := tables_1_5) (i := 37) rfl)
theorem zw890 : Cond.selects "DiodeLink$Version" ⟨"DiodeLink$Version", "showFrom", "(LDiodeLink$Version;)V"⟩ ⟨"DiodeLink$Version", "showFrom", "(LDiodeLink$Version;)V"⟩ ∈ lw_tbl := zin_5 _ (List.mem_of_getElem? (l := tables_1_5) (i := 38) rfl)
theorem zw891 : Cond.instanceMethod ⟨"DiodeLink$Version", "solve", "(II)V"⟩ ∈ lw_tbl := zin_4 _ (List.mem_of_getElem? (l := tables_1_4) (i := 83) rfl)
theorem zw892 : Cond.selects "DiodeLink$Version" ⟨"DiodeLink$Version", "solve", "(II)V"⟩ ⟨"DiodeLink$Version", "solve", "(II)V"⟩ ∈ lw_tbl := zin_4 _ (List.mem_of_getElem? (l := tables_1_4) (i := 84) rfl)
theorem zw893 : Cond.instanceMethod ⟨"DiodeLink$Version", "state", "()I"⟩ ∈ lw_tbl := zin_4 _ (List.mem_of_getElem? (l := tables_1_4) (i := 160) rfl)
theorem zw894 : Cond.selects "DiodeLink$Version" ⟨"DiodeLink$Version", "state", "()I"⟩ ⟨"DiodeLink$Version", "state", "()I"⟩ ∈ lw_tbl := zin_4 _ (List.mem_of_getElem? (l := tables_1_4) (i := 161) rfl)
theorem zw895 : Cond.static ⟨"DiodeLinkLaw", "alter", "(LDiodeLink;III)I"⟩ ∈ lw_tbl := zin_3 _ (List.mem_of_getElem? (l := tables_1_3) (i := 157) rfl)
theorem zw896 : Cond.initialized "DiodeLinkLaw" ∈ lw_tbl := zin_1 _ (List.mem_of_getElem? (l := tables_1_1) (i := 0) rfl)
theorem zw897 : Cond.static ⟨"DiodeLinkLaw", "commit", "(LDiodeLink;I[J)I"⟩ ∈ lw_tbl := zin_3 _ (List.mem_of_getElem? (l := tables_1_3) (i := 25) rfl)
theorem zw898 : Cond.static ⟨"DiodeLinkLaw", "count", "(LDiodeLink;I[J)I"⟩ ∈ lw_tbl := zin_5 _ (List.mem_of_getElem? (l := tables_1_5) (i := 114) rfl)
theorem zw899 : Cond.static ⟨"DiodeLinkLaw", "feed", "(LDiodeLink;ZJI[J)I"⟩ ∈ lw_tbl := zin_2 _ (List.mem_of_getElem? (l := tables_1_2) (i := 91) rfl)
theorem zw900 : Cond.static ⟨"DiodeLinkLaw", "file", "(LDiodeLink;IIIZ[J)I"⟩ ∈ lw_tbl := zin_5 _ (List.mem_of_getElem? (l := tables_1_5) (i := 54) rfl)
theorem zw901 : Cond.static ⟨"DiodeLinkLaw", "have", "(LDiodeLink;II[J)I"⟩ ∈ lw_tbl := zin_4 _ (List.mem_of_getElem? (l := tables_1_4) (i := 238) rfl)
theorem zw902 : Cond.static ⟨"DiodeLinkLaw", "hear", "(LDiodeLink;I[J)I"⟩ ∈ lw_tbl := zin_3 _ (List.mem_of_getElem? (l := tables_1_3) (i := 173) rfl)
theorem zw903 : Cond.static ⟨"DiodeLinkLaw", "journal", "(LDiodeLink;II[J)I"⟩ ∈ lw_tbl := zin_5 _ (List.mem_of_getElem? (l := tables_1_5) (i := 84) rfl)
theorem zw904 : Cond.static ⟨"DiodeLinkLaw", "packet", "(LDiodeLink;II[J)I"⟩ ∈ lw_tbl := zin_3 _ (List.mem_of_getElem? (l := tables_1_3) (i := 143) rfl)
theorem zw905 : Cond.static ⟨"DiodeLinkLaw", "rank", "(LDiodeLink;IIII[J)I"⟩ ∈ lw_tbl := zin_5 _ (List.mem_of_getElem? (l := tables_1_5) (i := 14) rfl)
theorem zw906 : Cond.static ⟨"DiodeLinkLaw", "release", "(LDiodeLink;I[J)I"⟩ ∈ lw_tbl := zin_5 _ (List.mem_of_getElem? (l := tables_1_5) (i := 26) rfl)
theorem zw907 : Cond.static ⟨"DiodeLinkLaw", "released", "(LDiodeLink;I[J)I"⟩ ∈ lw_tbl := zin_5 _ (List.mem_of_getElem? (l := tables_1_5) (i := 42) rfl)
theorem zw908 : Cond.static ⟨"DiodeLinkLaw", "remove", "(LDiodeLink;I[J)I"⟩ ∈ lw_tbl := zin_3 _ (List.mem_of_getElem? (l := tables_1_3) (i := 13) rfl)
theorem zw909 : Cond.static ⟨"DiodeLinkLaw", "restartSender", "(LDiodeLink;[J)I"⟩ ∈ lw_tbl := zin_4 _ (List.mem_of_getElem? (l := tables_1_4) (i := 207) rfl)
theorem zw910 : Cond.static ⟨"DiodeLinkLaw", "rule", "(LDiodeLink;IIZ)I"⟩ ∈ lw_tbl := zin_4 _ (List.mem_of_getElem? (l := tables_1_4) (i := 223) rfl)
theorem zw911 : Cond.static ⟨"DiodeLinkLaw", "send", "(LDiodeLink;[J)I"⟩ ∈ lw_tbl := zin_3 _ (List.mem_of_getElem? (l := tables_1_3) (i := 74) rfl)
theorem zw912 : Cond.static ⟨"DiodeLinkLaw", "touch", "(LDiodeLink;III)I"⟩ ∈ lw_tbl := zin_5 _ (List.mem_of_getElem? (l := tables_1_5) (i := 103) rfl)
theorem zw913 : Cond.static ⟨"DiodeLinkLaw", "write", "(LDiodeLink;I[J)I"⟩ ∈ lw_tbl := zin_2 _ (List.mem_of_getElem? (l := tables_1_2) (i := 193) rfl)
theorem zw914 : Cond.instanceMethod ⟨"DiodeLinkModel", "<init>", "()V"⟩ ∈ lw_tbl := zin_5 _ (List.mem_of_getElem? (l := tables_1_5) (i := 132) rfl)
theorem zw915 : Cond.instanceMethod ⟨"DiodeLinkModel", "alter", "(III)V"⟩ ∈ lw_tbl := zin_6 _ (List.mem_of_getElem? (l := tables_1_6) (i := 164) rfl)
theorem zw916 : Cond.selects "DiodeLinkModel" ⟨"DiodeLinkModel", "alter", "(III)V"⟩ ⟨"DiodeLinkModel", "alter", "(III)V"⟩ ∈ lw_tbl := zin_6 _ (List.mem_of_getElem? (l := tables_1_6) (i := 165) rfl)
theorem zw917 : Cond.instanceMethod ⟨"DiodeLinkModel", "anew", "()V"⟩ ∈ lw_tbl := zin_6 _ (List.mem_of_getElem? (l := tables_1_6) (i := 115) rfl)
theorem zw918 : Cond.selects "DiodeLinkModel" ⟨"DiodeLinkModel", "anew", "()V"⟩ ⟨"DiodeLinkModel", "anew", "()V"⟩ ∈ lw_tbl := zin_s _ (List.mem_of_getElem? (l := k2_sels lw_privs) (i := 43) rfl)
theorem zw919 : Cond.static ⟨"DiodeLinkModel", "begin", "()J"⟩ ∈ lw_tbl := zin_6 _ (List.mem_of_getElem? (l := tables_1_6) (i := 106) rfl)
theorem zw920 : Cond.static ⟨"DiodeLinkModel", "blocks", "(I)I"⟩ ∈ lw_tbl := zin_6 _ (List.mem_of_getElem? (l := tables_1_6) (i := 130) rfl)
theorem zw921 : Cond.instanceMethod ⟨"DiodeLinkModel", "borrows", "(II)Z"⟩ ∈ lw_tbl := zin_7 _ (List.mem_of_getElem? (l := tables_1_7) (i := 49) rfl)
theorem zw922 : Cond.selects "DiodeLinkModel" ⟨"DiodeLinkModel", "borrows", "(II)Z"⟩ ⟨"DiodeLinkModel", "borrows", "(II)Z"⟩ ∈ lw_tbl := zin_s _ (List.mem_of_getElem? (l := k2_sels lw_privs) (i := 78) rfl)
theorem zw923 : Cond.instanceMethod ⟨"DiodeLinkModel", "breaks", "(III)Z"⟩ ∈ lw_tbl := zin_7 _ (List.mem_of_getElem? (l := tables_1_7) (i := 69) rfl)
theorem zw924 : Cond.selects "DiodeLinkModel" ⟨"DiodeLinkModel", "breaks", "(III)Z"⟩ ⟨"DiodeLinkModel", "breaks", "(III)Z"⟩ ∈ lw_tbl := zin_s _ (List.mem_of_getElem? (l := k2_sels lw_privs) (i := 83) rfl)
theorem zw925 : Cond.instanceMethod ⟨"DiodeLinkModel", "byteOf", "(II)I"⟩ ∈ lw_tbl := zin_7 _ (List.mem_of_getElem? (l := tables_1_7) (i := 21) rfl)
theorem zw926 : Cond.selects "DiodeLinkModel" ⟨"DiodeLinkModel", "byteOf", "(II)I"⟩ ⟨"DiodeLinkModel", "byteOf", "(II)I"⟩ ∈ lw_tbl := zin_s _ (List.mem_of_getElem? (l := k2_sels lw_privs) (i := 71) rfl)
theorem zw927 : Cond.instanceMethod ⟨"DiodeLinkModel", "canBe", "(I)Z"⟩ ∈ lw_tbl := zin_6 _ (List.mem_of_getElem? (l := tables_1_6) (i := 189) rfl)
theorem zw928 : Cond.selects "DiodeLinkModel" ⟨"DiodeLinkModel", "canBe", "(I)Z"⟩ ⟨"DiodeLinkModel", "canBe", "(I)Z"⟩ ∈ lw_tbl := zin_s _ (List.mem_of_getElem? (l := k2_sels lw_privs) (i := 53) rfl)
theorem zw929 : Cond.instanceMethod ⟨"DiodeLinkModel", "clear", "(I)V"⟩ ∈ lw_tbl := zin_6 _ (List.mem_of_getElem? (l := tables_1_6) (i := 217) rfl)
theorem zw930 : Cond.selects "DiodeLinkModel" ⟨"DiodeLinkModel", "clear", "(I)V"⟩ ⟨"DiodeLinkModel", "clear", "(I)V"⟩ ∈ lw_tbl := zin_s _ (List.mem_of_getElem? (l := k2_sels lw_privs) (i := 60) rfl)
theorem zw931 : Cond.instanceMethod ⟨"DiodeLinkModel", "commit", "(I)I"⟩ ∈ lw_tbl := zin_6 _ (List.mem_of_getElem? (l := tables_1_6) (i := 94) rfl)
theorem zw932 : Cond.selects "DiodeLinkModel" ⟨"DiodeLinkModel", "commit", "(I)I"⟩ ⟨"DiodeLinkModel", "commit", "(I)I"⟩ ∈ lw_tbl := zin_6 _ (List.mem_of_getElem? (l := tables_1_6) (i := 95) rfl)
theorem zw933 : Cond.instanceMethod ⟨"DiodeLinkModel", "compare", "(II)V"⟩ ∈ lw_tbl := zin_7 _ (List.mem_of_getElem? (l := tables_1_7) (i := 17) rfl)
theorem zw934 : Cond.selects "DiodeLinkModel" ⟨"DiodeLinkModel", "compare", "(II)V"⟩ ⟨"DiodeLinkModel", "compare", "(II)V"⟩ ∈ lw_tbl := zin_s _ (List.mem_of_getElem? (l := k2_sels lw_privs) (i := 70) rfl)
theorem zw935 : Cond.instanceMethod ⟨"DiodeLinkModel", "completes", "(II)V"⟩ ∈ lw_tbl := zin_7 _ (List.mem_of_getElem? (l := tables_1_7) (i := 13) rfl)
theorem zw936 : Cond.selects "DiodeLinkModel" ⟨"DiodeLinkModel", "completes", "(II)V"⟩ ⟨"DiodeLinkModel", "completes", "(II)V"⟩ ∈ lw_tbl := zin_s _ (List.mem_of_getElem? (l := k2_sels lw_privs) (i := 69) rfl)
theorem zw937 : Cond.instanceMethod ⟨"DiodeLinkModel", "count", "(I)I"⟩ ∈ lw_tbl := zin_7 _ (List.mem_of_getElem? (l := tables_1_7) (i := 121) rfl)
theorem zw938 : Cond.selects "DiodeLinkModel" ⟨"DiodeLinkModel", "count", "(I)I"⟩ ⟨"DiodeLinkModel", "count", "(I)I"⟩ ∈ lw_tbl := zin_7 _ (List.mem_of_getElem? (l := tables_1_7) (i := 122) rfl)
theorem zw939 : Cond.instanceMethod ⟨"DiodeLinkModel", "drop", "(III)V"⟩ ∈ lw_tbl := zin_6 _ (List.mem_of_getElem? (l := tables_1_6) (i := 209) rfl)
theorem zw940 : Cond.selects "DiodeLinkModel" ⟨"DiodeLinkModel", "drop", "(III)V"⟩ ⟨"DiodeLinkModel", "drop", "(III)V"⟩ ∈ lw_tbl := zin_s _ (List.mem_of_getElem? (l := k2_sels lw_privs) (i := 58) rfl)
theorem zw941 : Cond.instanceMethod ⟨"DiodeLinkModel", "drops", "(I)I"⟩ ∈ lw_tbl := zin_6 _ (List.mem_of_getElem? (l := tables_1_6) (i := 185) rfl)
theorem zw942 : Cond.selects "DiodeLinkModel" ⟨"DiodeLinkModel", "drops", "(I)I"⟩ ⟨"DiodeLinkModel", "drops", "(I)I"⟩ ∈ lw_tbl := zin_s _ (List.mem_of_getElem? (l := k2_sels lw_privs) (i := 52) rfl)
theorem zw943 : Cond.instanceMethod ⟨"DiodeLinkModel", "eight", "(II)J"⟩ ∈ lw_tbl := zin_6 _ (List.mem_of_getElem? (l := tables_1_6) (i := 161) rfl)
theorem zw944 : Cond.selects "DiodeLinkModel" ⟨"DiodeLinkModel", "eight", "(II)J"⟩ ⟨"DiodeLinkModel", "eight", "(II)J"⟩ ∈ lw_tbl := zin_s _ (List.mem_of_getElem? (l := k2_sels lw_privs) (i := 50) rfl)
theorem zw945 : Cond.instanceMethod ⟨"DiodeLinkModel", "empty", "(I)V"⟩ ∈ lw_tbl := zin_6 _ (List.mem_of_getElem? (l := tables_1_6) (i := 201) rfl)
theorem zw946 : Cond.selects "DiodeLinkModel" ⟨"DiodeLinkModel", "empty", "(I)V"⟩ ⟨"DiodeLinkModel", "empty", "(I)V"⟩ ∈ lw_tbl := zin_s _ (List.mem_of_getElem? (l := k2_sels lw_privs) (i := 56) rfl)
theorem zw947 : Cond.instanceMethod ⟨"DiodeLinkModel", "fails", "(ZI)Z"⟩ ∈ lw_tbl := zin_6 _ (List.mem_of_getElem? (l := tables_1_6) (i := 62) rfl)
theorem zw948 : Cond.selects "DiodeLinkModel" ⟨"DiodeLinkModel", "fails", "(ZI)Z"⟩ ⟨"DiodeLinkModel", "fails", "(ZI)Z"⟩ ∈ lw_tbl := zin_s _ (List.mem_of_getElem? (l := k2_sels lw_privs) (i := 35) rfl)
theorem zw949 : Cond.instanceMethod ⟨"DiodeLinkModel", "feed", "(ZJI)I"⟩ ∈ lw_tbl := zin_6 _ (List.mem_of_getElem? (l := tables_1_6) (i := 54) rfl)
theorem zw950 : Cond.selects "DiodeLinkModel" ⟨"DiodeLinkModel", "feed", "(ZJI)I"⟩ ⟨"DiodeLinkModel", "feed", "(ZJI)I"⟩ ∈ lw_tbl := zin_6 _ (List.mem_of_getElem? (l := tables_1_6) (i := 55) rfl)
theorem zw951 : Cond.instanceMethod ⟨"DiodeLinkModel", "file", "(IIIZ)I"⟩ ∈ lw_tbl := zin_7 _ (List.mem_of_getElem? (l := tables_1_7) (i := 101) rfl)
theorem zw952 : Cond.selects "DiodeLinkModel" ⟨"DiodeLinkModel", "file", "(IIIZ)I"⟩ ⟨"DiodeLinkModel", "file", "(IIIZ)I"⟩ ∈ lw_tbl := zin_7 _ (List.mem_of_getElem? (l := tables_1_7) (i := 102) rfl)
theorem zw953 : Cond.instanceMethod ⟨"DiodeLinkModel", "forget", "(I)V"⟩ ∈ lw_tbl := zin_6 _ (List.mem_of_getElem? (l := tables_1_6) (i := 205) rfl)
theorem zw954 : Cond.selects "DiodeLinkModel" ⟨"DiodeLinkModel", "forget", "(I)V"⟩ ⟨"DiodeLinkModel", "forget", "(I)V"⟩ ∈ lw_tbl := zin_s _ (List.mem_of_getElem? (l := k2_sels lw_privs) (i := 57) rfl)
theorem zw955 : Cond.instanceMethod ⟨"DiodeLinkModel", "has", "(I)Z"⟩ ∈ lw_tbl := zin_6 _ (List.mem_of_getElem? (l := tables_1_6) (i := 157) rfl)
theorem zw956 : Cond.selects "DiodeLinkModel" ⟨"DiodeLinkModel", "has", "(I)Z"⟩ ⟨"DiodeLinkModel", "has", "(I)Z"⟩ ∈ lw_tbl := zin_s _ (List.mem_of_getElem? (l := k2_sels lw_privs) (i := 49) rfl)
theorem zw957 : Cond.instanceMethod ⟨"DiodeLinkModel", "hasRows", "(I)Z"⟩ ∈ lw_tbl := zin_6 _ (List.mem_of_getElem? (l := tables_1_6) (i := 233) rfl)
theorem zw958 : Cond.selects "DiodeLinkModel" ⟨"DiodeLinkModel", "hasRows", "(I)Z"⟩ ⟨"DiodeLinkModel", "hasRows", "(I)Z"⟩ ∈ lw_tbl := zin_s _ (List.mem_of_getElem? (l := k2_sels lw_privs) (i := 64) rfl)
theorem zw959 : Cond.instanceMethod ⟨"DiodeLinkModel", "hashOf", "(I)J"⟩ ∈ lw_tbl := zin_6 _ (List.mem_of_getElem? (l := tables_1_6) (i := 149) rfl)
theorem zw960 : Cond.selects "DiodeLinkModel" ⟨"DiodeLinkModel", "hashOf", "(I)J"⟩ ⟨"DiodeLinkModel", "hashOf", "(I)J"⟩ ∈ lw_tbl := zin_s _ (List.mem_of_getElem? (l := k2_sels lw_privs) (i := 48) rfl)
theorem zw961 : Cond.instanceMethod ⟨"DiodeLinkModel", "hashTold", "(II)J"⟩ ∈ lw_tbl := zin_7 _ (List.mem_of_getElem? (l := tables_1_7) (i := 33) rfl)
theorem zw962 : Cond.selects "DiodeLinkModel" ⟨"DiodeLinkModel", "hashTold", "(II)J"⟩ ⟨"DiodeLinkModel", "hashTold", "(II)J"⟩ ∈ lw_tbl := zin_s _ (List.mem_of_getElem? (l := k2_sels lw_privs) (i := 74) rfl)
theorem zw963 : Cond.instanceMethod ⟨"DiodeLinkModel", "have", "(II)I"⟩ ∈ lw_tbl := zin_7 _ (List.mem_of_getElem? (l := tables_1_7) (i := 76) rfl)
theorem zw964 : Cond.selects "DiodeLinkModel" ⟨"DiodeLinkModel", "have", "(II)I"⟩ ⟨"DiodeLinkModel", "have", "(II)I"⟩ ∈ lw_tbl := zin_7 _ (List.mem_of_getElem? (l := tables_1_7) (i := 77) rfl)
theorem zw965 : Cond.instanceMethod ⟨"DiodeLinkModel", "hear", "(I)I"⟩ ∈ lw_tbl := zin_6 _ (List.mem_of_getElem? (l := tables_1_6) (i := 180) rfl)
theorem zw966 : Cond.selects "DiodeLinkModel" ⟨"DiodeLinkModel", "hear", "(I)I"⟩ ⟨"DiodeLinkModel", "hear", "(I)I"⟩ ∈ lw_tbl := zin_6 _ (List.mem_of_getElem? (l := tables_1_6) (i := 181) rfl)
theorem zw967 : Cond.instanceMethod ⟨"DiodeLinkModel", "hears", "(II)I"⟩ ∈ lw_tbl := zin_6 _ (List.mem_of_getElem? (l := tables_1_6) (i := 193) rfl)
theorem zw968 : Cond.selects "DiodeLinkModel" ⟨"DiodeLinkModel", "hears", "(II)I"⟩ ⟨"DiodeLinkModel", "hears", "(II)I"⟩ ∈ lw_tbl := zin_s _ (List.mem_of_getElem? (l := k2_sels lw_privs) (i := 54) rfl)
theorem zw969 : Cond.static ⟨"DiodeLinkModel", "in", "(III)Z"⟩ ∈ lw_tbl := zin_6 _ (List.mem_of_getElem? (l := tables_1_6) (i := 58) rfl)
theorem zw970 : Cond.instanceMethod ⟨"DiodeLinkModel", "isBelow", "(III)Z"⟩ ∈ lw_tbl := zin_7 _ (List.mem_of_getElem? (l := tables_1_7) (i := 41) rfl)
theorem zw971 : Cond.selects "DiodeLinkModel" ⟨"DiodeLinkModel", "isBelow", "(III)Z"⟩ ⟨"DiodeLinkModel", "isBelow", "(III)Z"⟩ ∈ lw_tbl := zin_s _ (List.mem_of_getElem? (l := k2_sels lw_privs) (i := 76) rfl)
theorem zw972 : Cond.instanceMethod ⟨"DiodeLinkModel", "isComplete", "(I)Z"⟩ ∈ lw_tbl := zin_7 _ (List.mem_of_getElem? (l := tables_1_7) (i := 9) rfl)
theorem zw973 : Cond.selects "DiodeLinkModel" ⟨"DiodeLinkModel", "isComplete", "(I)Z"⟩ ⟨"DiodeLinkModel", "isComplete", "(I)Z"⟩ ∈ lw_tbl := zin_s _ (List.mem_of_getElem? (l := k2_sels lw_privs) (i := 68) rfl)
theorem zw974 : Cond.instanceMethod ⟨"DiodeLinkModel", "isKept", "(I)Z"⟩ ∈ lw_tbl := zin_7 _ (List.mem_of_getElem? (l := tables_1_7) (i := 110) rfl)
theorem zw975 : Cond.selects "DiodeLinkModel" ⟨"DiodeLinkModel", "isKept", "(I)Z"⟩ ⟨"DiodeLinkModel", "isKept", "(I)Z"⟩ ∈ lw_tbl := zin_s _ (List.mem_of_getElem? (l := k2_sels lw_privs) (i := 86) rfl)
theorem zw976 : Cond.instanceMethod ⟨"DiodeLinkModel", "isManifest", "(I)Z"⟩ ∈ lw_tbl := zin_7 _ (List.mem_of_getElem? (l := tables_1_7) (i := 37) rfl)
theorem zw977 : Cond.selects "DiodeLinkModel" ⟨"DiodeLinkModel", "isManifest", "(I)Z"⟩ ⟨"DiodeLinkModel", "isManifest", "(I)Z"⟩ ∈ lw_tbl := zin_s _ (List.mem_of_getElem? (l := k2_sels lw_privs) (i := 75) rfl)
theorem zw978 : Cond.instanceMethod ⟨"DiodeLinkModel", "isName", "()Z"⟩ ∈ lw_tbl := zin_6 _ (List.mem_of_getElem? (l := tables_1_6) (i := 71) rfl)
theorem zw979 : Cond.selects "DiodeLinkModel" ⟨"DiodeLinkModel", "isName", "()Z"⟩ ⟨"DiodeLinkModel", "isName", "()Z"⟩ ∈ lw_tbl := zin_s _ (List.mem_of_getElem? (l := k2_sels lw_privs) (i := 36) rfl)
theorem zw980 : Cond.instanceMethod ⟨"DiodeLinkModel", "isSound", "()Z"⟩ ∈ lw_tbl := zin_7 _ (List.mem_of_getElem? (l := tables_1_7) (i := 117) rfl)
theorem zw981 : Cond.selects "DiodeLinkModel" ⟨"DiodeLinkModel", "isSound", "()Z"⟩ ⟨"DiodeLinkModel", "isSound", "()Z"⟩ ∈ lw_tbl := zin_7 _ (List.mem_of_getElem? (l := tables_1_7) (i := 118) rfl)
theorem zw982 : Cond.instanceMethod ⟨"DiodeLinkModel", "isThere", "(II)Z"⟩ ∈ lw_tbl := zin_6 _ (List.mem_of_getElem? (l := tables_1_6) (i := 83) rfl)
theorem zw983 : Cond.selects "DiodeLinkModel" ⟨"DiodeLinkModel", "isThere", "(II)Z"⟩ ⟨"DiodeLinkModel", "isThere", "(II)Z"⟩ ∈ lw_tbl := zin_s _ (List.mem_of_getElem? (l := k2_sels lw_privs) (i := 39) rfl)
theorem zw984 : Cond.instanceMethod ⟨"DiodeLinkModel", "journal", "(II)J"⟩ ∈ lw_tbl := zin_7 _ (List.mem_of_getElem? (l := tables_1_7) (i := 105) rfl)
theorem zw985 : Cond.selects "DiodeLinkModel" ⟨"DiodeLinkModel", "journal", "(II)J"⟩ ⟨"DiodeLinkModel", "journal", "(II)J"⟩ ∈ lw_tbl := zin_7 _ (List.mem_of_getElem? (l := tables_1_7) (i := 106) rfl)
theorem zw986 : Cond.instanceMethod ⟨"DiodeLinkModel", "judge", "(I)V"⟩ ∈ lw_tbl := zin_7 _ (List.mem_of_getElem? (l := tables_1_7) (i := 53) rfl)
theorem zw987 : Cond.selects "DiodeLinkModel" ⟨"DiodeLinkModel", "judge", "(I)V"⟩ ⟨"DiodeLinkModel", "judge", "(I)V"⟩ ∈ lw_tbl := zin_s _ (List.mem_of_getElem? (l := k2_sels lw_privs) (i := 79) rfl)
theorem zw988 : Cond.instanceMethod ⟨"DiodeLinkModel", "keep", "(II)V"⟩ ∈ lw_tbl := zin_7 _ (List.mem_of_getElem? (l := tables_1_7) (i := 94) rfl)
theorem zw989 : Cond.selects "DiodeLinkModel" ⟨"DiodeLinkModel", "keep", "(II)V"⟩ ⟨"DiodeLinkModel", "keep", "(II)V"⟩ ∈ lw_tbl := zin_s _ (List.mem_of_getElem? (l := k2_sels lw_privs) (i := 85) rfl)
theorem zw990 : Cond.instanceMethod ⟨"DiodeLinkModel", "lay", "(IIJI)V"⟩ ∈ lw_tbl := zin_6 _ (List.mem_of_getElem? (l := tables_1_6) (i := 145) rfl)
theorem zw991 : Cond.selects "DiodeLinkModel" ⟨"DiodeLinkModel", "lay", "(IIJI)V"⟩ ⟨"DiodeLinkModel", "lay", "(IIJI)V"⟩ ∈ lw_tbl := zin_s _ (List.mem_of_getElem? (l := k2_sels lw_privs) (i := 47) rfl)
theorem zw992 : Cond.instanceMethod ⟨"DiodeLinkModel", "linked", "(JI)J"⟩ ∈ lw_tbl := zin_7 _ (List.mem_of_getElem? (l := tables_1_7) (i := 65) rfl)
theorem zw993 : Cond.selects "DiodeLinkModel" ⟨"DiodeLinkModel", "linked", "(JI)J"⟩ ⟨"DiodeLinkModel", "linked", "(JI)J"⟩ ∈ lw_tbl := zin_s _ (List.mem_of_getElem? (l := k2_sels lw_privs) (i := 82) rfl)
theorem zw994 : Cond.instanceMethod ⟨"DiodeLinkModel", "look", "(II)I"⟩ ∈ lw_tbl := zin_6 _ (List.mem_of_getElem? (l := tables_1_6) (i := 123) rfl)
theorem zw995 : Cond.selects "DiodeLinkModel" ⟨"DiodeLinkModel", "look", "(II)I"⟩ ⟨"DiodeLinkModel", "look", "(II)I"⟩ ∈ lw_tbl := zin_s _ (List.mem_of_getElem? (l := k2_sels lw_privs) (i := 44) rfl)
theorem zw996 : Cond.instanceMethod ⟨"DiodeLinkModel", "manifest", "(III)V"⟩ ∈ lw_tbl := zin_6 _ (List.mem_of_getElem? (l := tables_1_6) (i := 99) rfl)
theorem zw997 : Cond.selects "DiodeLinkModel" ⟨"DiodeLinkModel", "manifest", "(III)V"⟩ ⟨"DiodeLinkModel", "manifest", "(III)V"⟩ ∈ lw_tbl := zin_s _ (List.mem_of_getElem? (l := k2_sels lw_privs) (i := 41) rfl)
theorem zw998 : Cond.static ⟨"DiodeLinkModel", "mask", "(IIIII)I"⟩ ∈ lw_tbl := zin_6 _ (List.mem_of_getElem? (l := tables_1_6) (i := 136) rfl)
theorem zw999 : Cond.static ⟨"DiodeLinkModel", "more", "(JI)J"⟩ ∈ lw_tbl := zin_6 _ (List.mem_of_getElem? (l := tables_1_6) (i := 110) rfl)
theorem zw1000 : Cond.instanceMethod ⟨"DiodeLinkModel", "move", "(II)V"⟩ ∈ lw_tbl := zin_6 _ (List.mem_of_getElem? (l := tables_1_6) (i := 87) rfl)
theorem zw1001 : Cond.selects "DiodeLinkModel" ⟨"DiodeLinkModel", "move", "(II)V"⟩ ⟨"DiodeLinkModel", "move", "(II)V"⟩ ∈ lw_tbl := zin_s _ (List.mem_of_getElem? (l := k2_sels lw_privs) (i := 40) rfl)
theorem zw1002 : Cond.instanceMethod ⟨"DiodeLinkModel", "note", "(IIII)V"⟩ ∈ lw_tbl := zin_7 _ (List.mem_of_getElem? (l := tables_1_7) (i := 61) rfl)
theorem zw1003 : Cond.selects "DiodeLinkModel" ⟨"DiodeLinkModel", "note", "(IIII)V"⟩ ⟨"DiodeLinkModel", "note", "(IIII)V"⟩ ∈ lw_tbl := zin_s _ (List.mem_of_getElem? (l := k2_sels lw_privs) (i := 81) rfl)
theorem zw1004 : Cond.instanceMethod ⟨"DiodeLinkModel", "order", "(I)I"⟩ ∈ lw_tbl := zin_6 _ (List.mem_of_getElem? (l := tables_1_6) (i := 79) rfl)
theorem zw1005 : Cond.selects "DiodeLinkModel" ⟨"DiodeLinkModel", "order", "(I)I"⟩ ⟨"DiodeLinkModel", "order", "(I)I"⟩ ∈ lw_tbl := zin_s _ (List.mem_of_getElem? (l := k2_sels lw_privs) (i := 38) rfl)
theorem zw1006 : Cond.instanceMethod ⟨"DiodeLinkModel", "packet", "(II)J"⟩ ∈ lw_tbl := zin_6 _ (List.mem_of_getElem? (l := tables_1_6) (i := 152) rfl)
theorem zw1007 : Cond.selects "DiodeLinkModel" ⟨"DiodeLinkModel", "packet", "(II)J"⟩ ⟨"DiodeLinkModel", "packet", "(II)J"⟩ ∈ lw_tbl := zin_6 _ (List.mem_of_getElem? (l := tables_1_6) (i := 153) rfl)
theorem zw1008 : Cond.instanceMethod ⟨"DiodeLinkModel", "piece", "(III)J"⟩ ∈ lw_tbl := zin_6 _ (List.mem_of_getElem? (l := tables_1_6) (i := 141) rfl)
theorem zw1009 : Cond.selects "DiodeLinkModel" ⟨"DiodeLinkModel", "piece", "(III)J"⟩ ⟨"DiodeLinkModel", "piece", "(III)J"⟩ ∈ lw_tbl := zin_s _ (List.mem_of_getElem? (l := k2_sels lw_privs) (i := 46) rfl)
theorem zw1010 : Cond.static ⟨"DiodeLinkModel", "pieces", "(II)I"⟩ ∈ lw_tbl := zin_6 _ (List.mem_of_getElem? (l := tables_1_6) (i := 133) rfl)
theorem zw1011 : Cond.instanceMethod ⟨"DiodeLinkModel", "place", "(I)I"⟩ ∈ lw_tbl := zin_6 _ (List.mem_of_getElem? (l := tables_1_6) (i := 75) rfl)
theorem zw1012 : Cond.selects "DiodeLinkModel" ⟨"DiodeLinkModel", "place", "(I)I"⟩ ⟨"DiodeLinkModel", "place", "(I)I"⟩ ∈ lw_tbl := zin_s _ (List.mem_of_getElem? (l := k2_sels lw_privs) (i := 37) rfl)
theorem zw1013 : Cond.instanceMethod ⟨"DiodeLinkModel", "placeOf", "(II)I"⟩ ∈ lw_tbl := zin_6 _ (List.mem_of_getElem? (l := tables_1_6) (i := 197) rfl)
theorem zw1014 : Cond.selects "DiodeLinkModel" ⟨"DiodeLinkModel", "placeOf", "(II)I"⟩ ⟨"DiodeLinkModel", "placeOf", "(II)I"⟩ ∈ lw_tbl := zin_s _ (List.mem_of_getElem? (l := k2_sels lw_privs) (i := 55) rfl)
theorem zw1015 : Cond.instanceMethod ⟨"DiodeLinkModel", "rank", "(IIII)I"⟩ ∈ lw_tbl := zin_7 _ (List.mem_of_getElem? (l := tables_1_7) (i := 85) rfl)
theorem zw1016 : Cond.selects "DiodeLinkModel" ⟨"DiodeLinkModel", "rank", "(IIII)I"⟩ ⟨"DiodeLinkModel", "rank", "(IIII)I"⟩ ∈ lw_tbl := zin_7 _ (List.mem_of_getElem? (l := tables_1_7) (i := 86) rfl)
theorem zw1017 : Cond.instanceMethod ⟨"DiodeLinkModel", "reject", "(III)V"⟩ ∈ lw_tbl := zin_7 _ (List.mem_of_getElem? (l := tables_1_7) (i := 57) rfl)
theorem zw1018 : Cond.selects "DiodeLinkModel" ⟨"DiodeLinkModel", "reject", "(III)V"⟩ ⟨"DiodeLinkModel", "reject", "(III)V"⟩ ∈ lw_tbl := zin_s _ (List.mem_of_getElem? (l := k2_sels lw_privs) (i := 80) rfl)
theorem zw1019 : Cond.instanceMethod ⟨"DiodeLinkModel", "release", "(I)I"⟩ ∈ lw_tbl := zin_7 _ (List.mem_of_getElem? (l := tables_1_7) (i := 89) rfl)
theorem zw1020 : Cond.selects "DiodeLinkModel" ⟨"DiodeLinkModel", "release", "(I)I"⟩ ⟨"DiodeLinkModel", "release", "(I)I"⟩ ∈ lw_tbl := zin_7 _ (List.mem_of_getElem? (l := tables_1_7) (i := 90) rfl)
theorem zw1021 : Cond.instanceMethod ⟨"DiodeLinkModel", "released", "(I)I"⟩ ∈ lw_tbl := zin_7 _ (List.mem_of_getElem? (l := tables_1_7) (i := 97) rfl)
theorem zw1022 : Cond.selects "DiodeLinkModel" ⟨"DiodeLinkModel", "released", "(I)I"⟩ ⟨"DiodeLinkModel", "released", "(I)I"⟩ ∈ lw_tbl := zin_7 _ (List.mem_of_getElem? (l := tables_1_7) (i := 98) rfl)
theorem zw1023 : Cond.instanceMethod ⟨"DiodeLinkModel", "remove", "(I)Z"⟩ ∈ lw_tbl := zin_6 _ (List.mem_of_getElem? (l := tables_1_6) (i := 90) rfl)
theorem zw1024 : Cond.selects "DiodeLinkModel" ⟨"DiodeLinkModel", "remove", "(I)Z"⟩ ⟨"DiodeLinkModel", "remove", "(I)Z"⟩ ∈ lw_tbl := zin_6 _ (List.mem_of_getElem? (l := tables_1_6) (i := 91) rfl)
theorem zw1025 : Cond.instanceMethod ⟨"DiodeLinkModel", "restartReceiver", "()V"⟩ ∈ lw_tbl := zin_6 _ (List.mem_of_getElem? (l := tables_1_6) (i := 172) rfl)
theorem zw1026 : Cond.selects "DiodeLinkModel" ⟨"DiodeLinkModel", "restartReceiver", "()V"⟩ ⟨"DiodeLinkModel", "restartReceiver", "()V"⟩ ∈ lw_tbl := zin_6 _ (List.mem_of_getElem? (l := tables_1_6) (i := 173) rfl)
theorem zw1027 : Cond.instanceMethod ⟨"DiodeLinkModel", "restartSender", "()I"⟩ ∈ lw_tbl := zin_6 _ (List.mem_of_getElem? (l := tables_1_6) (i := 168) rfl)
theorem zw1028 : Cond.selects "DiodeLinkModel" ⟨"DiodeLinkModel", "restartSender", "()I"⟩ ⟨"DiodeLinkModel", "restartSender", "()I"⟩ ∈ lw_tbl := zin_6 _ (List.mem_of_getElem? (l := tables_1_6) (i := 169) rfl)
theorem zw1029 : Cond.instanceMethod ⟨"DiodeLinkModel", "room", "()Z"⟩ ∈ lw_tbl := zin_6 _ (List.mem_of_getElem? (l := tables_1_6) (i := 229) rfl)
theorem zw1030 : Cond.selects "DiodeLinkModel" ⟨"DiodeLinkModel", "room", "()Z"⟩ ⟨"DiodeLinkModel", "room", "()Z"⟩ ∈ lw_tbl := zin_s _ (List.mem_of_getElem? (l := k2_sels lw_privs) (i := 63) rfl)
theorem zw1031 : Cond.instanceMethod ⟨"DiodeLinkModel", "rowsOf", "(II)I"⟩ ∈ lw_tbl := zin_6 _ (List.mem_of_getElem? (l := tables_1_6) (i := 237) rfl)
theorem zw1032 : Cond.selects "DiodeLinkModel" ⟨"DiodeLinkModel", "rowsOf", "(II)I"⟩ ⟨"DiodeLinkModel", "rowsOf", "(II)I"⟩ ∈ lw_tbl := zin_s _ (List.mem_of_getElem? (l := k2_sels lw_privs) (i := 65) rfl)
theorem zw1033 : Cond.instanceMethod ⟨"DiodeLinkModel", "rule", "(IIZ)V"⟩ ∈ lw_tbl := zin_7 _ (List.mem_of_getElem? (l := tables_1_7) (i := 72) rfl)
theorem zw1034 : Cond.selects "DiodeLinkModel" ⟨"DiodeLinkModel", "rule", "(IIZ)V"⟩ ⟨"DiodeLinkModel", "rule", "(IIZ)V"⟩ ∈ lw_tbl := zin_7 _ (List.mem_of_getElem? (l := tables_1_7) (i := 73) rfl)
theorem zw1035 : Cond.instanceMethod ⟨"DiodeLinkModel", "send", "()I"⟩ ∈ lw_tbl := zin_6 _ (List.mem_of_getElem? (l := tables_1_6) (i := 118) rfl)
theorem zw1036 : Cond.selects "DiodeLinkModel" ⟨"DiodeLinkModel", "send", "()I"⟩ ⟨"DiodeLinkModel", "send", "()I"⟩ ∈ lw_tbl := zin_6 _ (List.mem_of_getElem? (l := tables_1_6) (i := 119) rfl)
theorem zw1037 : Cond.instanceMethod ⟨"DiodeLinkModel", "share", "(I)V"⟩ ∈ lw_tbl := zin_7 _ (List.mem_of_getElem? (l := tables_1_7) (i := 45) rfl)
theorem zw1038 : Cond.selects "DiodeLinkModel" ⟨"DiodeLinkModel", "share", "(I)V"⟩ ⟨"DiodeLinkModel", "share", "(I)V"⟩ ∈ lw_tbl := zin_s _ (List.mem_of_getElem? (l := k2_sels lw_privs) (i := 77) rfl)
theorem zw1039 : Cond.instanceMethod ⟨"DiodeLinkModel", "shift", "(I)V"⟩ ∈ lw_tbl := zin_6 _ (List.mem_of_getElem? (l := tables_1_6) (i := 213) rfl)
theorem zw1040 : Cond.selects "DiodeLinkModel" ⟨"DiodeLinkModel", "shift", "(I)V"⟩ ⟨"DiodeLinkModel", "shift", "(I)V"⟩ ∈ lw_tbl := zin_s _ (List.mem_of_getElem? (l := k2_sels lw_privs) (i := 59) rfl)
theorem zw1041 : Cond.instanceMethod ⟨"DiodeLinkModel", "sizeTold", "(II)I"⟩ ∈ lw_tbl := zin_7 _ (List.mem_of_getElem? (l := tables_1_7) (i := 25) rfl)
theorem zw1042 : Cond.selects "DiodeLinkModel" ⟨"DiodeLinkModel", "sizeTold", "(II)I"⟩ ⟨"DiodeLinkModel", "sizeTold", "(II)I"⟩ ∈ lw_tbl := zin_s _ (List.mem_of_getElem? (l := k2_sels lw_privs) (i := 72) rfl)
theorem zw1043 : Cond.instanceMethod ⟨"DiodeLinkModel", "solve", "(III)V"⟩ ∈ lw_tbl := zin_7 _ (List.mem_of_getElem? (l := tables_1_7) (i := 1) rfl)
theorem zw1044 : Cond.selects "DiodeLinkModel" ⟨"DiodeLinkModel", "solve", "(III)V"⟩ ⟨"DiodeLinkModel", "solve", "(III)V"⟩ ∈ lw_tbl := zin_s _ (List.mem_of_getElem? (l := k2_sels lw_privs) (i := 66) rfl)
theorem zw1045 : Cond.instanceMethod ⟨"DiodeLinkModel", "sum", "(III)I"⟩ ∈ lw_tbl := zin_6 _ (List.mem_of_getElem? (l := tables_1_6) (i := 225) rfl)
theorem zw1046 : Cond.selects "DiodeLinkModel" ⟨"DiodeLinkModel", "sum", "(III)I"⟩ ⟨"DiodeLinkModel", "sum", "(III)I"⟩ ∈ lw_tbl := zin_s _ (List.mem_of_getElem? (l := k2_sels lw_privs) (i := 62) rfl)
theorem zw1047 : Cond.instanceMethod ⟨"DiodeLinkModel", "takes", "(IIII)I"⟩ ∈ lw_tbl := zin_6 _ (List.mem_of_getElem? (l := tables_1_6) (i := 221) rfl)
theorem zw1048 : Cond.selects "DiodeLinkModel" ⟨"DiodeLinkModel", "takes", "(IIII)I"⟩ ⟨"DiodeLinkModel", "takes", "(IIII)I"⟩ ∈ lw_tbl := zin_s _ (List.mem_of_getElem? (l := k2_sels lw_privs) (i := 61) rfl)
theorem zw1049 : Cond.instanceMethod ⟨"DiodeLinkModel", "tells", "(II)I"⟩ ∈ lw_tbl := zin_7 _ (List.mem_of_getElem? (l := tables_1_7) (i := 29) rfl)
theorem zw1050 : Cond.selects "DiodeLinkModel" ⟨"DiodeLinkModel", "tells", "(II)I"⟩ ⟨"DiodeLinkModel", "tells", "(II)I"⟩ ∈ lw_tbl := zin_s _ (List.mem_of_getElem? (l := k2_sels lw_privs) (i := 73) rfl)
theorem zw1051 : Cond.instanceMethod ⟨"DiodeLinkModel", "thrown", "()I"⟩ ∈ lw_tbl := zin_6 _ (List.mem_of_getElem? (l := tables_1_6) (i := 50) rfl)
theorem zw1052 : Cond.selects "DiodeLinkModel" ⟨"DiodeLinkModel", "thrown", "()I"⟩ ⟨"DiodeLinkModel", "thrown", "()I"⟩ ∈ lw_tbl := zin_6 _ (List.mem_of_getElem? (l := tables_1_6) (i := 51) rfl)
theorem zw1053 : Cond.instanceMethod ⟨"DiodeLinkModel", "together", "(III)J"⟩ ∈ lw_tbl := zin_7 _ (List.mem_of_getElem? (l := tables_1_7) (i := 5) rfl)
theorem zw1054 : Cond.selects "DiodeLinkModel" ⟨"DiodeLinkModel", "together", "(III)J"⟩ ⟨"DiodeLinkModel", "together", "(III)J"⟩ ∈ lw_tbl := zin_s _ (List.mem_of_getElem? (l := k2_sels lw_privs) (i := 67) rfl)
theorem zw1055 : Cond.instanceMethod ⟨"DiodeLinkModel", "told", "(III)I"⟩ ∈ lw_tbl := zin_6 _ (List.mem_of_getElem? (l := tables_1_6) (i := 103) rfl)
theorem zw1056 : Cond.selects "DiodeLinkModel" ⟨"DiodeLinkModel", "told", "(III)I"⟩ ⟨"DiodeLinkModel", "told", "(III)I"⟩ ∈ lw_tbl := zin_s _ (List.mem_of_getElem? (l := k2_sels lw_privs) (i := 42) rfl)
theorem zw1057 : Cond.instanceMethod ⟨"DiodeLinkModel", "touch", "(III)V"⟩ ∈ lw_tbl := zin_7 _ (List.mem_of_getElem? (l := tables_1_7) (i := 113) rfl)
theorem zw1058 : Cond.selects "DiodeLinkModel" ⟨"DiodeLinkModel", "touch", "(III)V"⟩ ⟨"DiodeLinkModel", "touch", "(III)V"⟩ ∈ lw_tbl := zin_7 _ (List.mem_of_getElem? (l := tables_1_7) (i := 114) rfl)
theorem zw1059 : Cond.instanceMethod ⟨"DiodeLinkModel", "unsize", "()V"⟩ ∈ lw_tbl := zin_6 _ (List.mem_of_getElem? (l := tables_1_6) (i := 177) rfl)
theorem zw1060 : Cond.selects "DiodeLinkModel" ⟨"DiodeLinkModel", "unsize", "()V"⟩ ⟨"DiodeLinkModel", "unsize", "()V"⟩ ∈ lw_tbl := zin_s _ (List.mem_of_getElem? (l := k2_sels lw_privs) (i := 51) rfl)
theorem zw1061 : Cond.instanceMethod ⟨"DiodeLinkModel", "wasReleased", "(II)Z"⟩ ∈ lw_tbl := zin_7 _ (List.mem_of_getElem? (l := tables_1_7) (i := 82) rfl)
theorem zw1062 : Cond.selects "DiodeLinkModel" ⟨"DiodeLinkModel", "wasReleased", "(II)Z"⟩ ⟨"DiodeLinkModel", "wasReleased", "(II)Z"⟩ ∈ lw_tbl := zin_s _ (List.mem_of_getElem? (l := k2_sels lw_privs) (i := 84) rfl)
theorem zw1063 : Cond.instanceMethod ⟨"DiodeLinkModel", "within", "(III)I"⟩ ∈ lw_tbl := zin_6 _ (List.mem_of_getElem? (l := tables_1_6) (i := 127) rfl)
theorem zw1064 : Cond.selects "DiodeLinkModel" ⟨"DiodeLinkModel", "within", "(III)I"⟩ ⟨"DiodeLinkModel", "within", "(III)I"⟩ ∈ lw_tbl := zin_s _ (List.mem_of_getElem? (l := k2_sels lw_privs) (i := 45) rfl)
theorem zw1065 : Cond.instanceMethod ⟨"DiodeLinkModel", "write", "(I)I"⟩ ∈ lw_tbl := zin_6 _ (List.mem_of_getElem? (l := tables_1_6) (i := 66) rfl)
theorem zw1066 : Cond.selects "DiodeLinkModel" ⟨"DiodeLinkModel", "write", "(I)I"⟩ ⟨"DiodeLinkModel", "write", "(I)I"⟩ ∈ lw_tbl := zin_6 _ (List.mem_of_getElem? (l := tables_1_6) (i := 67) rfl)
theorem zw1067 : Cond.static ⟨"java/lang/Math", "floorMod", "(II)I"⟩ ∈ lw_tbl := zin_3 _ (List.mem_of_getElem? (l := tables_1_3) (i := 81) rfl)
theorem zw1068 : Cond.methodLink "DiodeLink" 77 ⟨"java/lang/IllegalStateException", "<init>", "(Ljava/lang/String;)V"⟩ ∈ lw_tbl := zin_2 _ (List.mem_of_getElem? (l := tables_1_2) (i := 185) rfl)
theorem zw1069 : Cond.methodLink "DiodeLink" 203 ⟨"java/lang/IndexOutOfBoundsException", "<init>", "(Ljava/lang/String;)V"⟩ ∈ lw_tbl := zin_5 _ (List.mem_of_getElem? (l := tables_1_5) (i := 72) rfl)
theorem zw1070 : Cond.methodLink "DiodeLink" 63 ⟨"java/lang/IllegalArgumentException", "<init>", "(Ljava/lang/String;)V"⟩ ∈ lw_tbl := zin_2 _ (List.mem_of_getElem? (l := tables_1_2) (i := 141) rfl)
theorem zw1071 : Cond.arrayOver (.object "DiodeLink$Folder") ∈ lw_tbl := zin_1 _ (List.mem_of_getElem? (l := tables_1_1) (i := 50) rfl)
theorem zw1072 : Cond.arrayOver (.object "DiodeLink$Bytes") ∈ lw_tbl := zin_1 _ (List.mem_of_getElem? (l := tables_1_1) (i := 57) rfl)
theorem zw1073 : Cond.arrayOver (.object "DiodeLink$Edition") ∈ lw_tbl := zin_1 _ (List.mem_of_getElem? (l := tables_1_1) (i := 59) rfl)
theorem zw1074 : Cond.methodLinkNest "DiodeLink" 34 ⟨"DiodeLink$Rules", "<init>", "()V"⟩ "DiodeLink" ∈ lw_tbl := zin_1 _ (List.mem_of_getElem? (l := tables_1_1) (i := 109) rfl)
theorem zw1075 : Cond.methodLinkNest "DiodeLink" 41 ⟨"DiodeLink$Journal", "<init>", "()V"⟩ "DiodeLink" ∈ lw_tbl := zin_1 _ (List.mem_of_getElem? (l := tables_1_1) (i := 129) rfl)
theorem zw1076 : Cond.arrayOver (.object "DiodeLink$Version") ∈ lw_tbl := zin_1 _ (List.mem_of_getElem? (l := tables_1_1) (i := 162) rfl)
theorem zw1077 : Cond.methodLinkNest "DiodeLink$Receiver" 22 ⟨"DiodeLink$Rows", "<init>", "()V"⟩ "DiodeLink" ∈ lw_tbl := zin_1 _ (List.mem_of_getElem? (l := tables_1_1) (i := 165) rfl)
theorem zw1078 : Cond.castable "java/lang/IllegalArgumentException" "java/lang/IllegalArgumentException" ∈ lw_tbl := zin_2 _ (List.mem_of_getElem? (l := tables_1_2) (i := 101) rfl)
theorem zw1079 : Cond.declares ⟨"java/lang/RuntimeException", "<init>", "()V"⟩ ∈ lw_tbl := zin_2 _ (List.mem_of_getElem? (l := tables_1_2) (i := 102) rfl)
theorem zw1080 : Cond.declares ⟨"java/lang/RuntimeException", "<init>", "(Ljava/lang/String;)V"⟩ ∈ lw_tbl := zin_2 _ (List.mem_of_getElem? (l := tables_1_2) (i := 103) rfl)
theorem zw1081 : Cond.declares ⟨"java/lang/Exception", "<init>", "()V"⟩ ∈ lw_tbl := zin_2 _ (List.mem_of_getElem? (l := tables_1_2) (i := 104) rfl)
theorem zw1082 : Cond.declares ⟨"java/lang/Exception", "<init>", "(Ljava/lang/String;)V"⟩ ∈ lw_tbl := zin_2 _ (List.mem_of_getElem? (l := tables_1_2) (i := 105) rfl)
theorem zw1083 : Cond.declares ⟨"java/lang/Throwable", "<init>", "()V"⟩ ∈ lw_tbl := zin_2 _ (List.mem_of_getElem? (l := tables_1_2) (i := 106) rfl)
theorem zw1084 : Cond.declares ⟨"java/lang/Throwable", "<init>", "(Ljava/lang/String;)V"⟩ ∈ lw_tbl := zin_2 _ (List.mem_of_getElem? (l := tables_1_2) (i := 107) rfl)
theorem zw1085 : Cond.castable "java/lang/IllegalStateException" "java/lang/IllegalStateException" ∈ lw_tbl := zin_2 _ (List.mem_of_getElem? (l := tables_1_2) (i := 177) rfl)
theorem zw1086 : Cond.castable "java/lang/IndexOutOfBoundsException" "java/lang/IndexOutOfBoundsException" ∈ lw_tbl := zin_5 _ (List.mem_of_getElem? (l := tables_1_5) (i := 64) rfl)
theorem zw1087 : Cond.code ⟨"DiodeLink", "<init>", "()V"⟩ prog_1_method_1_code 2 (none) ∈ lw_tbl := zin_1 _ (List.mem_of_getElem? (l := tables_1_1) (i := 25) rfl)
theorem zw1088 : Cond.code ⟨"DiodeLink", "alter", "(III)V"⟩ prog_1_method_8_code 4 (none) ∈ lw_tbl := zin_3 _ (List.mem_of_getElem? (l := tables_1_3) (i := 162) rfl)
theorem zw1089 : Cond.code ⟨"DiodeLink", "checkFolder", "(I)V"⟩ prog_1_method_23_code 1 (none) ∈ lw_tbl := zin_3 _ (List.mem_of_getElem? (l := tables_1_3) (i := 33) rfl)
theorem zw1090 : Cond.code ⟨"DiodeLink", "checkSlot", "(I)V"⟩ prog_1_method_25_code 2 (none) ∈ lw_tbl := zin_3 _ (List.mem_of_getElem? (l := tables_1_3) (i := 152) rfl)
theorem zw1091 : Cond.code ⟨"DiodeLink", "checkVersion", "(II)V"⟩ prog_1_method_24_code 2 (none) ∈ lw_tbl := zin_5 _ (List.mem_of_getElem? (l := tables_1_5) (i := 6) rfl)
theorem zw1092 : Cond.code ⟨"DiodeLink", "commit", "(I)I"⟩ prog_1_method_5_code 3 (some .int) ∈ lw_tbl := zin_3 _ (List.mem_of_getElem? (l := tables_1_3) (i := 30) rfl)
theorem zw1093 : Cond.code ⟨"DiodeLink", "count", "(I)I"⟩ prog_1_method_21_code 2 (some .int) ∈ lw_tbl := zin_5 _ (List.mem_of_getElem? (l := tables_1_5) (i := 119) rfl)
theorem zw1094 : Cond.code ⟨"DiodeLink", "feed", "(ZJI)I"⟩ prog_1_method_2_code 6 (some .int) ∈ lw_tbl := zin_2 _ (List.mem_of_getElem? (l := tables_1_2) (i := 98) rfl)
theorem zw1095 : Cond.code ⟨"DiodeLink", "file", "(IIIZ)I"⟩ prog_1_method_17_code 7 (some .int) ∈ lw_tbl := zin_5 _ (List.mem_of_getElem? (l := tables_1_5) (i := 60) rfl)
theorem zw1096 : Cond.code ⟨"DiodeLink", "have", "(II)I"⟩ prog_1_method_13_code 3 (some .int) ∈ lw_tbl := zin_5 _ (List.mem_of_getElem? (l := tables_1_5) (i := 3) rfl)
theorem zw1097 : Cond.code ⟨"DiodeLink", "hear", "(I)I"⟩ prog_1_method_9_code 2 (some .int) ∈ lw_tbl := zin_3 _ (List.mem_of_getElem? (l := tables_1_3) (i := 178) rfl)
theorem zw1098 : Cond.code ⟨"DiodeLink", "isFolder", "(I)Z"⟩ prog_1_method_22_code 1 (some .boolean) ∈ lw_tbl := zin_2 _ (List.mem_of_getElem? (l := tables_1_2) (i := 201) rfl)
theorem zw1099 : Cond.code ⟨"DiodeLink", "isSound", "()Z"⟩ prog_1_method_20_code 1 (some .boolean) ∈ lw_tbl := zin_2 _ (List.mem_of_getElem? (l := tables_1_2) (i := 45) rfl)
theorem zw1100 : Cond.code ⟨"DiodeLink", "journal", "(II)J"⟩ prog_1_method_18_code 3 (some .long) ∈ lw_tbl := zin_5 _ (List.mem_of_getElem? (l := tables_1_5) (i := 89) rfl)
theorem zw1101 : Cond.code ⟨"DiodeLink", "packet", "(II)J"⟩ prog_1_method_7_code 3 (some .long) ∈ lw_tbl := zin_3 _ (List.mem_of_getElem? (l := tables_1_3) (i := 148) rfl)
theorem zw1102 : Cond.code ⟨"DiodeLink", "rank", "(IIII)I"⟩ prog_1_method_14_code 5 (some .int) ∈ lw_tbl := zin_5 _ (List.mem_of_getElem? (l := tables_1_5) (i := 19) rfl)
theorem zw1103 : Cond.code ⟨"DiodeLink", "release", "(I)I"⟩ prog_1_method_15_code 2 (some .int) ∈ lw_tbl := zin_5 _ (List.mem_of_getElem? (l := tables_1_5) (i := 31) rfl)
theorem zw1104 : Cond.code ⟨"DiodeLink", "released", "(I)I"⟩ prog_1_method_16_code 2 (some .int) ∈ lw_tbl := zin_5 _ (List.mem_of_getElem? (l := tables_1_5) (i := 47) rfl)
theorem zw1105 : Cond.code ⟨"DiodeLink", "remove", "(I)Z"⟩ prog_1_method_4_code 4 (some .boolean) ∈ lw_tbl := zin_3 _ (List.mem_of_getElem? (l := tables_1_3) (i := 18) rfl)
theorem zw1106 : Cond.code ⟨"DiodeLink", "restartReceiver", "()V"⟩ prog_1_method_11_code 1 (none) ∈ lw_tbl := zin_2 _ (List.mem_of_getElem? (l := tables_1_2) (i := 33) rfl)
theorem zw1107 : Cond.code ⟨"DiodeLink", "restartSender", "()I"⟩ prog_1_method_10_code 1 (some .int) ∈ lw_tbl := zin_4 _ (List.mem_of_getElem? (l := tables_1_4) (i := 212) rfl)
theorem zw1108 : Cond.code ⟨"DiodeLink", "rule", "(IIZ)V"⟩ prog_1_method_12_code 4 (none) ∈ lw_tbl := zin_4 _ (List.mem_of_getElem? (l := tables_1_4) (i := 228) rfl)
theorem zw1109 : Cond.code ⟨"DiodeLink", "send", "()I"⟩ prog_1_method_6_code 2 (some .int) ∈ lw_tbl := zin_3 _ (List.mem_of_getElem? (l := tables_1_3) (i := 79) rfl)
theorem zw1110 : Cond.code ⟨"DiodeLink", "touch", "(III)V"⟩ prog_1_method_19_code 4 (none) ∈ lw_tbl := zin_5 _ (List.mem_of_getElem? (l := tables_1_5) (i := 108) rfl)
theorem zw1111 : Cond.code ⟨"DiodeLink", "write", "(I)I"⟩ prog_1_method_3_code 4 (some .int) ∈ lw_tbl := zin_2 _ (List.mem_of_getElem? (l := tables_1_2) (i := 198) rfl)
theorem zw1112 : Cond.code ⟨"DiodeLink$Bytes", "<init>", "(I)V"⟩ prog_2_method_1_code 2 (none) ∈ lw_tbl := zin_1 _ (List.mem_of_getElem? (l := tables_1_1) (i := 33) rfl)
theorem zw1113 : Cond.code ⟨"DiodeLink$Bytes", "append", "(JI)V"⟩ prog_2_method_11_code 5 (none) ∈ lw_tbl := zin_2 _ (List.mem_of_getElem? (l := tables_1_2) (i := 72) rfl)
theorem zw1114 : Cond.code ⟨"DiodeLink$Bytes", "appendAll", "(LDiodeLink$Bytes;)V"⟩ prog_2_method_12_code 3 (none) ∈ lw_tbl := zin_3 _ (List.mem_of_getElem? (l := tables_1_3) (i := 65) rfl)
theorem zw1115 : Cond.code ⟨"DiodeLink$Bytes", "at", "(I)I"⟩ prog_2_method_6_code 2 (some .int) ∈ lw_tbl := zin_2 _ (List.mem_of_getElem? (l := tables_1_2) (i := 88) rfl)
theorem zw1116 : Cond.code ⟨"DiodeLink$Bytes", "clear", "()V"⟩ prog_2_method_4_code 1 (none) ∈ lw_tbl := zin_2 _ (List.mem_of_getElem? (l := tables_1_2) (i := 68) rfl)
theorem zw1117 : Cond.code ⟨"DiodeLink$Bytes", "compareAll", "(LDiodeLink$Bytes;)I"⟩ prog_2_method_17_code 2 (some .int) ∈ lw_tbl := zin_2 _ (List.mem_of_getElem? (l := tables_1_2) (i := 221) rfl)
theorem zw1118 : Cond.code ⟨"DiodeLink$Bytes", "compareParts", "(IILDiodeLink$Bytes;II)I"⟩ prog_2_method_16_code 9 (some .int) ∈ lw_tbl := zin_2 _ (List.mem_of_getElem? (l := tables_1_2) (i := 225) rfl)
theorem zw1119 : Cond.code ⟨"DiodeLink$Bytes", "copyFrom", "(LDiodeLink$Bytes;)V"⟩ prog_2_method_13_code 2 (none) ∈ lw_tbl := zin_3 _ (List.mem_of_getElem? (l := tables_1_3) (i := 0) rfl)
theorem zw1120 : Cond.code ⟨"DiodeLink$Bytes", "hash", "(I)J"⟩ prog_2_method_14_code 5 (some .long) ∈ lw_tbl := zin_2 _ (List.mem_of_getElem? (l := tables_1_2) (i := 83) rfl)
theorem zw1121 : Cond.code ⟨"DiodeLink$Bytes", "isName", "(II)Z"⟩ prog_2_method_15_code 4 (some .boolean) ∈ lw_tbl := zin_2 _ (List.mem_of_getElem? (l := tables_1_2) (i := 205) rfl)
theorem zw1122 : Cond.code ⟨"DiodeLink$Bytes", "limit", "()I"⟩ prog_2_method_3_code 1 (some .int) ∈ lw_tbl := zin_2 _ (List.mem_of_getElem? (l := tables_1_2) (i := 174) rfl)
theorem zw1123 : Cond.code ⟨"DiodeLink$Bytes", "number", "(II)J"⟩ prog_2_method_9_code 6 (some .long) ∈ lw_tbl := zin_3 _ (List.mem_of_getElem? (l := tables_1_3) (i := 140) rfl)
theorem zw1124 : Cond.code ⟨"DiodeLink$Bytes", "put", "(II)V"⟩ prog_2_method_7_code 3 (none) ∈ lw_tbl := zin_3 _ (List.mem_of_getElem? (l := tables_1_3) (i := 171) rfl)
theorem zw1125 : Cond.code ⟨"DiodeLink$Bytes", "putNumber", "(IJI)V"⟩ prog_2_method_10_code 6 (none) ∈ lw_tbl := zin_4 _ (List.mem_of_getElem? (l := tables_1_4) (i := 81) rfl)
theorem zw1126 : Cond.code ⟨"DiodeLink$Bytes", "resize", "(I)V"⟩ prog_2_method_5_code 2 (none) ∈ lw_tbl := zin_3 _ (List.mem_of_getElem? (l := tables_1_3) (i := 4) rfl)
theorem zw1127 : Cond.code ⟨"DiodeLink$Bytes", "size", "()I"⟩ prog_2_method_2_code 1 (some .int) ∈ lw_tbl := zin_2 _ (List.mem_of_getElem? (l := tables_1_2) (i := 170) rfl)
theorem zw1128 : Cond.code ⟨"DiodeLink$Bytes", "turn", "(II)V"⟩ prog_2_method_8_code 3 (none) ∈ lw_tbl := zin_3 _ (List.mem_of_getElem? (l := tables_1_3) (i := 167) rfl)
theorem zw1129 : Cond.code ⟨"DiodeLink$Cut", "blocks", "(I)I"⟩ prog_3_method_2_code 1 (some .int) ∈ lw_tbl := zin_3 _ (List.mem_of_getElem? (l := tables_1_3) (i := 107) rfl)
theorem zw1130 : Cond.code ⟨"DiodeLink$Cut", "mask", "(IIIII)I"⟩ prog_3_method_5_code 8 (some .int) ∈ lw_tbl := zin_3 _ (List.mem_of_getElem? (l := tables_1_3) (i := 135) rfl)
theorem zw1131 : Cond.code ⟨"DiodeLink$Cut", "packets", "(II)I"⟩ prog_3_method_4_code 2 (some .int) ∈ lw_tbl := zin_3 _ (List.mem_of_getElem? (l := tables_1_3) (i := 111) rfl)
theorem zw1132 : Cond.code ⟨"DiodeLink$Cut", "pieces", "(II)I"⟩ prog_3_method_3_code 3 (some .int) ∈ lw_tbl := zin_3 _ (List.mem_of_getElem? (l := tables_1_3) (i := 114) rfl)
theorem zw1133 : Cond.code ⟨"DiodeLink$Edition", "<init>", "()V"⟩ prog_4_method_1_code 2 (none) ∈ lw_tbl := zin_1 _ (List.mem_of_getElem? (l := tables_1_1) (i := 64) rfl)
theorem zw1134 : Cond.code ⟨"DiodeLink$Edition", "appendPlace", "(LDiodeLink$Bytes;III)V"⟩ prog_4_method_5_code 5 (none) ∈ lw_tbl := zin_3 _ (List.mem_of_getElem? (l := tables_1_3) (i := 127) rfl)
theorem zw1135 : Cond.code ⟨"DiodeLink$Edition", "fillPacket", "(LDiodeLink$Bytes;III)V"⟩ prog_4_method_4_code 10 (none) ∈ lw_tbl := zin_3 _ (List.mem_of_getElem? (l := tables_1_3) (i := 123) rfl)
theorem zw1136 : Cond.code ⟨"DiodeLink$Edition", "packets", "()I"⟩ prog_4_method_3_code 5 (some .int) ∈ lw_tbl := zin_3 _ (List.mem_of_getElem? (l := tables_1_3) (i := 104) rfl)
theorem zw1137 : Cond.code ⟨"DiodeLink$Edition", "record", "(ILDiodeLink$Folder;)V"⟩ prog_4_method_2_code 6 (none) ∈ lw_tbl := zin_3 _ (List.mem_of_getElem? (l := tables_1_3) (i := 45) rfl)
theorem zw1138 : Cond.code ⟨"DiodeLink$Edition", "sum", "(III)J"⟩ prog_4_method_6_code 9 (some .long) ∈ lw_tbl := zin_3 _ (List.mem_of_getElem? (l := tables_1_3) (i := 131) rfl)
theorem zw1139 : Cond.code ⟨"DiodeLink$Folder", "<init>", "()V"⟩ prog_5_method_1_code 2 (none) ∈ lw_tbl := zin_1 _ (List.mem_of_getElem? (l := tables_1_1) (i := 54) rfl)
theorem zw1140 : Cond.code ⟨"DiodeLink$Folder", "content", "(I)LDiodeLink$Bytes;"⟩ prog_5_method_4_code 2 (some (.object "DiodeLink$Bytes")) ∈ lw_tbl := zin_3 _ (List.mem_of_getElem? (l := tables_1_3) (i := 55) rfl)
theorem zw1141 : Cond.code ⟨"DiodeLink$Folder", "edition", "(I)LDiodeLink$Edition;"⟩ prog_5_method_8_code 2 (some (.object "DiodeLink$Edition")) ∈ lw_tbl := zin_3 _ (List.mem_of_getElem? (l := tables_1_3) (i := 100) rfl)
theorem zw1142 : Cond.code ⟨"DiodeLink$Folder", "files", "()I"⟩ prog_5_method_2_code 1 (some .int) ∈ lw_tbl := zin_3 _ (List.mem_of_getElem? (l := tables_1_3) (i := 49) rfl)
theorem zw1143 : Cond.code ⟨"DiodeLink$Folder", "isAt", "(ILDiodeLink$Bytes;)Z"⟩ prog_5_method_10_code 3 (some .boolean) ∈ lw_tbl := zin_2 _ (List.mem_of_getElem? (l := tables_1_2) (i := 232) rfl)
theorem zw1144 : Cond.code ⟨"DiodeLink$Folder", "makeVersion", "()I"⟩ prog_5_method_7_code 1 (some .int) ∈ lw_tbl := zin_3 _ (List.mem_of_getElem? (l := tables_1_3) (i := 41) rfl)
theorem zw1145 : Cond.code ⟨"DiodeLink$Folder", "moveFile", "(II)V"⟩ prog_5_method_11_code 6 (none) ∈ lw_tbl := zin_2 _ (List.mem_of_getElem? (l := tables_1_2) (i := 236) rfl)
theorem zw1146 : Cond.code ⟨"DiodeLink$Folder", "name", "(I)LDiodeLink$Bytes;"⟩ prog_5_method_3_code 2 (some (.object "DiodeLink$Bytes")) ∈ lw_tbl := zin_3 _ (List.mem_of_getElem? (l := tables_1_3) (i := 60) rfl)
theorem zw1147 : Cond.code ⟨"DiodeLink$Folder", "placeOf", "(LDiodeLink$Bytes;)I"⟩ prog_5_method_9_code 3 (some .int) ∈ lw_tbl := zin_2 _ (List.mem_of_getElem? (l := tables_1_2) (i := 217) rfl)
theorem zw1148 : Cond.code ⟨"DiodeLink$Folder", "put", "(LDiodeLink$Bytes;LDiodeLink$Bytes;)I"⟩ prog_5_method_5_code 4 (some .int) ∈ lw_tbl := zin_2 _ (List.mem_of_getElem? (l := tables_1_2) (i := 213) rfl)
theorem zw1149 : Cond.code ⟨"DiodeLink$Folder", "takeOut", "(LDiodeLink$Bytes;)Z"⟩ prog_5_method_6_code 3 (some .boolean) ∈ lw_tbl := zin_3 _ (List.mem_of_getElem? (l := tables_1_3) (i := 22) rfl)
theorem zw1150 : Cond.code ⟨"DiodeLink$Journal", "<init>", "()V"⟩ prog_6_method_1_code 1 (none) ∈ lw_tbl := zin_1 _ (List.mem_of_getElem? (l := tables_1_1) (i := 131) rfl)
theorem zw1151 : Cond.code ⟨"DiodeLink$Journal", "dueLink", "(JI)J"⟩ prog_6_method_11_code 4 (some .long) ∈ lw_tbl := zin_2 _ (List.mem_of_getElem? (l := tables_1_2) (i := 64) rfl)
theorem zw1152 : Cond.code ⟨"DiodeLink$Journal", "enter", "(IIII)V"⟩ prog_6_method_7_code 5 (none) ∈ lw_tbl := zin_4 _ (List.mem_of_getElem? (l := tables_1_4) (i := 205) rfl)
theorem zw1153 : Cond.code ⟨"DiodeLink$Journal", "entries", "()I"⟩ prog_6_method_2_code 1 (some .int) ∈ lw_tbl := zin_5 _ (List.mem_of_getElem? (l := tables_1_5) (i := 94) rfl)
theorem zw1154 : Cond.code ⟨"DiodeLink$Journal", "firstKept", "()I"⟩ prog_6_method_9_code 1 (some .int) ∈ lw_tbl := zin_2 _ (List.mem_of_getElem? (l := tables_1_2) (i := 53) rfl)
theorem zw1155 : Cond.code ⟨"DiodeLink$Journal", "keeps", "(I)Z"⟩ prog_6_method_3_code 2 (some .boolean) ∈ lw_tbl := zin_5 _ (List.mem_of_getElem? (l := tables_1_5) (i := 98) rfl)
theorem zw1156 : Cond.code ⟨"DiodeLink$Journal", "link", "(I)J"⟩ prog_6_method_5_code 2 (some .long) ∈ lw_tbl := zin_2 _ (List.mem_of_getElem? (l := tables_1_2) (i := 60) rfl)
theorem zw1157 : Cond.code ⟨"DiodeLink$Journal", "linksHold", "()Z"⟩ prog_6_method_8_code 4 (some .boolean) ∈ lw_tbl := zin_2 _ (List.mem_of_getElem? (l := tables_1_2) (i := 49) rfl)
theorem zw1158 : Cond.code ⟨"DiodeLink$Journal", "number", "(II)I"⟩ prog_6_method_4_code 3 (some .int) ∈ lw_tbl := zin_2 _ (List.mem_of_getElem? (l := tables_1_2) (i := 76) rfl)
theorem zw1159 : Cond.code ⟨"DiodeLink$Journal", "place", "(II)I"⟩ prog_6_method_10_code 2 (some .int) ∈ lw_tbl := zin_2 _ (List.mem_of_getElem? (l := tables_1_2) (i := 79) rfl)
theorem zw1160 : Cond.code ⟨"DiodeLink$Journal", "turn", "(III)V"⟩ prog_6_method_6_code 4 (none) ∈ lw_tbl := zin_5 _ (List.mem_of_getElem? (l := tables_1_5) (i := 112) rfl)
theorem zw1161 : Cond.code ⟨"DiodeLink$Receiver", "<init>", "(LDiodeLink$Rules;LDiodeLink$Journal;)V"⟩ prog_7_method_1_code 4 (none) ∈ lw_tbl := zin_1 _ (List.mem_of_getElem? (l := tables_1_1) (i := 159) rfl)
theorem zw1162 : Cond.code ⟨"DiodeLink$Receiver", "allRows", "()I"⟩ prog_7_method_4_code 1 (some .int) ∈ lw_tbl := zin_5 _ (List.mem_of_getElem? (l := tables_1_5) (i := 127) rfl)
theorem zw1163 : Cond.code ⟨"DiodeLink$Receiver", "canBe", "(LDiodeLink$Bytes;)Z"⟩ prog_7_method_16_code 6 (some .boolean) ∈ lw_tbl := zin_3 _ (List.mem_of_getElem? (l := tables_1_3) (i := 197) rfl)
theorem zw1164 : Cond.code ⟨"DiodeLink$Receiver", "dropItemRows", "(LDiodeLink$Version;II)V"⟩ prog_7_method_26_code 5 (none) ∈ lw_tbl := zin_4 _ (List.mem_of_getElem? (l := tables_1_4) (i := 117) rfl)
theorem zw1165 : Cond.code ⟨"DiodeLink$Receiver", "dropped", "()I"⟩ prog_7_method_3_code 1 (some .int) ∈ lw_tbl := zin_5 _ (List.mem_of_getElem? (l := tables_1_5) (i := 123) rfl)
theorem zw1166 : Cond.code ⟨"DiodeLink$Receiver", "find", "(II)LDiodeLink$Version;"⟩ prog_7_method_11_code 4 (some (.object "DiodeLink$Version")) ∈ lw_tbl := zin_3 _ (List.mem_of_getElem? (l := tables_1_3) (i := 219) rfl)
theorem zw1167 : Cond.code ⟨"DiodeLink$Receiver", "forgetItem", "(LDiodeLink$Version;II)V"⟩ prog_7_method_25_code 4 (none) ∈ lw_tbl := zin_4 _ (List.mem_of_getElem? (l := tables_1_4) (i := 112) rfl)
theorem zw1168 : Cond.code ⟨"DiodeLink$Receiver", "greatestOf", "(I)I"⟩ prog_7_method_13_code 4 (some .int) ∈ lw_tbl := zin_4 _ (List.mem_of_getElem? (l := tables_1_4) (i := 62) rfl)
theorem zw1169 : Cond.code ⟨"DiodeLink$Receiver", "hasOtherSize", "(LDiodeLink$Version;ILDiodeLink$Bytes;)Z"⟩ prog_7_method_18_code 6 (some .boolean) ∈ lw_tbl := zin_4 _ (List.mem_of_getElem? (l := tables_1_4) (i := 5) rfl)
theorem zw1170 : Cond.code ⟨"DiodeLink$Receiver", "holdAlike", "(I)V"⟩ prog_7_method_27_code 6 (none) ∈ lw_tbl := zin_4 _ (List.mem_of_getElem? (l := tables_1_4) (i := 137) rfl)
theorem zw1171 : Cond.code ⟨"DiodeLink$Receiver", "holdByOther", "(III)Z"⟩ prog_7_method_28_code 8 (some .boolean) ∈ lw_tbl := zin_4 _ (List.mem_of_getElem? (l := tables_1_4) (i := 141) rfl)
theorem zw1172 : Cond.code ⟨"DiodeLink$Receiver", "judge", "(LDiodeLink$Version;I)V"⟩ prog_7_method_30_code 5 (none) ∈ lw_tbl := zin_4 _ (List.mem_of_getElem? (l := tables_1_4) (i := 170) rfl)
theorem zw1173 : Cond.code ⟨"DiodeLink$Receiver", "keepRow", "(LDiodeLink$Version;ILDiodeLink$Bytes;)Z"⟩ prog_7_method_22_code 9 (some .boolean) ∈ lw_tbl := zin_4 _ (List.mem_of_getElem? (l := tables_1_4) (i := 67) rfl)
theorem zw1174 : Cond.code ⟨"DiodeLink$Receiver", "knownAt", "(II)LDiodeLink$Version;"⟩ prog_7_method_10_code 3 (some (.object "DiodeLink$Version")) ∈ lw_tbl := zin_3 _ (List.mem_of_getElem? (l := tables_1_3) (i := 207) rfl)
theorem zw1175 : Cond.code ⟨"DiodeLink$Receiver", "learn", "(II)LDiodeLink$Version;"⟩ prog_7_method_17_code 6 (some (.object "DiodeLink$Version")) ∈ lw_tbl := zin_3 _ (List.mem_of_getElem? (l := tables_1_3) (i := 215) rfl)
theorem zw1176 : Cond.code ⟨"DiodeLink$Receiver", "leastOf", "(I)LDiodeLink$Version;"⟩ prog_7_method_12_code 4 (some (.object "DiodeLink$Version")) ∈ lw_tbl := zin_3 _ (List.mem_of_getElem? (l := tables_1_3) (i := 203) rfl)
theorem zw1177 : Cond.code ⟨"DiodeLink$Receiver", "leastToJudge", "(I)LDiodeLink$Version;"⟩ prog_7_method_29_code 6 (some (.object "DiodeLink$Version")) ∈ lw_tbl := zin_4 _ (List.mem_of_getElem? (l := tables_1_4) (i := 158) rfl)
theorem zw1178 : Cond.code ⟨"DiodeLink$Receiver", "letOut", "(I)I"⟩ prog_7_method_9_code 6 (some .int) ∈ lw_tbl := zin_5 _ (List.mem_of_getElem? (l := tables_1_5) (i := 35) rfl)
theorem zw1179 : Cond.code ⟨"DiodeLink$Receiver", "listen", "(LDiodeLink$Bytes;)I"⟩ prog_7_method_6_code 7 (some .int) ∈ lw_tbl := zin_3 _ (List.mem_of_getElem? (l := tables_1_3) (i := 182) rfl)
theorem zw1180 : Cond.code ⟨"DiodeLink$Receiver", "lookAt", "(LDiodeLink$Version;II)V"⟩ prog_7_method_23_code 5 (none) ∈ lw_tbl := zin_4 _ (List.mem_of_getElem? (l := tables_1_4) (i := 95) rfl)
theorem zw1181 : Cond.code ⟨"DiodeLink$Receiver", "lookAtFile", "(LDiodeLink$Version;II)V"⟩ prog_7_method_24_code 4 (none) ∈ lw_tbl := zin_4 _ (List.mem_of_getElem? (l := tables_1_4) (i := 103) rfl)
theorem zw1182 : Cond.code ⟨"DiodeLink$Receiver", "loseRows", "()V"⟩ prog_7_method_5_code 1 (none) ∈ lw_tbl := zin_2 _ (List.mem_of_getElem? (l := tables_1_2) (i := 37) rfl)
theorem zw1183 : Cond.code ⟨"DiodeLink$Receiver", "makeRoom", "()Z"⟩ prog_7_method_21_code 5 (some .boolean) ∈ lw_tbl := zin_4 _ (List.mem_of_getElem? (l := tables_1_4) (i := 50) rfl)
theorem zw1184 : Cond.code ⟨"DiodeLink$Receiver", "maskOf", "(LDiodeLink$Bytes;)I"⟩ prog_7_method_20_code 1 (some .int) ∈ lw_tbl := zin_4 _ (List.mem_of_getElem? (l := tables_1_4) (i := 29) rfl)
theorem zw1185 : Cond.code ⟨"DiodeLink$Receiver", "noteLife", "(I)V"⟩ prog_7_method_15_code 2 (none) ∈ lw_tbl := zin_3 _ (List.mem_of_getElem? (l := tables_1_3) (i := 193) rfl)
theorem zw1186 : Cond.code ⟨"DiodeLink$Receiver", "piecesOf", "(LDiodeLink$Bytes;)I"⟩ prog_7_method_19_code 1 (some .int) ∈ lw_tbl := zin_4 _ (List.mem_of_getElem? (l := tables_1_4) (i := 32) rfl)
theorem zw1187 : Cond.code ⟨"DiodeLink$Receiver", "rowsOf", "(IIII)I"⟩ prog_7_method_8_code 7 (some .int) ∈ lw_tbl := zin_5 _ (List.mem_of_getElem? (l := tables_1_5) (i := 24) rfl)
theorem zw1188 : Cond.code ⟨"DiodeLink$Receiver", "shown", "(I)LDiodeLink$Version;"⟩ prog_7_method_2_code 2 (some (.object "DiodeLink$Version")) ∈ lw_tbl := zin_5 _ (List.mem_of_getElem? (l := tables_1_5) (i := 51) rfl)
theorem zw1189 : Cond.code ⟨"DiodeLink$Receiver", "stateOf", "(II)I"⟩ prog_7_method_7_code 4 (some .int) ∈ lw_tbl := zin_5 _ (List.mem_of_getElem? (l := tables_1_5) (i := 12) rfl)
theorem zw1190 : Cond.code ⟨"DiodeLink$Receiver", "whyDropped", "(LDiodeLink$Bytes;)I"⟩ prog_7_method_14_code 8 (some .int) ∈ lw_tbl := zin_3 _ (List.mem_of_getElem? (l := tables_1_3) (i := 186) rfl)
theorem zw1191 : Cond.code ⟨"DiodeLink$Rows", "<init>", "()V"⟩ prog_8_method_1_code 1 (none) ∈ lw_tbl := zin_1 _ (List.mem_of_getElem? (l := tables_1_1) (i := 167) rfl)
theorem zw1192 : Cond.code ⟨"DiodeLink$Rows", "add", "(IIJ)V"⟩ prog_8_method_13_code 10 (none) ∈ lw_tbl := zin_4 _ (List.mem_of_getElem? (l := tables_1_4) (i := 72) rfl)
theorem zw1193 : Cond.code ⟨"DiodeLink$Rows", "drop", "(II)V"⟩ prog_8_method_10_code 5 (none) ∈ lw_tbl := zin_3 _ (List.mem_of_getElem? (l := tables_1_3) (i := 232) rfl)
theorem zw1194 : Cond.code ⟨"DiodeLink$Rows", "dropAll", "()V"⟩ prog_8_method_11_code 1 (none) ∈ lw_tbl := zin_2 _ (List.mem_of_getElem? (l := tables_1_2) (i := 41) rfl)
theorem zw1195 : Cond.code ⟨"DiodeLink$Rows", "firstKey", "(I)I"⟩ prog_8_method_3_code 1 (some .int) ∈ lw_tbl := zin_3 _ (List.mem_of_getElem? (l := tables_1_3) (i := 225) rfl)
theorem zw1196 : Cond.code ⟨"DiodeLink$Rows", "hasPivotIn", "(III)Z"⟩ prog_8_method_15_code 4 (some .boolean) ∈ lw_tbl := zin_4 _ (List.mem_of_getElem? (l := tables_1_4) (i := 42) rfl)
theorem zw1197 : Cond.code ⟨"DiodeLink$Rows", "isFull", "()Z"⟩ prog_8_method_7_code 1 (some .boolean) ∈ lw_tbl := zin_4 _ (List.mem_of_getElem? (l := tables_1_4) (i := 46) rfl)
theorem zw1198 : Cond.code ⟨"DiodeLink$Rows", "key", "(III)I"⟩ prog_8_method_5_code 3 (some .int) ∈ lw_tbl := zin_4 _ (List.mem_of_getElem? (l := tables_1_4) (i := 16) rfl)
theorem zw1199 : Cond.code ⟨"DiodeLink$Rows", "lastKey", "(I)I"⟩ prog_8_method_4_code 1 (some .int) ∈ lw_tbl := zin_3 _ (List.mem_of_getElem? (l := tables_1_3) (i := 228) rfl)
theorem zw1200 : Cond.code ⟨"DiodeLink$Rows", "owner", "(II)I"⟩ prog_8_method_2_code 2 (some .int) ∈ lw_tbl := zin_3 _ (List.mem_of_getElem? (l := tables_1_3) (i := 222) rfl)
theorem zw1201 : Cond.code ⟨"DiodeLink$Rows", "ownerAt", "(I)I"⟩ prog_8_method_8_code 2 (some .int) ∈ lw_tbl := zin_4 _ (List.mem_of_getElem? (l := tables_1_4) (i := 58) rfl)
theorem zw1202 : Cond.code ⟨"DiodeLink$Rows", "piece", "(II)J"⟩ prog_8_method_14_code 4 (some .long) ∈ lw_tbl := zin_4 _ (List.mem_of_getElem? (l := tables_1_4) (i := 77) rfl)
theorem zw1203 : Cond.code ⟨"DiodeLink$Rows", "rowsIn", "(II)I"⟩ prog_8_method_9_code 5 (some .int) ∈ lw_tbl := zin_4 _ (List.mem_of_getElem? (l := tables_1_4) (i := 20) rfl)
theorem zw1204 : Cond.code ⟨"DiodeLink$Rows", "tells", "(II)Z"⟩ prog_8_method_12_code 5 (some .boolean) ∈ lw_tbl := zin_4 _ (List.mem_of_getElem? (l := tables_1_4) (i := 38) rfl)
theorem zw1205 : Cond.code ⟨"DiodeLink$Rows", "used", "()I"⟩ prog_8_method_6_code 1 (some .int) ∈ lw_tbl := zin_4 _ (List.mem_of_getElem? (l := tables_1_4) (i := 54) rfl)
theorem zw1206 : Cond.code ⟨"DiodeLink$Rules", "<init>", "()V"⟩ prog_9_method_1_code 1 (none) ∈ lw_tbl := zin_1 _ (List.mem_of_getElem? (l := tables_1_1) (i := 111) rfl)
theorem zw1207 : Cond.code ⟨"DiodeLink$Rules", "brokenBy", "(ILDiodeLink$Version;)I"⟩ prog_9_method_4_code 4 (some .int) ∈ lw_tbl := zin_4 _ (List.mem_of_getElem? (l := tables_1_4) (i := 174) rfl)
theorem zw1208 : Cond.code ⟨"DiodeLink$Rules", "greatestValue", "(I)I"⟩ prog_9_method_2_code 1 (some .int) ∈ lw_tbl := zin_4 _ (List.mem_of_getElem? (l := tables_1_4) (i := 231) rfl)
theorem zw1209 : Cond.code ⟨"DiodeLink$Rules", "hasBadSign", "(LDiodeLink$Version;I)Z"⟩ prog_9_method_6_code 6 (some .boolean) ∈ lw_tbl := zin_4 _ (List.mem_of_getElem? (l := tables_1_4) (i := 187) rfl)
theorem zw1210 : Cond.code ⟨"DiodeLink$Rules", "isBrokenByFile", "(ILDiodeLink$Version;I)Z"⟩ prog_9_method_5_code 4 (some .boolean) ∈ lw_tbl := zin_4 _ (List.mem_of_getElem? (l := tables_1_4) (i := 179) rfl)
theorem zw1211 : Cond.code ⟨"DiodeLink$Rules", "set", "(IIZ)V"⟩ prog_9_method_3_code 4 (none) ∈ lw_tbl := zin_4 _ (List.mem_of_getElem? (l := tables_1_4) (i := 236) rfl)
theorem zw1212 : Cond.code ⟨"DiodeLink$Sender", "<init>", "()V"⟩ prog_10_method_1_code 2 (none) ∈ lw_tbl := zin_1 _ (List.mem_of_getElem? (l := tables_1_1) (i := 47) rfl)
theorem zw1213 : Cond.code ⟨"DiodeLink$Sender", "beginLife", "()Z"⟩ prog_10_method_4_code 1 (some .boolean) ∈ lw_tbl := zin_4 _ (List.mem_of_getElem? (l := tables_1_4) (i := 216) rfl)
theorem zw1214 : Cond.code ⟨"DiodeLink$Sender", "beginRounds", "()V"⟩ prog_10_method_7_code 1 (none) ∈ lw_tbl := zin_3 _ (List.mem_of_getElem? (l := tables_1_3) (i := 71) rfl)
theorem zw1215 : Cond.code ⟨"DiodeLink$Sender", "fillFrom", "(LDiodeLink$Bytes;II)V"⟩ prog_10_method_11_code 9 (none) ∈ lw_tbl := zin_3 _ (List.mem_of_getElem? (l := tables_1_3) (i := 119) rfl)
theorem zw1216 : Cond.code ⟨"DiodeLink$Sender", "fillNext", "(LDiodeLink$Bytes;)Z"⟩ prog_10_method_6_code 4 (some .boolean) ∈ lw_tbl := zin_3 _ (List.mem_of_getElem? (l := tables_1_3) (i := 86) rfl)
theorem zw1217 : Cond.code ⟨"DiodeLink$Sender", "folder", "(I)LDiodeLink$Folder;"⟩ prog_10_method_2_code 2 (some (.object "DiodeLink$Folder")) ∈ lw_tbl := zin_2 _ (List.mem_of_getElem? (l := tables_1_2) (i := 209) rfl)
theorem zw1218 : Cond.code ⟨"DiodeLink$Sender", "life", "()I"⟩ prog_10_method_3_code 1 (some .int) ∈ lw_tbl := zin_4 _ (List.mem_of_getElem? (l := tables_1_4) (i := 221) rfl)
theorem zw1219 : Cond.code ⟨"DiodeLink$Sender", "makeVersion", "(I)I"⟩ prog_10_method_5_code 3 (some .int) ∈ lw_tbl := zin_3 _ (List.mem_of_getElem? (l := tables_1_3) (i := 37) rfl)
theorem zw1220 : Cond.code ⟨"DiodeLink$Sender", "oldestAge", "(I)I"⟩ prog_10_method_8_code 1 (some .int) ∈ lw_tbl := zin_3 _ (List.mem_of_getElem? (l := tables_1_3) (i := 93) rfl)
theorem zw1221 : Cond.code ⟨"DiodeLink$Sender", "packetsOf", "(I)I"⟩ prog_10_method_10_code 6 (some .int) ∈ lw_tbl := zin_3 _ (List.mem_of_getElem? (l := tables_1_3) (i := 90) rfl)
theorem zw1222 : Cond.code ⟨"DiodeLink$Sender", "youngestAge", "(I)I"⟩ prog_10_method_9_code 1 (some .int) ∈ lw_tbl := zin_3 _ (List.mem_of_getElem? (l := tables_1_3) (i := 96) rfl)
theorem zw1223 : Cond.code ⟨"DiodeLink$Version", "<init>", "()V"⟩ prog_11_method_1_code 2 (none) ∈ lw_tbl := zin_1 _ (List.mem_of_getElem? (l := tables_1_1) (i := 185) rfl)
theorem zw1224 : Cond.code ⟨"DiodeLink$Version", "become", "(I)V"⟩ prog_11_method_4_code 2 (none) ∈ lw_tbl := zin_4 _ (List.mem_of_getElem? (l := tables_1_4) (i := 201) rfl)
theorem zw1225 : Cond.code ⟨"DiodeLink$Version", "begin", "(I)V"⟩ prog_11_method_9_code 3 (none) ∈ lw_tbl := zin_3 _ (List.mem_of_getElem? (l := tables_1_3) (i := 236) rfl)
theorem zw1226 : Cond.code ⟨"DiodeLink$Version", "clearItem", "(I)V"⟩ prog_11_method_10_code 3 (none) ∈ lw_tbl := zin_4 _ (List.mem_of_getElem? (l := tables_1_4) (i := 0) rfl)
theorem zw1227 : Cond.code ⟨"DiodeLink$Version", "fileSize", "(I)I"⟩ prog_11_method_18_code 2 (some .int) ∈ lw_tbl := zin_4 _ (List.mem_of_getElem? (l := tables_1_4) (i := 183) rfl)
theorem zw1228 : Cond.code ⟨"DiodeLink$Version", "files", "()I"⟩ prog_11_method_5_code 1 (some .int) ∈ lw_tbl := zin_4 _ (List.mem_of_getElem? (l := tables_1_4) (i := 133) rfl)
theorem zw1229 : Cond.code ⟨"DiodeLink$Version", "hasSolved", "(I)Z"⟩ prog_11_method_12_code 2 (some .boolean) ∈ lw_tbl := zin_4 _ (List.mem_of_getElem? (l := tables_1_4) (i := 9) rfl)
theorem zw1230 : Cond.code ⟨"DiodeLink$Version", "heldLike", "(LDiodeLink$Version;I)I"⟩ prog_11_method_22_code 4 (some .int) ∈ lw_tbl := zin_4 _ (List.mem_of_getElem? (l := tables_1_4) (i := 149) rfl)
theorem zw1231 : Cond.code ⟨"DiodeLink$Version", "holdCopy", "(ILDiodeLink$Bytes;)V"⟩ prog_11_method_23_code 4 (none) ∈ lw_tbl := zin_4 _ (List.mem_of_getElem? (l := tables_1_4) (i := 153) rfl)
theorem zw1232 : Cond.code ⟨"DiodeLink$Version", "holdIfRight", "(I)Z"⟩ prog_11_method_21_code 3 (some .boolean) ∈ lw_tbl := zin_4 _ (List.mem_of_getElem? (l := tables_1_4) (i := 107) rfl)
theorem zw1233 : Cond.code ⟨"DiodeLink$Version", "holds", "(I)Z"⟩ prog_11_method_7_code 2 (some .boolean) ∈ lw_tbl := zin_4 _ (List.mem_of_getElem? (l := tables_1_4) (i := 145) rfl)
theorem zw1234 : Cond.code ⟨"DiodeLink$Version", "isBehindLast", "(I)Z"⟩ prog_11_method_20_code 2 (some .boolean) ∈ lw_tbl := zin_4 _ (List.mem_of_getElem? (l := tables_1_4) (i := 128) rfl)
theorem zw1235 : Cond.code ⟨"DiodeLink$Version", "isComplete", "(I)Z"⟩ prog_11_method_14_code 2 (some .boolean) ∈ lw_tbl := zin_4 _ (List.mem_of_getElem? (l := tables_1_4) (i := 89) rfl)
theorem zw1236 : Cond.code ⟨"DiodeLink$Version", "isGood", "()Z"⟩ prog_11_method_6_code 1 (some .boolean) ∈ lw_tbl := zin_4 _ (List.mem_of_getElem? (l := tables_1_4) (i := 99) rfl)
theorem zw1237 : Cond.code ⟨"DiodeLink$Version", "isSolved", "(II)Z"⟩ prog_11_method_11_code 3 (some .boolean) ∈ lw_tbl := zin_4 _ (List.mem_of_getElem? (l := tables_1_4) (i := 13) rfl)
theorem zw1238 : Cond.code ⟨"DiodeLink$Version", "isWhole", "()Z"⟩ prog_11_method_15_code 2 (some .boolean) ∈ lw_tbl := zin_4 _ (List.mem_of_getElem? (l := tables_1_4) (i := 166) rfl)
theorem zw1239 : Cond.code ⟨"DiodeLink$Version", "item", "(I)LDiodeLink$Bytes;"⟩ prog_11_method_8_code 2 (some (.object "DiodeLink$Bytes")) ∈ lw_tbl := zin_4 _ (List.mem_of_getElem? (l := tables_1_4) (i := 24) rfl)
theorem zw1240 : Cond.code ⟨"DiodeLink$Version", "namePlace", "(I)I"⟩ prog_11_method_17_code 2 (some .int) ∈ lw_tbl := zin_4 _ (List.mem_of_getElem? (l := tables_1_4) (i := 192) rfl)
theorem zw1241 : Cond.code ⟨"DiodeLink$Version", "nameSize", "(I)I"⟩ prog_11_method_16_code 2 (some .int) ∈ lw_tbl := zin_4 _ (List.mem_of_getElem? (l := tables_1_4) (i := 196) rfl)
theorem zw1242 : Cond.code ⟨"DiodeLink$Version", "number", "()I"⟩ prog_11_method_2_code 1 (some .int) ∈ lw_tbl := zin_3 _ (List.mem_of_getElem? (l := tables_1_3) (i := 211) rfl)
theorem zw1243 : Cond.code ⟨"DiodeLink$Version", "readManifest", "()Z"⟩ prog_11_method_19_code 5 (some .boolean) ∈ lw_tbl := zin_4 _ (List.mem_of_getElem? (l := tables_1_4) (i := 121) rfl)
theorem zw1244 : Cond.code ⟨"DiodeLink$Version", "showFrom", "(LDiodeLink$Version;)V"⟩ prog_11_method_24_code 3 (none) ∈ lw_tbl := zin_5 _ (List.mem_of_getElem? (l := tables_1_5) (i := 39) rfl)
theorem zw1245 : Cond.code ⟨"DiodeLink$Version", "solve", "(II)V"⟩ prog_11_method_13_code 3 (none) ∈ lw_tbl := zin_4 _ (List.mem_of_getElem? (l := tables_1_4) (i := 85) rfl)
theorem zw1246 : Cond.code ⟨"DiodeLink$Version", "state", "()I"⟩ prog_11_method_3_code 1 (some .int) ∈ lw_tbl := zin_4 _ (List.mem_of_getElem? (l := tables_1_4) (i := 162) rfl)
theorem zw1247 : Cond.codeWith ⟨"DiodeLinkLaw", "alter", "(LDiodeLink;III)I"⟩ method_9_code 5 (some .int) [(0, 7, 10, 13)] ∈ lw_tbl := zin_3 _ (List.mem_of_getElem? (l := tables_1_3) (i := 158) rfl)
theorem zw1248 : Cond.codeWith ⟨"DiodeLinkLaw", "commit", "(LDiodeLink;I[J)I"⟩ method_6_code 4 (some .int) [(0, 9, 12, 13), (0, 9, 15, 15)] ∈ lw_tbl := zin_3 _ (List.mem_of_getElem? (l := tables_1_3) (i := 26) rfl)
theorem zw1249 : Cond.codeWith ⟨"DiodeLinkLaw", "count", "(LDiodeLink;I[J)I"⟩ method_20_code 4 (some .int) [(0, 9, 12, 13)] ∈ lw_tbl := zin_5 _ (List.mem_of_getElem? (l := tables_1_5) (i := 115) rfl)
theorem zw1250 : Cond.codeWith ⟨"DiodeLinkLaw", "feed", "(LDiodeLink;ZJI[J)I"⟩ method_3_code 7 (some .int) [(0, 13, 16, 13), (0, 13, 20, 15)] ∈ lw_tbl := zin_2 _ (List.mem_of_getElem? (l := tables_1_2) (i := 92) rfl)
theorem zw1251 : Cond.codeWith ⟨"DiodeLinkLaw", "file", "(LDiodeLink;IIIZ[J)I"⟩ method_17_code 7 (some .int) [(0, 14, 17, 13), (0, 14, 21, 68)] ∈ lw_tbl := zin_5 _ (List.mem_of_getElem? (l := tables_1_5) (i := 55) rfl)
theorem zw1252 : Cond.codeWith ⟨"DiodeLinkLaw", "have", "(LDiodeLink;II[J)I"⟩ method_13_code 5 (some .int) [(0, 10, 13, 13)] ∈ lw_tbl := zin_4 _ (List.mem_of_getElem? (l := tables_1_4) (i := 239) rfl)
theorem zw1253 : Cond.codeWith ⟨"DiodeLinkLaw", "hear", "(LDiodeLink;I[J)I"⟩ method_10_code 4 (some .int) [(0, 9, 12, 13)] ∈ lw_tbl := zin_3 _ (List.mem_of_getElem? (l := tables_1_3) (i := 174) rfl)
theorem zw1254 : Cond.codeWith ⟨"DiodeLinkLaw", "journal", "(LDiodeLink;II[J)I"⟩ method_18_code 5 (some .int) [(0, 9, 12, 13), (0, 9, 16, 68)] ∈ lw_tbl := zin_5 _ (List.mem_of_getElem? (l := tables_1_5) (i := 85) rfl)
theorem zw1255 : Cond.codeWith ⟨"DiodeLinkLaw", "packet", "(LDiodeLink;II[J)I"⟩ method_8_code 5 (some .int) [(0, 9, 12, 13)] ∈ lw_tbl := zin_3 _ (List.mem_of_getElem? (l := tables_1_3) (i := 144) rfl)
theorem zw1256 : Cond.codeWith ⟨"DiodeLinkLaw", "rank", "(LDiodeLink;IIII[J)I"⟩ method_14_code 7 (some .int) [(0, 14, 17, 13)] ∈ lw_tbl := zin_5 _ (List.mem_of_getElem? (l := tables_1_5) (i := 15) rfl)
theorem zw1257 : Cond.codeWith ⟨"DiodeLinkLaw", "release", "(LDiodeLink;I[J)I"⟩ method_15_code 4 (some .int) [(0, 9, 12, 13)] ∈ lw_tbl := zin_5 _ (List.mem_of_getElem? (l := tables_1_5) (i := 27) rfl)
theorem zw1258 : Cond.codeWith ⟨"DiodeLinkLaw", "released", "(LDiodeLink;I[J)I"⟩ method_16_code 4 (some .int) [(0, 9, 12, 13)] ∈ lw_tbl := zin_5 _ (List.mem_of_getElem? (l := tables_1_5) (i := 43) rfl)
theorem zw1259 : Cond.codeWith ⟨"DiodeLinkLaw", "remove", "(LDiodeLink;I[J)I"⟩ method_5_code 4 (some .int) [(0, 16, 19, 13)] ∈ lw_tbl := zin_3 _ (List.mem_of_getElem? (l := tables_1_3) (i := 14) rfl)
theorem zw1260 : Cond.codeWith ⟨"DiodeLinkLaw", "restartSender", "(LDiodeLink;[J)I"⟩ method_11_code 3 (some .int) [(0, 8, 11, 15)] ∈ lw_tbl := zin_4 _ (List.mem_of_getElem? (l := tables_1_4) (i := 208) rfl)
theorem zw1261 : Cond.codeWith ⟨"DiodeLinkLaw", "rule", "(LDiodeLink;IIZ)I"⟩ method_12_code 5 (some .int) [(0, 7, 10, 13)] ∈ lw_tbl := zin_4 _ (List.mem_of_getElem? (l := tables_1_4) (i := 224) rfl)
theorem zw1262 : Cond.codeWith ⟨"DiodeLinkLaw", "send", "(LDiodeLink;[J)I"⟩ method_7_code 3 (some .int) [(0, 8, 11, 15)] ∈ lw_tbl := zin_3 _ (List.mem_of_getElem? (l := tables_1_3) (i := 75) rfl)
theorem zw1263 : Cond.codeWith ⟨"DiodeLinkLaw", "touch", "(LDiodeLink;III)I"⟩ method_19_code 5 (some .int) [(0, 7, 10, 13), (0, 7, 14, 68)] ∈ lw_tbl := zin_5 _ (List.mem_of_getElem? (l := tables_1_5) (i := 104) rfl)
theorem zw1264 : Cond.codeWith ⟨"DiodeLinkLaw", "write", "(LDiodeLink;I[J)I"⟩ method_4_code 4 (some .int) [(0, 9, 12, 13), (0, 9, 15, 15)] ∈ lw_tbl := zin_2 _ (List.mem_of_getElem? (l := tables_1_2) (i := 194) rfl)
theorem zw1265 : Cond.code ⟨"DiodeLinkModel", "<init>", "()V"⟩ prog_13_method_1_code 2 (none) ∈ lw_tbl := zin_5 _ (List.mem_of_getElem? (l := tables_1_5) (i := 133) rfl)
theorem zw1266 : Cond.code ⟨"DiodeLinkModel", "alter", "(III)V"⟩ prog_13_method_31_code 4 (none) ∈ lw_tbl := zin_6 _ (List.mem_of_getElem? (l := tables_1_6) (i := 166) rfl)
theorem zw1267 : Cond.code ⟨"DiodeLinkModel", "anew", "()V"⟩ prog_13_method_18_code 1 (none) ∈ lw_tbl := zin_6 _ (List.mem_of_getElem? (l := tables_1_6) (i := 116) rfl)
theorem zw1268 : Cond.code ⟨"DiodeLinkModel", "begin", "()J"⟩ prog_13_method_6_code 0 (some .long) ∈ lw_tbl := zin_6 _ (List.mem_of_getElem? (l := tables_1_6) (i := 107) rfl)
theorem zw1269 : Cond.code ⟨"DiodeLinkModel", "blocks", "(I)I"⟩ prog_13_method_19_code 1 (some .int) ∈ lw_tbl := zin_6 _ (List.mem_of_getElem? (l := tables_1_6) (i := 131) rfl)
theorem zw1270 : Cond.code ⟨"DiodeLinkModel", "borrows", "(II)Z"⟩ prog_13_method_56_code 8 (some .boolean) ∈ lw_tbl := zin_7 _ (List.mem_of_getElem? (l := tables_1_7) (i := 50) rfl)
theorem zw1271 : Cond.code ⟨"DiodeLinkModel", "breaks", "(III)Z"⟩ prog_13_method_58_code 8 (some .boolean) ∈ lw_tbl := zin_7 _ (List.mem_of_getElem? (l := tables_1_7) (i := 70) rfl)
theorem zw1272 : Cond.code ⟨"DiodeLinkModel", "byteOf", "(II)I"⟩ prog_13_method_48_code 3 (some .int) ∈ lw_tbl := zin_7 _ (List.mem_of_getElem? (l := tables_1_7) (i := 22) rfl)
theorem zw1273 : Cond.code ⟨"DiodeLinkModel", "canBe", "(I)Z"⟩ prog_13_method_62_code 6 (some .boolean) ∈ lw_tbl := zin_6 _ (List.mem_of_getElem? (l := tables_1_6) (i := 190) rfl)
theorem zw1274 : Cond.code ⟨"DiodeLinkModel", "clear", "(I)V"⟩ prog_13_method_39_code 3 (none) ∈ lw_tbl := zin_6 _ (List.mem_of_getElem? (l := tables_1_6) (i := 218) rfl)
theorem zw1275 : Cond.code ⟨"DiodeLinkModel", "commit", "(I)I"⟩ prog_13_method_17_code 6 (some .int) ∈ lw_tbl := zin_6 _ (List.mem_of_getElem? (l := tables_1_6) (i := 96) rfl)
theorem zw1276 : Cond.code ⟨"DiodeLinkModel", "compare", "(II)V"⟩ prog_13_method_54_code 7 (none) ∈ lw_tbl := zin_7 _ (List.mem_of_getElem? (l := tables_1_7) (i := 18) rfl)
theorem zw1277 : Cond.code ⟨"DiodeLinkModel", "completes", "(II)V"⟩ prog_13_method_55_code 4 (none) ∈ lw_tbl := zin_7 _ (List.mem_of_getElem? (l := tables_1_7) (i := 14) rfl)
theorem zw1278 : Cond.code ⟨"DiodeLinkModel", "count", "(I)I"⟩ prog_13_method_80_code 2 (some .int) ∈ lw_tbl := zin_7 _ (List.mem_of_getElem? (l := tables_1_7) (i := 123) rfl)
theorem zw1279 : Cond.code ⟨"DiodeLinkModel", "drop", "(III)V"⟩ prog_13_method_34_code 6 (none) ∈ lw_tbl := zin_6 _ (List.mem_of_getElem? (l := tables_1_6) (i := 210) rfl)
theorem zw1280 : Cond.code ⟨"DiodeLinkModel", "drops", "(I)I"⟩ prog_13_method_61_code 2 (some .int) ∈ lw_tbl := zin_6 _ (List.mem_of_getElem? (l := tables_1_6) (i := 186) rfl)
theorem zw1281 : Cond.code ⟨"DiodeLinkModel", "eight", "(II)J"⟩ prog_13_method_29_code 6 (some .long) ∈ lw_tbl := zin_6 _ (List.mem_of_getElem? (l := tables_1_6) (i := 162) rfl)
theorem zw1282 : Cond.code ⟨"DiodeLinkModel", "empty", "(I)V"⟩ prog_13_method_37_code 3 (none) ∈ lw_tbl := zin_6 _ (List.mem_of_getElem? (l := tables_1_6) (i := 202) rfl)
theorem zw1283 : Cond.code ⟨"DiodeLinkModel", "fails", "(ZI)Z"⟩ prog_13_method_3_code 3 (some .boolean) ∈ lw_tbl := zin_6 _ (List.mem_of_getElem? (l := tables_1_6) (i := 63) rfl)
theorem zw1284 : Cond.code ⟨"DiodeLinkModel", "feed", "(ZJI)I"⟩ prog_13_method_7_code 8 (some .int) ∈ lw_tbl := zin_6 _ (List.mem_of_getElem? (l := tables_1_6) (i := 56) rfl)
theorem zw1285 : Cond.code ⟨"DiodeLinkModel", "file", "(IIIZ)I"⟩ prog_13_method_73_code 7 (some .int) ∈ lw_tbl := zin_7 _ (List.mem_of_getElem? (l := tables_1_7) (i := 103) rfl)
theorem zw1286 : Cond.code ⟨"DiodeLinkModel", "forget", "(I)V"⟩ prog_13_method_36_code 2 (none) ∈ lw_tbl := zin_6 _ (List.mem_of_getElem? (l := tables_1_6) (i := 206) rfl)
theorem zw1287 : Cond.code ⟨"DiodeLinkModel", "has", "(I)Z"⟩ prog_13_method_28_code 2 (some .boolean) ∈ lw_tbl := zin_6 _ (List.mem_of_getElem? (l := tables_1_6) (i := 158) rfl)
theorem zw1288 : Cond.code ⟨"DiodeLinkModel", "hasRows", "(I)Z"⟩ prog_13_method_45_code 4 (some .boolean) ∈ lw_tbl := zin_6 _ (List.mem_of_getElem? (l := tables_1_6) (i := 234) rfl)
theorem zw1289 : Cond.code ⟨"DiodeLinkModel", "hashOf", "(I)J"⟩ prog_13_method_26_code 5 (some .long) ∈ lw_tbl := zin_6 _ (List.mem_of_getElem? (l := tables_1_6) (i := 150) rfl)
theorem zw1290 : Cond.code ⟨"DiodeLinkModel", "hashTold", "(II)J"⟩ prog_13_method_53_code 7 (some .long) ∈ lw_tbl := zin_7 _ (List.mem_of_getElem? (l := tables_1_7) (i := 34) rfl)
theorem zw1291 : Cond.code ⟨"DiodeLinkModel", "have", "(II)I"⟩ prog_13_method_68_code 4 (some .int) ∈ lw_tbl := zin_7 _ (List.mem_of_getElem? (l := tables_1_7) (i := 78) rfl)
theorem zw1292 : Cond.code ⟨"DiodeLinkModel", "hear", "(I)I"⟩ prog_13_method_63_code 4 (some .int) ∈ lw_tbl := zin_6 _ (List.mem_of_getElem? (l := tables_1_6) (i := 182) rfl)
theorem zw1293 : Cond.code ⟨"DiodeLinkModel", "hears", "(II)I"⟩ prog_13_method_41_code 5 (some .int) ∈ lw_tbl := zin_6 _ (List.mem_of_getElem? (l := tables_1_6) (i := 194) rfl)
theorem zw1294 : Cond.code ⟨"DiodeLinkModel", "in", "(III)Z"⟩ prog_13_method_4_code 3 (some .boolean) ∈ lw_tbl := zin_6 _ (List.mem_of_getElem? (l := tables_1_6) (i := 59) rfl)
theorem zw1295 : Cond.code ⟨"DiodeLinkModel", "isBelow", "(III)Z"⟩ prog_13_method_50_code 7 (some .boolean) ∈ lw_tbl := zin_7 _ (List.mem_of_getElem? (l := tables_1_7) (i := 42) rfl)
theorem zw1296 : Cond.code ⟨"DiodeLinkModel", "isComplete", "(I)Z"⟩ prog_13_method_47_code 2 (some .boolean) ∈ lw_tbl := zin_7 _ (List.mem_of_getElem? (l := tables_1_7) (i := 10) rfl)
theorem zw1297 : Cond.code ⟨"DiodeLinkModel", "isKept", "(I)Z"⟩ prog_13_method_76_code 2 (some .boolean) ∈ lw_tbl := zin_7 _ (List.mem_of_getElem? (l := tables_1_7) (i := 111) rfl)
theorem zw1298 : Cond.code ⟨"DiodeLinkModel", "isManifest", "(I)Z"⟩ prog_13_method_51_code 8 (some .boolean) ∈ lw_tbl := zin_7 _ (List.mem_of_getElem? (l := tables_1_7) (i := 38) rfl)
theorem zw1299 : Cond.code ⟨"DiodeLinkModel", "isName", "()Z"⟩ prog_13_method_12_code 3 (some .boolean) ∈ lw_tbl := zin_6 _ (List.mem_of_getElem? (l := tables_1_6) (i := 72) rfl)
theorem zw1300 : Cond.code ⟨"DiodeLinkModel", "isSound", "()Z"⟩ prog_13_method_79_code 5 (some .boolean) ∈ lw_tbl := zin_7 _ (List.mem_of_getElem? (l := tables_1_7) (i := 119) rfl)
theorem zw1301 : Cond.code ⟨"DiodeLinkModel", "isThere", "(II)Z"⟩ prog_13_method_11_code 3 (some .boolean) ∈ lw_tbl := zin_6 _ (List.mem_of_getElem? (l := tables_1_6) (i := 84) rfl)
theorem zw1302 : Cond.code ⟨"DiodeLinkModel", "journal", "(II)J"⟩ prog_13_method_77_code 3 (some .long) ∈ lw_tbl := zin_7 _ (List.mem_of_getElem? (l := tables_1_7) (i := 107) rfl)
theorem zw1303 : Cond.code ⟨"DiodeLinkModel", "judge", "(I)V"⟩ prog_13_method_59_code 5 (none) ∈ lw_tbl := zin_7 _ (List.mem_of_getElem? (l := tables_1_7) (i := 54) rfl)
theorem zw1304 : Cond.code ⟨"DiodeLinkModel", "keep", "(II)V"⟩ prog_13_method_70_code 7 (none) ∈ lw_tbl := zin_7 _ (List.mem_of_getElem? (l := tables_1_7) (i := 95) rfl)
theorem zw1305 : Cond.code ⟨"DiodeLinkModel", "lay", "(IIJI)V"⟩ prog_13_method_25_code 7 (none) ∈ lw_tbl := zin_6 _ (List.mem_of_getElem? (l := tables_1_6) (i := 146) rfl)
theorem zw1306 : Cond.code ⟨"DiodeLinkModel", "linked", "(JI)J"⟩ prog_13_method_74_code 7 (some .long) ∈ lw_tbl := zin_7 _ (List.mem_of_getElem? (l := tables_1_7) (i := 66) rfl)
theorem zw1307 : Cond.code ⟨"DiodeLinkModel", "look", "(II)I"⟩ prog_13_method_23_code 9 (some .int) ∈ lw_tbl := zin_6 _ (List.mem_of_getElem? (l := tables_1_6) (i := 124) rfl)
theorem zw1308 : Cond.code ⟨"DiodeLinkModel", "manifest", "(III)V"⟩ prog_13_method_16_code 9 (none) ∈ lw_tbl := zin_6 _ (List.mem_of_getElem? (l := tables_1_6) (i := 100) rfl)
theorem zw1309 : Cond.code ⟨"DiodeLinkModel", "mask", "(IIIII)I"⟩ prog_13_method_21_code 7 (some .int) ∈ lw_tbl := zin_6 _ (List.mem_of_getElem? (l := tables_1_6) (i := 137) rfl)
theorem zw1310 : Cond.code ⟨"DiodeLinkModel", "more", "(JI)J"⟩ prog_13_method_5_code 3 (some .long) ∈ lw_tbl := zin_6 _ (List.mem_of_getElem? (l := tables_1_6) (i := 111) rfl)
theorem zw1311 : Cond.code ⟨"DiodeLinkModel", "move", "(II)V"⟩ prog_13_method_9_code 4 (none) ∈ lw_tbl := zin_6 _ (List.mem_of_getElem? (l := tables_1_6) (i := 88) rfl)
theorem zw1312 : Cond.code ⟨"DiodeLinkModel", "note", "(IIII)V"⟩ prog_13_method_75_code 8 (none) ∈ lw_tbl := zin_7 _ (List.mem_of_getElem? (l := tables_1_7) (i := 62) rfl)
theorem zw1313 : Cond.code ⟨"DiodeLinkModel", "order", "(I)I"⟩ prog_13_method_8_code 3 (some .int) ∈ lw_tbl := zin_6 _ (List.mem_of_getElem? (l := tables_1_6) (i := 80) rfl)
theorem zw1314 : Cond.code ⟨"DiodeLinkModel", "packet", "(II)J"⟩ prog_13_method_30_code 3 (some .long) ∈ lw_tbl := zin_6 _ (List.mem_of_getElem? (l := tables_1_6) (i := 154) rfl)
theorem zw1315 : Cond.code ⟨"DiodeLinkModel", "piece", "(III)J"⟩ prog_13_method_24_code 8 (some .long) ∈ lw_tbl := zin_6 _ (List.mem_of_getElem? (l := tables_1_6) (i := 142) rfl)
theorem zw1316 : Cond.code ⟨"DiodeLinkModel", "pieces", "(II)I"⟩ prog_13_method_20_code 3 (some .int) ∈ lw_tbl := zin_6 _ (List.mem_of_getElem? (l := tables_1_6) (i := 134) rfl)
theorem zw1317 : Cond.code ⟨"DiodeLinkModel", "place", "(I)I"⟩ prog_13_method_10_code 3 (some .int) ∈ lw_tbl := zin_6 _ (List.mem_of_getElem? (l := tables_1_6) (i := 76) rfl)
theorem zw1318 : Cond.code ⟨"DiodeLinkModel", "placeOf", "(II)I"⟩ prog_13_method_40_code 4 (some .int) ∈ lw_tbl := zin_6 _ (List.mem_of_getElem? (l := tables_1_6) (i := 198) rfl)
theorem zw1319 : Cond.code ⟨"DiodeLinkModel", "rank", "(IIII)I"⟩ prog_13_method_69_code 6 (some .int) ∈ lw_tbl := zin_7 _ (List.mem_of_getElem? (l := tables_1_7) (i := 87) rfl)
theorem zw1320 : Cond.code ⟨"DiodeLinkModel", "reject", "(III)V"⟩ prog_13_method_60_code 4 (none) ∈ lw_tbl := zin_7 _ (List.mem_of_getElem? (l := tables_1_7) (i := 58) rfl)
theorem zw1321 : Cond.code ⟨"DiodeLinkModel", "release", "(I)I"⟩ prog_13_method_71_code 3 (some .int) ∈ lw_tbl := zin_7 _ (List.mem_of_getElem? (l := tables_1_7) (i := 91) rfl)
theorem zw1322 : Cond.code ⟨"DiodeLinkModel", "released", "(I)I"⟩ prog_13_method_72_code 2 (some .int) ∈ lw_tbl := zin_7 _ (List.mem_of_getElem? (l := tables_1_7) (i := 99) rfl)
theorem zw1323 : Cond.code ⟨"DiodeLinkModel", "remove", "(I)Z"⟩ prog_13_method_14_code 6 (some .boolean) ∈ lw_tbl := zin_6 _ (List.mem_of_getElem? (l := tables_1_6) (i := 92) rfl)
theorem zw1324 : Cond.code ⟨"DiodeLinkModel", "restartReceiver", "()V"⟩ prog_13_method_35_code 1 (none) ∈ lw_tbl := zin_6 _ (List.mem_of_getElem? (l := tables_1_6) (i := 174) rfl)
theorem zw1325 : Cond.code ⟨"DiodeLinkModel", "restartSender", "()I"⟩ prog_13_method_32_code 1 (some .int) ∈ lw_tbl := zin_6 _ (List.mem_of_getElem? (l := tables_1_6) (i := 170) rfl)
theorem zw1326 : Cond.code ⟨"DiodeLinkModel", "room", "()Z"⟩ prog_13_method_46_code 3 (some .boolean) ∈ lw_tbl := zin_6 _ (List.mem_of_getElem? (l := tables_1_6) (i := 230) rfl)
theorem zw1327 : Cond.code ⟨"DiodeLinkModel", "rowsOf", "(II)I"⟩ prog_13_method_44_code 5 (some .int) ∈ lw_tbl := zin_6 _ (List.mem_of_getElem? (l := tables_1_6) (i := 238) rfl)
theorem zw1328 : Cond.code ⟨"DiodeLinkModel", "rule", "(IIZ)V"⟩ prog_13_method_66_code 5 (none) ∈ lw_tbl := zin_7 _ (List.mem_of_getElem? (l := tables_1_7) (i := 74) rfl)
theorem zw1329 : Cond.code ⟨"DiodeLinkModel", "send", "()I"⟩ prog_13_method_27_code 10 (some .int) ∈ lw_tbl := zin_6 _ (List.mem_of_getElem? (l := tables_1_6) (i := 120) rfl)
theorem zw1330 : Cond.code ⟨"DiodeLinkModel", "share", "(I)V"⟩ prog_13_method_57_code 5 (none) ∈ lw_tbl := zin_7 _ (List.mem_of_getElem? (l := tables_1_7) (i := 46) rfl)
theorem zw1331 : Cond.code ⟨"DiodeLinkModel", "shift", "(I)V"⟩ prog_13_method_38_code 4 (none) ∈ lw_tbl := zin_6 _ (List.mem_of_getElem? (l := tables_1_6) (i := 214) rfl)
theorem zw1332 : Cond.code ⟨"DiodeLinkModel", "sizeTold", "(II)I"⟩ prog_13_method_52_code 4 (some .int) ∈ lw_tbl := zin_7 _ (List.mem_of_getElem? (l := tables_1_7) (i := 26) rfl)
theorem zw1333 : Cond.code ⟨"DiodeLinkModel", "solve", "(III)V"⟩ prog_13_method_65_code 9 (none) ∈ lw_tbl := zin_7 _ (List.mem_of_getElem? (l := tables_1_7) (i := 2) rfl)
theorem zw1334 : Cond.code ⟨"DiodeLinkModel", "sum", "(III)I"⟩ prog_13_method_42_code 9 (some .int) ∈ lw_tbl := zin_6 _ (List.mem_of_getElem? (l := tables_1_6) (i := 226) rfl)
theorem zw1335 : Cond.code ⟨"DiodeLinkModel", "takes", "(IIII)I"⟩ prog_13_method_64_code 10 (some .int) ∈ lw_tbl := zin_6 _ (List.mem_of_getElem? (l := tables_1_6) (i := 222) rfl)
theorem zw1336 : Cond.code ⟨"DiodeLinkModel", "tells", "(II)I"⟩ prog_13_method_49_code 5 (some .int) ∈ lw_tbl := zin_7 _ (List.mem_of_getElem? (l := tables_1_7) (i := 30) rfl)
theorem zw1337 : Cond.code ⟨"DiodeLinkModel", "thrown", "()I"⟩ prog_13_method_2_code 1 (some .int) ∈ lw_tbl := zin_6 _ (List.mem_of_getElem? (l := tables_1_6) (i := 52) rfl)
theorem zw1338 : Cond.code ⟨"DiodeLinkModel", "together", "(III)J"⟩ prog_13_method_43_code 8 (some .long) ∈ lw_tbl := zin_7 _ (List.mem_of_getElem? (l := tables_1_7) (i := 6) rfl)
theorem zw1339 : Cond.code ⟨"DiodeLinkModel", "told", "(III)I"⟩ prog_13_method_15_code 4 (some .int) ∈ lw_tbl := zin_6 _ (List.mem_of_getElem? (l := tables_1_6) (i := 104) rfl)
theorem zw1340 : Cond.code ⟨"DiodeLinkModel", "touch", "(III)V"⟩ prog_13_method_78_code 4 (none) ∈ lw_tbl := zin_7 _ (List.mem_of_getElem? (l := tables_1_7) (i := 115) rfl)
theorem zw1341 : Cond.code ⟨"DiodeLinkModel", "unsize", "()V"⟩ prog_13_method_33_code 4 (none) ∈ lw_tbl := zin_6 _ (List.mem_of_getElem? (l := tables_1_6) (i := 178) rfl)
theorem zw1342 : Cond.code ⟨"DiodeLinkModel", "wasReleased", "(II)Z"⟩ prog_13_method_67_code 5 (some .boolean) ∈ lw_tbl := zin_7 _ (List.mem_of_getElem? (l := tables_1_7) (i := 83) rfl)
theorem zw1343 : Cond.code ⟨"DiodeLinkModel", "within", "(III)I"⟩ prog_13_method_22_code 10 (some .int) ∈ lw_tbl := zin_6 _ (List.mem_of_getElem? (l := tables_1_6) (i := 128) rfl)
theorem zw1344 : Cond.code ⟨"DiodeLinkModel", "write", "(I)I"⟩ prog_13_method_13_code 8 (some .int) ∈ lw_tbl := zin_6 _ (List.mem_of_getElem? (l := tables_1_6) (i := 68) rfl)
theorem zw1345 : Cond.code ⟨"java/lang/Math", "floorMod", "(II)I"⟩ prog_18_method_50_code 3 (some .int) ∈ lw_tbl := zin_3 _ (List.mem_of_getElem? (l := tables_1_3) (i := 82) rfl)
theorem zTs0_in : ∀ w ∈ zTs0, w ∈ lw_tbl := List.forall_mem_cons.mpr ⟨zw0, List.forall_mem_cons.mpr ⟨zw1, List.forall_mem_cons.mpr ⟨zw2, List.forall_mem_cons.mpr ⟨zw3, List.forall_mem_cons.mpr ⟨zw4, List.forall_mem_cons.mpr ⟨zw5, List.forall_mem_cons.mpr ⟨zw6, List.forall_mem_cons.mpr ⟨zw7, List.forall_mem_cons.mpr ⟨zw8, List.forall_mem_cons.mpr ⟨zw9, List.forall_mem_cons.mpr ⟨zw10, List.forall_mem_cons.mpr ⟨zw11, List.forall_mem_cons.mpr ⟨zw12, List.forall_mem_cons.mpr ⟨zw13, List.forall_mem_cons.mpr ⟨zw14, List.forall_mem_cons.mpr ⟨zw15, List.forall_mem_cons.mpr ⟨zw16, List.forall_mem_cons.mpr ⟨zw17, List.forall_mem_cons.mpr ⟨zw18, List.forall_mem_cons.mpr ⟨zw19, List.forall_mem_cons.mpr ⟨zw20, List.forall_mem_cons.mpr ⟨zw21, List.forall_mem_cons.mpr ⟨zw22, List.forall_mem_cons.mpr ⟨zw23, List.forall_mem_cons.mpr ⟨zw24, List.forall_mem_cons.mpr ⟨zw25, List.forall_mem_cons.mpr ⟨zw26, List.forall_mem_cons.mpr ⟨zw27, List.forall_mem_cons.mpr ⟨zw28, List.forall_mem_cons.mpr ⟨zw29, List.forall_mem_cons.mpr ⟨zw30, List.forall_mem_cons.mpr ⟨zw31, List.forall_mem_cons.mpr ⟨zw32, List.forall_mem_cons.mpr ⟨zw33, List.forall_mem_cons.mpr ⟨zw34, List.forall_mem_cons.mpr ⟨zw35, List.forall_mem_cons.mpr ⟨zw36, List.forall_mem_cons.mpr ⟨zw37, List.forall_mem_cons.mpr ⟨zw38, List.forall_mem_cons.mpr ⟨zw39, (fun _ h => nomatch h)⟩⟩⟩⟩⟩⟩⟩⟩⟩⟩⟩⟩⟩⟩⟩⟩⟩⟩⟩⟩⟩⟩⟩⟩⟩⟩⟩⟩⟩⟩⟩⟩⟩⟩⟩⟩⟩⟩⟩⟩
theorem zTs1_in : ∀ w ∈ zTs1, w ∈ lw_tbl := List.forall_mem_cons.mpr ⟨zw40, List.forall_mem_cons.mpr ⟨zw41, List.forall_mem_cons.mpr ⟨zw42, List.forall_mem_cons.mpr ⟨zw43, List.forall_mem_cons.mpr ⟨zw44, List.forall_mem_cons.mpr ⟨zw45, List.forall_mem_cons.mpr ⟨zw46, List.forall_mem_cons.mpr ⟨zw47, List.forall_mem_cons.mpr ⟨zw48, List.forall_mem_cons.mpr ⟨zw49, List.forall_mem_cons.mpr ⟨zw50, List.forall_mem_cons.mpr ⟨zw51, List.forall_mem_cons.mpr ⟨zw52, List.forall_mem_cons.mpr ⟨zw53, List.forall_mem_cons.mpr ⟨zw54, List.forall_mem_cons.mpr ⟨zw55, List.forall_mem_cons.mpr ⟨zw56, List.forall_mem_cons.mpr ⟨zw57, List.forall_mem_cons.mpr ⟨zw58, List.forall_mem_cons.mpr ⟨zw59, List.forall_mem_cons.mpr ⟨zw60, List.forall_mem_cons.mpr ⟨zw61, List.forall_mem_cons.mpr ⟨zw62, List.forall_mem_cons.mpr ⟨zw63, List.forall_mem_cons.mpr ⟨zw64, List.forall_mem_cons.mpr ⟨zw65, List.forall_mem_cons.mpr ⟨zw66, List.forall_mem_cons.mpr ⟨zw67, List.forall_mem_cons.mpr ⟨zw68, List.forall_mem_cons.mpr ⟨zw69, List.forall_mem_cons.mpr ⟨zw70, List.forall_mem_cons.mpr ⟨zw71, List.forall_mem_cons.mpr ⟨zw72, List.forall_mem_cons.mpr ⟨zw73, List.forall_mem_cons.mpr ⟨zw74, List.forall_mem_cons.mpr ⟨zw75, List.forall_mem_cons.mpr ⟨zw76, List.forall_mem_cons.mpr ⟨zw77, List.forall_mem_cons.mpr ⟨zw78, List.forall_mem_cons.mpr ⟨zw79, (fun _ h => nomatch h)⟩⟩⟩⟩⟩⟩⟩⟩⟩⟩⟩⟩⟩⟩⟩⟩⟩⟩⟩⟩⟩⟩⟩⟩⟩⟩⟩⟩⟩⟩⟩⟩⟩⟩⟩⟩⟩⟩⟩⟩
theorem zTs2_in : ∀ w ∈ zTs2, w ∈ lw_tbl := List.forall_mem_cons.mpr ⟨zw80, List.forall_mem_cons.mpr ⟨zw81, List.forall_mem_cons.mpr ⟨zw82, List.forall_mem_cons.mpr ⟨zw83, List.forall_mem_cons.mpr ⟨zw84, List.forall_mem_cons.mpr ⟨zw85, List.forall_mem_cons.mpr ⟨zw86, List.forall_mem_cons.mpr ⟨zw87, List.forall_mem_cons.mpr ⟨zw88, List.forall_mem_cons.mpr ⟨zw89, List.forall_mem_cons.mpr ⟨zw90, List.forall_mem_cons.mpr ⟨zw91, List.forall_mem_cons.mpr ⟨zw92, List.forall_mem_cons.mpr ⟨zw93, List.forall_mem_cons.mpr ⟨zw94, List.forall_mem_cons.mpr ⟨zw95, List.forall_mem_cons.mpr ⟨zw96, List.forall_mem_cons.mpr ⟨zw97, List.forall_mem_cons.mpr ⟨zw98, List.forall_mem_cons.mpr ⟨zw99, List.forall_mem_cons.mpr ⟨zw100, List.forall_mem_cons.mpr ⟨zw101, List.forall_mem_cons.mpr ⟨zw102, List.forall_mem_cons.mpr ⟨zw103, List.forall_mem_cons.mpr ⟨zw104, List.forall_mem_cons.mpr ⟨zw105, List.forall_mem_cons.mpr ⟨zw106, List.forall_mem_cons.mpr ⟨zw107, List.forall_mem_cons.mpr ⟨zw108, List.forall_mem_cons.mpr ⟨zw109, List.forall_mem_cons.mpr ⟨zw110, List.forall_mem_cons.mpr ⟨zw111, List.forall_mem_cons.mpr ⟨zw112, List.forall_mem_cons.mpr ⟨zw113, List.forall_mem_cons.mpr ⟨zw114, List.forall_mem_cons.mpr ⟨zw115, List.forall_mem_cons.mpr ⟨zw116, List.forall_mem_cons.mpr ⟨zw117, List.forall_mem_cons.mpr ⟨zw118, List.forall_mem_cons.mpr ⟨zw108, (fun _ h => nomatch h)⟩⟩⟩⟩⟩⟩⟩⟩⟩⟩⟩⟩⟩⟩⟩⟩⟩⟩⟩⟩⟩⟩⟩⟩⟩⟩⟩⟩⟩⟩⟩⟩⟩⟩⟩⟩⟩⟩⟩⟩
theorem zTs3_in : ∀ w ∈ zTs3, w ∈ lw_tbl := List.forall_mem_cons.mpr ⟨zw119, List.forall_mem_cons.mpr ⟨zw120, List.forall_mem_cons.mpr ⟨zw121, List.forall_mem_cons.mpr ⟨zw122, List.forall_mem_cons.mpr ⟨zw123, List.forall_mem_cons.mpr ⟨zw124, List.forall_mem_cons.mpr ⟨zw125, List.forall_mem_cons.mpr ⟨zw126, List.forall_mem_cons.mpr ⟨zw127, List.forall_mem_cons.mpr ⟨zw128, List.forall_mem_cons.mpr ⟨zw129, List.forall_mem_cons.mpr ⟨zw130, List.forall_mem_cons.mpr ⟨zw131, List.forall_mem_cons.mpr ⟨zw132, List.forall_mem_cons.mpr ⟨zw133, List.forall_mem_cons.mpr ⟨zw134, List.forall_mem_cons.mpr ⟨zw135, List.forall_mem_cons.mpr ⟨zw136, List.forall_mem_cons.mpr ⟨zw137, List.forall_mem_cons.mpr ⟨zw138, List.forall_mem_cons.mpr ⟨zw139, List.forall_mem_cons.mpr ⟨zw140, List.forall_mem_cons.mpr ⟨zw141, List.forall_mem_cons.mpr ⟨zw142, List.forall_mem_cons.mpr ⟨zw143, List.forall_mem_cons.mpr ⟨zw144, List.forall_mem_cons.mpr ⟨zw145, List.forall_mem_cons.mpr ⟨zw146, List.forall_mem_cons.mpr ⟨zw147, List.forall_mem_cons.mpr ⟨zw148, List.forall_mem_cons.mpr ⟨zw149, List.forall_mem_cons.mpr ⟨zw150, List.forall_mem_cons.mpr ⟨zw151, List.forall_mem_cons.mpr ⟨zw152, List.forall_mem_cons.mpr ⟨zw153, List.forall_mem_cons.mpr ⟨zw154, List.forall_mem_cons.mpr ⟨zw155, List.forall_mem_cons.mpr ⟨zw156, List.forall_mem_cons.mpr ⟨zw157, List.forall_mem_cons.mpr ⟨zw158, (fun _ h => nomatch h)⟩⟩⟩⟩⟩⟩⟩⟩⟩⟩⟩⟩⟩⟩⟩⟩⟩⟩⟩⟩⟩⟩⟩⟩⟩⟩⟩⟩⟩⟩⟩⟩⟩⟩⟩⟩⟩⟩⟩⟩
theorem zTs4_in : ∀ w ∈ zTs4, w ∈ lw_tbl := List.forall_mem_cons.mpr ⟨zw159, List.forall_mem_cons.mpr ⟨zw160, List.forall_mem_cons.mpr ⟨zw161, List.forall_mem_cons.mpr ⟨zw162, List.forall_mem_cons.mpr ⟨zw163, List.forall_mem_cons.mpr ⟨zw164, List.forall_mem_cons.mpr ⟨zw165, List.forall_mem_cons.mpr ⟨zw166, List.forall_mem_cons.mpr ⟨zw167, List.forall_mem_cons.mpr ⟨zw168, List.forall_mem_cons.mpr ⟨zw169, List.forall_mem_cons.mpr ⟨zw170, List.forall_mem_cons.mpr ⟨zw171, List.forall_mem_cons.mpr ⟨zw172, List.forall_mem_cons.mpr ⟨zw173, List.forall_mem_cons.mpr ⟨zw174, List.forall_mem_cons.mpr ⟨zw175, List.forall_mem_cons.mpr ⟨zw176, List.forall_mem_cons.mpr ⟨zw177, List.forall_mem_cons.mpr ⟨zw178, List.forall_mem_cons.mpr ⟨zw179, List.forall_mem_cons.mpr ⟨zw180, List.forall_mem_cons.mpr ⟨zw181, List.forall_mem_cons.mpr ⟨zw182, List.forall_mem_cons.mpr ⟨zw183, List.forall_mem_cons.mpr ⟨zw106, List.forall_mem_cons.mpr ⟨zw107, List.forall_mem_cons.mpr ⟨zw184, List.forall_mem_cons.mpr ⟨zw185, List.forall_mem_cons.mpr ⟨zw186, List.forall_mem_cons.mpr ⟨zw187, List.forall_mem_cons.mpr ⟨zw188, List.forall_mem_cons.mpr ⟨zw189, List.forall_mem_cons.mpr ⟨zw190, List.forall_mem_cons.mpr ⟨zw191, List.forall_mem_cons.mpr ⟨zw192, List.forall_mem_cons.mpr ⟨zw193, List.forall_mem_cons.mpr ⟨zw194, List.forall_mem_cons.mpr ⟨zw195, List.forall_mem_cons.mpr ⟨zw196, (fun _ h => nomatch h)⟩⟩⟩⟩⟩⟩⟩⟩⟩⟩⟩⟩⟩⟩⟩⟩⟩⟩⟩⟩⟩⟩⟩⟩⟩⟩⟩⟩⟩⟩⟩⟩⟩⟩⟩⟩⟩⟩⟩⟩
theorem zTs5_in : ∀ w ∈ zTs5, w ∈ lw_tbl := List.forall_mem_cons.mpr ⟨zw197, List.forall_mem_cons.mpr ⟨zw198, List.forall_mem_cons.mpr ⟨zw199, List.forall_mem_cons.mpr ⟨zw200, List.forall_mem_cons.mpr ⟨zw201, List.forall_mem_cons.mpr ⟨zw202, List.forall_mem_cons.mpr ⟨zw203, List.forall_mem_cons.mpr ⟨zw192, List.forall_mem_cons.mpr ⟨zw204, List.forall_mem_cons.mpr ⟨zw205, List.forall_mem_cons.mpr ⟨zw203, List.forall_mem_cons.mpr ⟨zw192, List.forall_mem_cons.mpr ⟨zw204, List.forall_mem_cons.mpr ⟨zw206, List.forall_mem_cons.mpr ⟨zw207, List.forall_mem_cons.mpr ⟨zw208, List.forall_mem_cons.mpr ⟨zw191, List.forall_mem_cons.mpr ⟨zw192, List.forall_mem_cons.mpr ⟨zw193, List.forall_mem_cons.mpr ⟨zw209, List.forall_mem_cons.mpr ⟨zw106, List.forall_mem_cons.mpr ⟨zw107, List.forall_mem_cons.mpr ⟨zw210, List.forall_mem_cons.mpr ⟨zw211, List.forall_mem_cons.mpr ⟨zw212, List.forall_mem_cons.mpr ⟨zw213, List.forall_mem_cons.mpr ⟨zw210, List.forall_mem_cons.mpr ⟨zw109, List.forall_mem_cons.mpr ⟨zw110, List.forall_mem_cons.mpr ⟨zw214, List.forall_mem_cons.mpr ⟨zw215, List.forall_mem_cons.mpr ⟨zw216, List.forall_mem_cons.mpr ⟨zw217, List.forall_mem_cons.mpr ⟨zw218, List.forall_mem_cons.mpr ⟨zw219, List.forall_mem_cons.mpr ⟨zw220, List.forall_mem_cons.mpr ⟨zw221, List.forall_mem_cons.mpr ⟨zw222, List.forall_mem_cons.mpr ⟨zw223, List.forall_mem_cons.mpr ⟨zw224, (fun _ h => nomatch h)⟩⟩⟩⟩⟩⟩⟩⟩⟩⟩⟩⟩⟩⟩⟩⟩⟩⟩⟩⟩⟩⟩⟩⟩⟩⟩⟩⟩⟩⟩⟩⟩⟩⟩⟩⟩⟩⟩⟩⟩
theorem zTs6_in : ∀ w ∈ zTs6, w ∈ lw_tbl := List.forall_mem_cons.mpr ⟨zw225, List.forall_mem_cons.mpr ⟨zw226, List.forall_mem_cons.mpr ⟨zw227, List.forall_mem_cons.mpr ⟨zw228, List.forall_mem_cons.mpr ⟨zw229, List.forall_mem_cons.mpr ⟨zw230, List.forall_mem_cons.mpr ⟨zw231, List.forall_mem_cons.mpr ⟨zw106, List.forall_mem_cons.mpr ⟨zw107, List.forall_mem_cons.mpr ⟨zw232, List.forall_mem_cons.mpr ⟨zw233, List.forall_mem_cons.mpr ⟨zw234, List.forall_mem_cons.mpr ⟨zw235, List.forall_mem_cons.mpr ⟨zw236, List.forall_mem_cons.mpr ⟨zw237, List.forall_mem_cons.mpr ⟨zw238, List.forall_mem_cons.mpr ⟨zw232, List.forall_mem_cons.mpr ⟨zw109, List.forall_mem_cons.mpr ⟨zw110, List.forall_mem_cons.mpr ⟨zw239, List.forall_mem_cons.mpr ⟨zw235, List.forall_mem_cons.mpr ⟨zw240, List.forall_mem_cons.mpr ⟨zw241, List.forall_mem_cons.mpr ⟨zw242, List.forall_mem_cons.mpr ⟨zw243, List.forall_mem_cons.mpr ⟨zw244, List.forall_mem_cons.mpr ⟨zw245, List.forall_mem_cons.mpr ⟨zw246, List.forall_mem_cons.mpr ⟨zw247, List.forall_mem_cons.mpr ⟨zw248, List.forall_mem_cons.mpr ⟨zw249, List.forall_mem_cons.mpr ⟨zw106, List.forall_mem_cons.mpr ⟨zw107, List.forall_mem_cons.mpr ⟨zw250, List.forall_mem_cons.mpr ⟨zw251, List.forall_mem_cons.mpr ⟨zw252, List.forall_mem_cons.mpr ⟨zw253, List.forall_mem_cons.mpr ⟨zw109, List.forall_mem_cons.mpr ⟨zw110, List.forall_mem_cons.mpr ⟨zw254, (fun _ h => nomatch h)⟩⟩⟩⟩⟩⟩⟩⟩⟩⟩⟩⟩⟩⟩⟩⟩⟩⟩⟩⟩⟩⟩⟩⟩⟩⟩⟩⟩⟩⟩⟩⟩⟩⟩⟩⟩⟩⟩⟩⟩
theorem zTs7_in : ∀ w ∈ zTs7, w ∈ lw_tbl := List.forall_mem_cons.mpr ⟨zw255, List.forall_mem_cons.mpr ⟨zw256, List.forall_mem_cons.mpr ⟨zw257, List.forall_mem_cons.mpr ⟨zw258, List.forall_mem_cons.mpr ⟨zw259, List.forall_mem_cons.mpr ⟨zw260, List.forall_mem_cons.mpr ⟨zw261, List.forall_mem_cons.mpr ⟨zw262, List.forall_mem_cons.mpr ⟨zw263, List.forall_mem_cons.mpr ⟨zw264, List.forall_mem_cons.mpr ⟨zw265, List.forall_mem_cons.mpr ⟨zw266, List.forall_mem_cons.mpr ⟨zw203, List.forall_mem_cons.mpr ⟨zw192, List.forall_mem_cons.mpr ⟨zw204, List.forall_mem_cons.mpr ⟨zw267, List.forall_mem_cons.mpr ⟨zw268, List.forall_mem_cons.mpr ⟨zw106, List.forall_mem_cons.mpr ⟨zw107, List.forall_mem_cons.mpr ⟨zw269, List.forall_mem_cons.mpr ⟨zw270, List.forall_mem_cons.mpr ⟨zw271, List.forall_mem_cons.mpr ⟨zw272, List.forall_mem_cons.mpr ⟨zw273, List.forall_mem_cons.mpr ⟨zw274, List.forall_mem_cons.mpr ⟨zw275, List.forall_mem_cons.mpr ⟨zw276, List.forall_mem_cons.mpr ⟨zw277, List.forall_mem_cons.mpr ⟨zw278, List.forall_mem_cons.mpr ⟨zw279, List.forall_mem_cons.mpr ⟨zw269, List.forall_mem_cons.mpr ⟨zw280, List.forall_mem_cons.mpr ⟨zw281, List.forall_mem_cons.mpr ⟨zw282, List.forall_mem_cons.mpr ⟨zw283, List.forall_mem_cons.mpr ⟨zw284, List.forall_mem_cons.mpr ⟨zw285, List.forall_mem_cons.mpr ⟨zw286, List.forall_mem_cons.mpr ⟨zw287, List.forall_mem_cons.mpr ⟨zw288, (fun _ h => nomatch h)⟩⟩⟩⟩⟩⟩⟩⟩⟩⟩⟩⟩⟩⟩⟩⟩⟩⟩⟩⟩⟩⟩⟩⟩⟩⟩⟩⟩⟩⟩⟩⟩⟩⟩⟩⟩⟩⟩⟩⟩
theorem zTs8_in : ∀ w ∈ zTs8, w ∈ lw_tbl := List.forall_mem_cons.mpr ⟨zw289, List.forall_mem_cons.mpr ⟨zw290, List.forall_mem_cons.mpr ⟨zw291, List.forall_mem_cons.mpr ⟨zw292, List.forall_mem_cons.mpr ⟨zw293, List.forall_mem_cons.mpr ⟨zw294, List.forall_mem_cons.mpr ⟨zw295, List.forall_mem_cons.mpr ⟨zw296, List.forall_mem_cons.mpr ⟨zw203, List.forall_mem_cons.mpr ⟨zw192, List.forall_mem_cons.mpr ⟨zw204, List.forall_mem_cons.mpr ⟨zw297, List.forall_mem_cons.mpr ⟨zw298, List.forall_mem_cons.mpr ⟨zw299, List.forall_mem_cons.mpr ⟨zw300, List.forall_mem_cons.mpr ⟨zw301, List.forall_mem_cons.mpr ⟨zw302, List.forall_mem_cons.mpr ⟨zw303, List.forall_mem_cons.mpr ⟨zw304, List.forall_mem_cons.mpr ⟨zw305, List.forall_mem_cons.mpr ⟨zw306, List.forall_mem_cons.mpr ⟨zw307, List.forall_mem_cons.mpr ⟨zw308, List.forall_mem_cons.mpr ⟨zw309, List.forall_mem_cons.mpr ⟨zw310, List.forall_mem_cons.mpr ⟨zw311, List.forall_mem_cons.mpr ⟨zw312, List.forall_mem_cons.mpr ⟨zw313, List.forall_mem_cons.mpr ⟨zw314, List.forall_mem_cons.mpr ⟨zw315, List.forall_mem_cons.mpr ⟨zw316, List.forall_mem_cons.mpr ⟨zw317, List.forall_mem_cons.mpr ⟨zw318, List.forall_mem_cons.mpr ⟨zw319, List.forall_mem_cons.mpr ⟨zw320, List.forall_mem_cons.mpr ⟨zw321, List.forall_mem_cons.mpr ⟨zw322, List.forall_mem_cons.mpr ⟨zw323, List.forall_mem_cons.mpr ⟨zw324, List.forall_mem_cons.mpr ⟨zw325, (fun _ h => nomatch h)⟩⟩⟩⟩⟩⟩⟩⟩⟩⟩⟩⟩⟩⟩⟩⟩⟩⟩⟩⟩⟩⟩⟩⟩⟩⟩⟩⟩⟩⟩⟩⟩⟩⟩⟩⟩⟩⟩⟩⟩
theorem zTs9_in : ∀ w ∈ zTs9, w ∈ lw_tbl := List.forall_mem_cons.mpr ⟨zw326, List.forall_mem_cons.mpr ⟨zw327, List.forall_mem_cons.mpr ⟨zw328, List.forall_mem_cons.mpr ⟨zw329, List.forall_mem_cons.mpr ⟨zw330, List.forall_mem_cons.mpr ⟨zw331, List.forall_mem_cons.mpr ⟨zw332, List.forall_mem_cons.mpr ⟨zw333, List.forall_mem_cons.mpr ⟨zw334, List.forall_mem_cons.mpr ⟨zw335, List.forall_mem_cons.mpr ⟨zw336, List.forall_mem_cons.mpr ⟨zw337, List.forall_mem_cons.mpr ⟨zw338, List.forall_mem_cons.mpr ⟨zw339, List.forall_mem_cons.mpr ⟨zw340, List.forall_mem_cons.mpr ⟨zw341, List.forall_mem_cons.mpr ⟨zw342, List.forall_mem_cons.mpr ⟨zw343, List.forall_mem_cons.mpr ⟨zw344, List.forall_mem_cons.mpr ⟨zw345, List.forall_mem_cons.mpr ⟨zw346, List.forall_mem_cons.mpr ⟨zw347, List.forall_mem_cons.mpr ⟨zw348, List.forall_mem_cons.mpr ⟨zw349, List.forall_mem_cons.mpr ⟨zw106, List.forall_mem_cons.mpr ⟨zw107, List.forall_mem_cons.mpr ⟨zw350, List.forall_mem_cons.mpr ⟨zw351, List.forall_mem_cons.mpr ⟨zw352, List.forall_mem_cons.mpr ⟨zw353, List.forall_mem_cons.mpr ⟨zw354, List.forall_mem_cons.mpr ⟨zw355, List.forall_mem_cons.mpr ⟨zw356, List.forall_mem_cons.mpr ⟨zw106, List.forall_mem_cons.mpr ⟨zw107, List.forall_mem_cons.mpr ⟨zw357, List.forall_mem_cons.mpr ⟨zw358, List.forall_mem_cons.mpr ⟨zw359, List.forall_mem_cons.mpr ⟨zw360, List.forall_mem_cons.mpr ⟨zw361, (fun _ h => nomatch h)⟩⟩⟩⟩⟩⟩⟩⟩⟩⟩⟩⟩⟩⟩⟩⟩⟩⟩⟩⟩⟩⟩⟩⟩⟩⟩⟩⟩⟩⟩⟩⟩⟩⟩⟩⟩⟩⟩⟩⟩
theorem zTs10_in : ∀ w ∈ zTs10, w ∈ lw_tbl := List.forall_mem_cons.mpr ⟨zw362, List.forall_mem_cons.mpr ⟨zw363, List.forall_mem_cons.mpr ⟨zw364, List.forall_mem_cons.mpr ⟨zw365, List.forall_mem_cons.mpr ⟨zw366, List.forall_mem_cons.mpr ⟨zw367, List.forall_mem_cons.mpr ⟨zw368, List.forall_mem_cons.mpr ⟨zw369, List.forall_mem_cons.mpr ⟨zw370, List.forall_mem_cons.mpr ⟨zw106, List.forall_mem_cons.mpr ⟨zw107, List.forall_mem_cons.mpr ⟨zw371, List.forall_mem_cons.mpr ⟨zw372, List.forall_mem_cons.mpr ⟨zw373, List.forall_mem_cons.mpr ⟨zw374, List.forall_mem_cons.mpr ⟨zw375, List.forall_mem_cons.mpr ⟨zw371, List.forall_mem_cons.mpr ⟨zw376, List.forall_mem_cons.mpr ⟨zw377, List.forall_mem_cons.mpr ⟨zw378, List.forall_mem_cons.mpr ⟨zw379, List.forall_mem_cons.mpr ⟨zw380, List.forall_mem_cons.mpr ⟨zw381, List.forall_mem_cons.mpr ⟨zw382, List.forall_mem_cons.mpr ⟨zw383, List.forall_mem_cons.mpr ⟨zw384, List.forall_mem_cons.mpr ⟨zw385, List.forall_mem_cons.mpr ⟨zw386, List.forall_mem_cons.mpr ⟨zw387, List.forall_mem_cons.mpr ⟨zw388, List.forall_mem_cons.mpr ⟨zw106, List.forall_mem_cons.mpr ⟨zw107, List.forall_mem_cons.mpr ⟨zw389, List.forall_mem_cons.mpr ⟨zw390, List.forall_mem_cons.mpr ⟨zw391, List.forall_mem_cons.mpr ⟨zw392, List.forall_mem_cons.mpr ⟨zw393, List.forall_mem_cons.mpr ⟨zw394, List.forall_mem_cons.mpr ⟨zw395, List.forall_mem_cons.mpr ⟨zw396, (fun _ h => nomatch h)⟩⟩⟩⟩⟩⟩⟩⟩⟩⟩⟩⟩⟩⟩⟩⟩⟩⟩⟩⟩⟩⟩⟩⟩⟩⟩⟩⟩⟩⟩⟩⟩⟩⟩⟩⟩⟩⟩⟩⟩
theorem zTs11_in : ∀ w ∈ zTs11, w ∈ lw_tbl := List.forall_mem_cons.mpr ⟨zw397, List.forall_mem_cons.mpr ⟨zw398, List.forall_mem_cons.mpr ⟨zw399, List.forall_mem_cons.mpr ⟨zw400, List.forall_mem_cons.mpr ⟨zw389, List.forall_mem_cons.mpr ⟨zw109, List.forall_mem_cons.mpr ⟨zw110, List.forall_mem_cons.mpr ⟨zw401, List.forall_mem_cons.mpr ⟨zw402, List.forall_mem_cons.mpr ⟨zw403, List.forall_mem_cons.mpr ⟨zw404, List.forall_mem_cons.mpr ⟨zw405, List.forall_mem_cons.mpr ⟨zw406, List.forall_mem_cons.mpr ⟨zw407, List.forall_mem_cons.mpr ⟨zw408, List.forall_mem_cons.mpr ⟨zw409, List.forall_mem_cons.mpr ⟨zw410, List.forall_mem_cons.mpr ⟨zw411, List.forall_mem_cons.mpr ⟨zw412, List.forall_mem_cons.mpr ⟨zw413, List.forall_mem_cons.mpr ⟨zw414, List.forall_mem_cons.mpr ⟨zw196, List.forall_mem_cons.mpr ⟨zw197, List.forall_mem_cons.mpr ⟨zw198, List.forall_mem_cons.mpr ⟨zw415, List.forall_mem_cons.mpr ⟨zw416, List.forall_mem_cons.mpr ⟨zw417, List.forall_mem_cons.mpr ⟨zw418, List.forall_mem_cons.mpr ⟨zw419, List.forall_mem_cons.mpr ⟨zw420, List.forall_mem_cons.mpr ⟨zw421, List.forall_mem_cons.mpr ⟨zw422, List.forall_mem_cons.mpr ⟨zw423, List.forall_mem_cons.mpr ⟨zw424, List.forall_mem_cons.mpr ⟨zw425, List.forall_mem_cons.mpr ⟨zw426, List.forall_mem_cons.mpr ⟨zw427, List.forall_mem_cons.mpr ⟨zw428, List.forall_mem_cons.mpr ⟨zw429, List.forall_mem_cons.mpr ⟨zw430, (fun _ h => nomatch h)⟩⟩⟩⟩⟩⟩⟩⟩⟩⟩⟩⟩⟩⟩⟩⟩⟩⟩⟩⟩⟩⟩⟩⟩⟩⟩⟩⟩⟩⟩⟩⟩⟩⟩⟩⟩⟩⟩⟩⟩
theorem zTs12_in : ∀ w ∈ zTs12, w ∈ lw_tbl := List.forall_mem_cons.mpr ⟨zw431, List.forall_mem_cons.mpr ⟨zw432, List.forall_mem_cons.mpr ⟨zw433, List.forall_mem_cons.mpr ⟨zw106, List.forall_mem_cons.mpr ⟨zw107, List.forall_mem_cons.mpr ⟨zw434, List.forall_mem_cons.mpr ⟨zw435, List.forall_mem_cons.mpr ⟨zw436, List.forall_mem_cons.mpr ⟨zw437, List.forall_mem_cons.mpr ⟨zw438, List.forall_mem_cons.mpr ⟨zw439, List.forall_mem_cons.mpr ⟨zw440, List.forall_mem_cons.mpr ⟨zw441, List.forall_mem_cons.mpr ⟨zw442, List.forall_mem_cons.mpr ⟨zw443, List.forall_mem_cons.mpr ⟨zw444, List.forall_mem_cons.mpr ⟨zw445, List.forall_mem_cons.mpr ⟨zw446, List.forall_mem_cons.mpr ⟨zw447, List.forall_mem_cons.mpr ⟨zw448, List.forall_mem_cons.mpr ⟨zw449, List.forall_mem_cons.mpr ⟨zw450, List.forall_mem_cons.mpr ⟨zw451, List.forall_mem_cons.mpr ⟨zw452, List.forall_mem_cons.mpr ⟨zw453, List.forall_mem_cons.mpr ⟨zw454, List.forall_mem_cons.mpr ⟨zw455, List.forall_mem_cons.mpr ⟨zw456, List.forall_mem_cons.mpr ⟨zw457, List.forall_mem_cons.mpr ⟨zw458, List.forall_mem_cons.mpr ⟨zw459, List.forall_mem_cons.mpr ⟨zw460, List.forall_mem_cons.mpr ⟨zw461, List.forall_mem_cons.mpr ⟨zw462, List.forall_mem_cons.mpr ⟨zw463, List.forall_mem_cons.mpr ⟨zw464, List.forall_mem_cons.mpr ⟨zw465, List.forall_mem_cons.mpr ⟨zw466, List.forall_mem_cons.mpr ⟨zw467, List.forall_mem_cons.mpr ⟨zw468, (fun _ h => nomatch h)⟩⟩⟩⟩⟩⟩⟩⟩⟩⟩⟩⟩⟩⟩⟩⟩⟩⟩⟩⟩⟩⟩⟩⟩⟩⟩⟩⟩⟩⟩⟩⟩⟩⟩⟩⟩⟩⟩⟩⟩
theorem zTs13_in : ∀ w ∈ zTs13, w ∈ lw_tbl := List.forall_mem_cons.mpr ⟨zw469, List.forall_mem_cons.mpr ⟨zw470, List.forall_mem_cons.mpr ⟨zw471, List.forall_mem_cons.mpr ⟨zw472, List.forall_mem_cons.mpr ⟨zw473, List.forall_mem_cons.mpr ⟨zw474, List.forall_mem_cons.mpr ⟨zw475, List.forall_mem_cons.mpr ⟨zw476, List.forall_mem_cons.mpr ⟨zw477, List.forall_mem_cons.mpr ⟨zw478, List.forall_mem_cons.mpr ⟨zw479, List.forall_mem_cons.mpr ⟨zw480, List.forall_mem_cons.mpr ⟨zw481, List.forall_mem_cons.mpr ⟨zw482, List.forall_mem_cons.mpr ⟨zw483, List.forall_mem_cons.mpr ⟨zw484, List.forall_mem_cons.mpr ⟨zw485, List.forall_mem_cons.mpr ⟨zw486, List.forall_mem_cons.mpr ⟨zw487, List.forall_mem_cons.mpr ⟨zw488, List.forall_mem_cons.mpr ⟨zw489, List.forall_mem_cons.mpr ⟨zw490, List.forall_mem_cons.mpr ⟨zw491, List.forall_mem_cons.mpr ⟨zw492, List.forall_mem_cons.mpr ⟨zw493, List.forall_mem_cons.mpr ⟨zw494, List.forall_mem_cons.mpr ⟨zw495, List.forall_mem_cons.mpr ⟨zw496, List.forall_mem_cons.mpr ⟨zw497, List.forall_mem_cons.mpr ⟨zw498, List.forall_mem_cons.mpr ⟨zw499, List.forall_mem_cons.mpr ⟨zw500, List.forall_mem_cons.mpr ⟨zw501, List.forall_mem_cons.mpr ⟨zw502, List.forall_mem_cons.mpr ⟨zw503, List.forall_mem_cons.mpr ⟨zw504, List.forall_mem_cons.mpr ⟨zw505, List.forall_mem_cons.mpr ⟨zw506, List.forall_mem_cons.mpr ⟨zw507, List.forall_mem_cons.mpr ⟨zw508, (fun _ h => nomatch h)⟩⟩⟩⟩⟩⟩⟩⟩⟩⟩⟩⟩⟩⟩⟩⟩⟩⟩⟩⟩⟩⟩⟩⟩⟩⟩⟩⟩⟩⟩⟩⟩⟩⟩⟩⟩⟩⟩⟩⟩
theorem zTs14_in : ∀ w ∈ zTs14, w ∈ lw_tbl := List.forall_mem_cons.mpr ⟨zw509, List.forall_mem_cons.mpr ⟨zw510, List.forall_mem_cons.mpr ⟨zw511, List.forall_mem_cons.mpr ⟨zw512, List.forall_mem_cons.mpr ⟨zw513, List.forall_mem_cons.mpr ⟨zw514, List.forall_mem_cons.mpr ⟨zw515, List.forall_mem_cons.mpr ⟨zw516, List.forall_mem_cons.mpr ⟨zw517, List.forall_mem_cons.mpr ⟨zw518, List.forall_mem_cons.mpr ⟨zw519, List.forall_mem_cons.mpr ⟨zw520, List.forall_mem_cons.mpr ⟨zw521, List.forall_mem_cons.mpr ⟨zw522, List.forall_mem_cons.mpr ⟨zw523, List.forall_mem_cons.mpr ⟨zw524, List.forall_mem_cons.mpr ⟨zw525, List.forall_mem_cons.mpr ⟨zw526, List.forall_mem_cons.mpr ⟨zw527, List.forall_mem_cons.mpr ⟨zw528, List.forall_mem_cons.mpr ⟨zw529, List.forall_mem_cons.mpr ⟨zw530, List.forall_mem_cons.mpr ⟨zw531, List.forall_mem_cons.mpr ⟨zw532, List.forall_mem_cons.mpr ⟨zw533, List.forall_mem_cons.mpr ⟨zw534, List.forall_mem_cons.mpr ⟨zw535, List.forall_mem_cons.mpr ⟨zw536, List.forall_mem_cons.mpr ⟨zw537, List.forall_mem_cons.mpr ⟨zw538, List.forall_mem_cons.mpr ⟨zw539, List.forall_mem_cons.mpr ⟨zw540, List.forall_mem_cons.mpr ⟨zw541, List.forall_mem_cons.mpr ⟨zw542, List.forall_mem_cons.mpr ⟨zw543, List.forall_mem_cons.mpr ⟨zw544, List.forall_mem_cons.mpr ⟨zw545, List.forall_mem_cons.mpr ⟨zw546, List.forall_mem_cons.mpr ⟨zw547, List.forall_mem_cons.mpr ⟨zw548, (fun _ h => nomatch h)⟩⟩⟩⟩⟩⟩⟩⟩⟩⟩⟩⟩⟩⟩⟩⟩⟩⟩⟩⟩⟩⟩⟩⟩⟩⟩⟩⟩⟩⟩⟩⟩⟩⟩⟩⟩⟩⟩⟩⟩
theorem zTs15_in : ∀ w ∈ zTs15, w ∈ lw_tbl := List.forall_mem_cons.mpr ⟨zw549, List.forall_mem_cons.mpr ⟨zw550, List.forall_mem_cons.mpr ⟨zw551, List.forall_mem_cons.mpr ⟨zw552, List.forall_mem_cons.mpr ⟨zw553, List.forall_mem_cons.mpr ⟨zw554, List.forall_mem_cons.mpr ⟨zw555, List.forall_mem_cons.mpr ⟨zw556, List.forall_mem_cons.mpr ⟨zw557, List.forall_mem_cons.mpr ⟨zw558, List.forall_mem_cons.mpr ⟨zw559, List.forall_mem_cons.mpr ⟨zw560, List.forall_mem_cons.mpr ⟨zw561, List.forall_mem_cons.mpr ⟨zw562, List.forall_mem_cons.mpr ⟨zw563, List.forall_mem_cons.mpr ⟨zw564, List.forall_mem_cons.mpr ⟨zw565, List.forall_mem_cons.mpr ⟨zw566, List.forall_mem_cons.mpr ⟨zw567, List.forall_mem_cons.mpr ⟨zw568, List.forall_mem_cons.mpr ⟨zw569, List.forall_mem_cons.mpr ⟨zw570, List.forall_mem_cons.mpr ⟨zw571, List.forall_mem_cons.mpr ⟨zw572, List.forall_mem_cons.mpr ⟨zw573, List.forall_mem_cons.mpr ⟨zw574, List.forall_mem_cons.mpr ⟨zw575, List.forall_mem_cons.mpr ⟨zw576, List.forall_mem_cons.mpr ⟨zw577, List.forall_mem_cons.mpr ⟨zw578, List.forall_mem_cons.mpr ⟨zw579, List.forall_mem_cons.mpr ⟨zw580, List.forall_mem_cons.mpr ⟨zw581, List.forall_mem_cons.mpr ⟨zw582, List.forall_mem_cons.mpr ⟨zw583, List.forall_mem_cons.mpr ⟨zw584, List.forall_mem_cons.mpr ⟨zw585, List.forall_mem_cons.mpr ⟨zw586, List.forall_mem_cons.mpr ⟨zw587, List.forall_mem_cons.mpr ⟨zw588, (fun _ h => nomatch h)⟩⟩⟩⟩⟩⟩⟩⟩⟩⟩⟩⟩⟩⟩⟩⟩⟩⟩⟩⟩⟩⟩⟩⟩⟩⟩⟩⟩⟩⟩⟩⟩⟩⟩⟩⟩⟩⟩⟩⟩
theorem zTs16_in : ∀ w ∈ zTs16, w ∈ lw_tbl := List.forall_mem_cons.mpr ⟨zw589, List.forall_mem_cons.mpr ⟨zw590, List.forall_mem_cons.mpr ⟨zw591, List.forall_mem_cons.mpr ⟨zw592, List.forall_mem_cons.mpr ⟨zw593, List.forall_mem_cons.mpr ⟨zw594, List.forall_mem_cons.mpr ⟨zw595, List.forall_mem_cons.mpr ⟨zw596, List.forall_mem_cons.mpr ⟨zw597, List.forall_mem_cons.mpr ⟨zw598, List.forall_mem_cons.mpr ⟨zw599, List.forall_mem_cons.mpr ⟨zw600, List.forall_mem_cons.mpr ⟨zw601, List.forall_mem_cons.mpr ⟨zw550, List.forall_mem_cons.mpr ⟨zw602, List.forall_mem_cons.mpr ⟨zw550, List.forall_mem_cons.mpr ⟨zw603, List.forall_mem_cons.mpr ⟨zw604, List.forall_mem_cons.mpr ⟨zw550, List.forall_mem_cons.mpr ⟨zw605, List.forall_mem_cons.mpr ⟨zw550, List.forall_mem_cons.mpr ⟨zw606, List.forall_mem_cons.mpr ⟨zw607, List.forall_mem_cons.mpr ⟨zw550, List.forall_mem_cons.mpr ⟨zw608, List.forall_mem_cons.mpr ⟨zw550, List.forall_mem_cons.mpr ⟨zw609, List.forall_mem_cons.mpr ⟨zw610, List.forall_mem_cons.mpr ⟨zw550, List.forall_mem_cons.mpr ⟨zw611, List.forall_mem_cons.mpr ⟨zw612, List.forall_mem_cons.mpr ⟨zw550, List.forall_mem_cons.mpr ⟨zw613, List.forall_mem_cons.mpr ⟨zw614, List.forall_mem_cons.mpr ⟨zw550, List.forall_mem_cons.mpr ⟨zw615, List.forall_mem_cons.mpr ⟨zw616, List.forall_mem_cons.mpr ⟨zw550, List.forall_mem_cons.mpr ⟨zw617, List.forall_mem_cons.mpr ⟨zw618, (fun _ h => nomatch h)⟩⟩⟩⟩⟩⟩⟩⟩⟩⟩⟩⟩⟩⟩⟩⟩⟩⟩⟩⟩⟩⟩⟩⟩⟩⟩⟩⟩⟩⟩⟩⟩⟩⟩⟩⟩⟩⟩⟩⟩
theorem zTs17_in : ∀ w ∈ zTs17, w ∈ lw_tbl := List.forall_mem_cons.mpr ⟨zw550, List.forall_mem_cons.mpr ⟨zw619, List.forall_mem_cons.mpr ⟨zw620, List.forall_mem_cons.mpr ⟨zw550, List.forall_mem_cons.mpr ⟨zw621, List.forall_mem_cons.mpr ⟨zw550, List.forall_mem_cons.mpr ⟨zw622, List.forall_mem_cons.mpr ⟨zw623, List.forall_mem_cons.mpr ⟨zw550, List.forall_mem_cons.mpr ⟨zw624, List.forall_mem_cons.mpr ⟨zw625, List.forall_mem_cons.mpr ⟨zw550, List.forall_mem_cons.mpr ⟨zw626, List.forall_mem_cons.mpr ⟨zw627, List.forall_mem_cons.mpr ⟨zw550, List.forall_mem_cons.mpr ⟨zw628, List.forall_mem_cons.mpr ⟨zw629, List.forall_mem_cons.mpr ⟨zw550, List.forall_mem_cons.mpr ⟨zw630, List.forall_mem_cons.mpr ⟨zw631, List.forall_mem_cons.mpr ⟨zw550, List.forall_mem_cons.mpr ⟨zw632, List.forall_mem_cons.mpr ⟨zw633, List.forall_mem_cons.mpr ⟨zw550, List.forall_mem_cons.mpr ⟨zw634, List.forall_mem_cons.mpr ⟨zw635, List.forall_mem_cons.mpr ⟨zw550, List.forall_mem_cons.mpr ⟨zw636, List.forall_mem_cons.mpr ⟨zw637, List.forall_mem_cons.mpr ⟨zw550, List.forall_mem_cons.mpr ⟨zw638, List.forall_mem_cons.mpr ⟨zw639, List.forall_mem_cons.mpr ⟨zw550, List.forall_mem_cons.mpr ⟨zw640, List.forall_mem_cons.mpr ⟨zw641, List.forall_mem_cons.mpr ⟨zw550, List.forall_mem_cons.mpr ⟨zw642, List.forall_mem_cons.mpr ⟨zw643, List.forall_mem_cons.mpr ⟨zw550, List.forall_mem_cons.mpr ⟨zw644, (fun _ h => nomatch h)⟩⟩⟩⟩⟩⟩⟩⟩⟩⟩⟩⟩⟩⟩⟩⟩⟩⟩⟩⟩⟩⟩⟩⟩⟩⟩⟩⟩⟩⟩⟩⟩⟩⟩⟩⟩⟩⟩⟩⟩
theorem zTs18_in : ∀ w ∈ zTs18, w ∈ lw_tbl := List.forall_mem_cons.mpr ⟨zw645, List.forall_mem_cons.mpr ⟨zw550, List.forall_mem_cons.mpr ⟨zw646, List.forall_mem_cons.mpr ⟨zw647, List.forall_mem_cons.mpr ⟨zw110, List.forall_mem_cons.mpr ⟨zw648, List.forall_mem_cons.mpr ⟨zw110, List.forall_mem_cons.mpr ⟨zw649, List.forall_mem_cons.mpr ⟨zw650, List.forall_mem_cons.mpr ⟨zw110, List.forall_mem_cons.mpr ⟨zw651, List.forall_mem_cons.mpr ⟨zw652, List.forall_mem_cons.mpr ⟨zw110, List.forall_mem_cons.mpr ⟨zw653, List.forall_mem_cons.mpr ⟨zw654, List.forall_mem_cons.mpr ⟨zw110, List.forall_mem_cons.mpr ⟨zw655, List.forall_mem_cons.mpr ⟨zw656, List.forall_mem_cons.mpr ⟨zw110, List.forall_mem_cons.mpr ⟨zw657, List.forall_mem_cons.mpr ⟨zw658, List.forall_mem_cons.mpr ⟨zw110, List.forall_mem_cons.mpr ⟨zw659, List.forall_mem_cons.mpr ⟨zw660, List.forall_mem_cons.mpr ⟨zw110, List.forall_mem_cons.mpr ⟨zw661, List.forall_mem_cons.mpr ⟨zw662, List.forall_mem_cons.mpr ⟨zw110, List.forall_mem_cons.mpr ⟨zw663, List.forall_mem_cons.mpr ⟨zw664, List.forall_mem_cons.mpr ⟨zw110, List.forall_mem_cons.mpr ⟨zw665, List.forall_mem_cons.mpr ⟨zw666, List.forall_mem_cons.mpr ⟨zw110, List.forall_mem_cons.mpr ⟨zw667, List.forall_mem_cons.mpr ⟨zw668, List.forall_mem_cons.mpr ⟨zw110, List.forall_mem_cons.mpr ⟨zw669, List.forall_mem_cons.mpr ⟨zw670, List.forall_mem_cons.mpr ⟨zw110, (fun _ h => nomatch h)⟩⟩⟩⟩⟩⟩⟩⟩⟩⟩⟩⟩⟩⟩⟩⟩⟩⟩⟩⟩⟩⟩⟩⟩⟩⟩⟩⟩⟩⟩⟩⟩⟩⟩⟩⟩⟩⟩⟩⟩
theorem zTs19_in : ∀ w ∈ zTs19, w ∈ lw_tbl := List.forall_mem_cons.mpr ⟨zw671, List.forall_mem_cons.mpr ⟨zw672, List.forall_mem_cons.mpr ⟨zw110, List.forall_mem_cons.mpr ⟨zw673, List.forall_mem_cons.mpr ⟨zw674, List.forall_mem_cons.mpr ⟨zw110, List.forall_mem_cons.mpr ⟨zw675, List.forall_mem_cons.mpr ⟨zw676, List.forall_mem_cons.mpr ⟨zw110, List.forall_mem_cons.mpr ⟨zw677, List.forall_mem_cons.mpr ⟨zw678, List.forall_mem_cons.mpr ⟨zw110, List.forall_mem_cons.mpr ⟨zw679, List.forall_mem_cons.mpr ⟨zw680, List.forall_mem_cons.mpr ⟨zw681, List.forall_mem_cons.mpr ⟨zw682, List.forall_mem_cons.mpr ⟨zw681, List.forall_mem_cons.mpr ⟨zw683, List.forall_mem_cons.mpr ⟨zw681, List.forall_mem_cons.mpr ⟨zw684, List.forall_mem_cons.mpr ⟨zw681, List.forall_mem_cons.mpr ⟨zw685, List.forall_mem_cons.mpr ⟨zw241, List.forall_mem_cons.mpr ⟨zw686, List.forall_mem_cons.mpr ⟨zw241, List.forall_mem_cons.mpr ⟨zw687, List.forall_mem_cons.mpr ⟨zw688, List.forall_mem_cons.mpr ⟨zw241, List.forall_mem_cons.mpr ⟨zw689, List.forall_mem_cons.mpr ⟨zw690, List.forall_mem_cons.mpr ⟨zw241, List.forall_mem_cons.mpr ⟨zw691, List.forall_mem_cons.mpr ⟨zw692, List.forall_mem_cons.mpr ⟨zw241, List.forall_mem_cons.mpr ⟨zw693, List.forall_mem_cons.mpr ⟨zw694, List.forall_mem_cons.mpr ⟨zw241, List.forall_mem_cons.mpr ⟨zw695, List.forall_mem_cons.mpr ⟨zw696, List.forall_mem_cons.mpr ⟨zw377, (fun _ h => nomatch h)⟩⟩⟩⟩⟩⟩⟩⟩⟩⟩⟩⟩⟩⟩⟩⟩⟩⟩⟩⟩⟩⟩⟩⟩⟩⟩⟩⟩⟩⟩⟩⟩⟩⟩⟩⟩⟩⟩⟩⟩
theorem zTs20_in : ∀ w ∈ zTs20, w ∈ lw_tbl := List.forall_mem_cons.mpr ⟨zw697, List.forall_mem_cons.mpr ⟨zw377, List.forall_mem_cons.mpr ⟨zw698, List.forall_mem_cons.mpr ⟨zw699, List.forall_mem_cons.mpr ⟨zw377, List.forall_mem_cons.mpr ⟨zw700, List.forall_mem_cons.mpr ⟨zw701, List.forall_mem_cons.mpr ⟨zw377, List.forall_mem_cons.mpr ⟨zw702, List.forall_mem_cons.mpr ⟨zw703, List.forall_mem_cons.mpr ⟨zw377, List.forall_mem_cons.mpr ⟨zw704, List.forall_mem_cons.mpr ⟨zw705, List.forall_mem_cons.mpr ⟨zw377, List.forall_mem_cons.mpr ⟨zw706, List.forall_mem_cons.mpr ⟨zw707, List.forall_mem_cons.mpr ⟨zw377, List.forall_mem_cons.mpr ⟨zw708, List.forall_mem_cons.mpr ⟨zw709, List.forall_mem_cons.mpr ⟨zw377, List.forall_mem_cons.mpr ⟨zw710, List.forall_mem_cons.mpr ⟨zw711, List.forall_mem_cons.mpr ⟨zw377, List.forall_mem_cons.mpr ⟨zw712, List.forall_mem_cons.mpr ⟨zw713, List.forall_mem_cons.mpr ⟨zw377, List.forall_mem_cons.mpr ⟨zw714, List.forall_mem_cons.mpr ⟨zw715, List.forall_mem_cons.mpr ⟨zw377, List.forall_mem_cons.mpr ⟨zw716, List.forall_mem_cons.mpr ⟨zw717, List.forall_mem_cons.mpr ⟨zw126, List.forall_mem_cons.mpr ⟨zw718, List.forall_mem_cons.mpr ⟨zw126, List.forall_mem_cons.mpr ⟨zw719, List.forall_mem_cons.mpr ⟨zw720, List.forall_mem_cons.mpr ⟨zw126, List.forall_mem_cons.mpr ⟨zw721, List.forall_mem_cons.mpr ⟨zw722, List.forall_mem_cons.mpr ⟨zw126, (fun _ h => nomatch h)⟩⟩⟩⟩⟩⟩⟩⟩⟩⟩⟩⟩⟩⟩⟩⟩⟩⟩⟩⟩⟩⟩⟩⟩⟩⟩⟩⟩⟩⟩⟩⟩⟩⟩⟩⟩⟩⟩⟩⟩
theorem zTs21_in : ∀ w ∈ zTs21, w ∈ lw_tbl := List.forall_mem_cons.mpr ⟨zw723, List.forall_mem_cons.mpr ⟨zw724, List.forall_mem_cons.mpr ⟨zw126, List.forall_mem_cons.mpr ⟨zw725, List.forall_mem_cons.mpr ⟨zw726, List.forall_mem_cons.mpr ⟨zw126, List.forall_mem_cons.mpr ⟨zw727, List.forall_mem_cons.mpr ⟨zw728, List.forall_mem_cons.mpr ⟨zw126, List.forall_mem_cons.mpr ⟨zw729, List.forall_mem_cons.mpr ⟨zw730, List.forall_mem_cons.mpr ⟨zw126, List.forall_mem_cons.mpr ⟨zw731, List.forall_mem_cons.mpr ⟨zw732, List.forall_mem_cons.mpr ⟨zw126, List.forall_mem_cons.mpr ⟨zw733, List.forall_mem_cons.mpr ⟨zw734, List.forall_mem_cons.mpr ⟨zw126, List.forall_mem_cons.mpr ⟨zw735, List.forall_mem_cons.mpr ⟨zw126, List.forall_mem_cons.mpr ⟨zw736, List.forall_mem_cons.mpr ⟨zw737, List.forall_mem_cons.mpr ⟨zw130, List.forall_mem_cons.mpr ⟨zw738, List.forall_mem_cons.mpr ⟨zw130, List.forall_mem_cons.mpr ⟨zw739, List.forall_mem_cons.mpr ⟨zw740, List.forall_mem_cons.mpr ⟨zw130, List.forall_mem_cons.mpr ⟨zw741, List.forall_mem_cons.mpr ⟨zw742, List.forall_mem_cons.mpr ⟨zw130, List.forall_mem_cons.mpr ⟨zw743, List.forall_mem_cons.mpr ⟨zw744, List.forall_mem_cons.mpr ⟨zw130, List.forall_mem_cons.mpr ⟨zw745, List.forall_mem_cons.mpr ⟨zw746, List.forall_mem_cons.mpr ⟨zw130, List.forall_mem_cons.mpr ⟨zw747, List.forall_mem_cons.mpr ⟨zw748, List.forall_mem_cons.mpr ⟨zw130, (fun _ h => nomatch h)⟩⟩⟩⟩⟩⟩⟩⟩⟩⟩⟩⟩⟩⟩⟩⟩⟩⟩⟩⟩⟩⟩⟩⟩⟩⟩⟩⟩⟩⟩⟩⟩⟩⟩⟩⟩⟩⟩⟩⟩
theorem zTs22_in : ∀ w ∈ zTs22, w ∈ lw_tbl := List.forall_mem_cons.mpr ⟨zw749, List.forall_mem_cons.mpr ⟨zw750, List.forall_mem_cons.mpr ⟨zw130, List.forall_mem_cons.mpr ⟨zw751, List.forall_mem_cons.mpr ⟨zw752, List.forall_mem_cons.mpr ⟨zw130, List.forall_mem_cons.mpr ⟨zw753, List.forall_mem_cons.mpr ⟨zw754, List.forall_mem_cons.mpr ⟨zw130, List.forall_mem_cons.mpr ⟨zw755, List.forall_mem_cons.mpr ⟨zw756, List.forall_mem_cons.mpr ⟨zw130, List.forall_mem_cons.mpr ⟨zw757, List.forall_mem_cons.mpr ⟨zw758, List.forall_mem_cons.mpr ⟨zw130, List.forall_mem_cons.mpr ⟨zw759, List.forall_mem_cons.mpr ⟨zw760, List.forall_mem_cons.mpr ⟨zw130, List.forall_mem_cons.mpr ⟨zw761, List.forall_mem_cons.mpr ⟨zw762, List.forall_mem_cons.mpr ⟨zw130, List.forall_mem_cons.mpr ⟨zw763, List.forall_mem_cons.mpr ⟨zw764, List.forall_mem_cons.mpr ⟨zw130, List.forall_mem_cons.mpr ⟨zw765, List.forall_mem_cons.mpr ⟨zw766, List.forall_mem_cons.mpr ⟨zw130, List.forall_mem_cons.mpr ⟨zw767, List.forall_mem_cons.mpr ⟨zw768, List.forall_mem_cons.mpr ⟨zw130, List.forall_mem_cons.mpr ⟨zw769, List.forall_mem_cons.mpr ⟨zw770, List.forall_mem_cons.mpr ⟨zw130, List.forall_mem_cons.mpr ⟨zw771, List.forall_mem_cons.mpr ⟨zw772, List.forall_mem_cons.mpr ⟨zw130, List.forall_mem_cons.mpr ⟨zw773, List.forall_mem_cons.mpr ⟨zw774, List.forall_mem_cons.mpr ⟨zw130, List.forall_mem_cons.mpr ⟨zw775, (fun _ h => nomatch h)⟩⟩⟩⟩⟩⟩⟩⟩⟩⟩⟩⟩⟩⟩⟩⟩⟩⟩⟩⟩⟩⟩⟩⟩⟩⟩⟩⟩⟩⟩⟩⟩⟩⟩⟩⟩⟩⟩⟩⟩
theorem zTs23_in : ∀ w ∈ zTs23, w ∈ lw_tbl := List.forall_mem_cons.mpr ⟨zw776, List.forall_mem_cons.mpr ⟨zw130, List.forall_mem_cons.mpr ⟨zw777, List.forall_mem_cons.mpr ⟨zw778, List.forall_mem_cons.mpr ⟨zw130, List.forall_mem_cons.mpr ⟨zw779, List.forall_mem_cons.mpr ⟨zw780, List.forall_mem_cons.mpr ⟨zw130, List.forall_mem_cons.mpr ⟨zw781, List.forall_mem_cons.mpr ⟨zw782, List.forall_mem_cons.mpr ⟨zw130, List.forall_mem_cons.mpr ⟨zw783, List.forall_mem_cons.mpr ⟨zw130, List.forall_mem_cons.mpr ⟨zw784, List.forall_mem_cons.mpr ⟨zw785, List.forall_mem_cons.mpr ⟨zw130, List.forall_mem_cons.mpr ⟨zw786, List.forall_mem_cons.mpr ⟨zw130, List.forall_mem_cons.mpr ⟨zw787, List.forall_mem_cons.mpr ⟨zw788, List.forall_mem_cons.mpr ⟨zw130, List.forall_mem_cons.mpr ⟨zw789, List.forall_mem_cons.mpr ⟨zw790, List.forall_mem_cons.mpr ⟨zw130, List.forall_mem_cons.mpr ⟨zw791, List.forall_mem_cons.mpr ⟨zw792, List.forall_mem_cons.mpr ⟨zw130, List.forall_mem_cons.mpr ⟨zw793, List.forall_mem_cons.mpr ⟨zw794, List.forall_mem_cons.mpr ⟨zw274, List.forall_mem_cons.mpr ⟨zw795, List.forall_mem_cons.mpr ⟨zw274, List.forall_mem_cons.mpr ⟨zw796, List.forall_mem_cons.mpr ⟨zw797, List.forall_mem_cons.mpr ⟨zw274, List.forall_mem_cons.mpr ⟨zw798, List.forall_mem_cons.mpr ⟨zw799, List.forall_mem_cons.mpr ⟨zw274, List.forall_mem_cons.mpr ⟨zw800, List.forall_mem_cons.mpr ⟨zw801, (fun _ h => nomatch h)⟩⟩⟩⟩⟩⟩⟩⟩⟩⟩⟩⟩⟩⟩⟩⟩⟩⟩⟩⟩⟩⟩⟩⟩⟩⟩⟩⟩⟩⟩⟩⟩⟩⟩⟩⟩⟩⟩⟩⟩
theorem zTs24_in : ∀ w ∈ zTs24, w ∈ lw_tbl := List.forall_mem_cons.mpr ⟨zw274, List.forall_mem_cons.mpr ⟨zw802, List.forall_mem_cons.mpr ⟨zw274, List.forall_mem_cons.mpr ⟨zw803, List.forall_mem_cons.mpr ⟨zw804, List.forall_mem_cons.mpr ⟨zw274, List.forall_mem_cons.mpr ⟨zw805, List.forall_mem_cons.mpr ⟨zw806, List.forall_mem_cons.mpr ⟨zw274, List.forall_mem_cons.mpr ⟨zw807, List.forall_mem_cons.mpr ⟨zw274, List.forall_mem_cons.mpr ⟨zw808, List.forall_mem_cons.mpr ⟨zw274, List.forall_mem_cons.mpr ⟨zw809, List.forall_mem_cons.mpr ⟨zw274, List.forall_mem_cons.mpr ⟨zw810, List.forall_mem_cons.mpr ⟨zw811, List.forall_mem_cons.mpr ⟨zw274, List.forall_mem_cons.mpr ⟨zw812, List.forall_mem_cons.mpr ⟨zw813, List.forall_mem_cons.mpr ⟨zw274, List.forall_mem_cons.mpr ⟨zw814, List.forall_mem_cons.mpr ⟨zw815, List.forall_mem_cons.mpr ⟨zw274, List.forall_mem_cons.mpr ⟨zw816, List.forall_mem_cons.mpr ⟨zw817, List.forall_mem_cons.mpr ⟨zw274, List.forall_mem_cons.mpr ⟨zw818, List.forall_mem_cons.mpr ⟨zw819, List.forall_mem_cons.mpr ⟨zw122, List.forall_mem_cons.mpr ⟨zw820, List.forall_mem_cons.mpr ⟨zw122, List.forall_mem_cons.mpr ⟨zw821, List.forall_mem_cons.mpr ⟨zw822, List.forall_mem_cons.mpr ⟨zw122, List.forall_mem_cons.mpr ⟨zw823, List.forall_mem_cons.mpr ⟨zw122, List.forall_mem_cons.mpr ⟨zw824, List.forall_mem_cons.mpr ⟨zw825, List.forall_mem_cons.mpr ⟨zw122, (fun _ h => nomatch h)⟩⟩⟩⟩⟩⟩⟩⟩⟩⟩⟩⟩⟩⟩⟩⟩⟩⟩⟩⟩⟩⟩⟩⟩⟩⟩⟩⟩⟩⟩⟩⟩⟩⟩⟩⟩⟩⟩⟩⟩
theorem zTs25_in : ∀ w ∈ zTs25, w ∈ lw_tbl := List.forall_mem_cons.mpr ⟨zw826, List.forall_mem_cons.mpr ⟨zw827, List.forall_mem_cons.mpr ⟨zw122, List.forall_mem_cons.mpr ⟨zw828, List.forall_mem_cons.mpr ⟨zw829, List.forall_mem_cons.mpr ⟨zw116, List.forall_mem_cons.mpr ⟨zw830, List.forall_mem_cons.mpr ⟨zw116, List.forall_mem_cons.mpr ⟨zw831, List.forall_mem_cons.mpr ⟨zw832, List.forall_mem_cons.mpr ⟨zw116, List.forall_mem_cons.mpr ⟨zw833, List.forall_mem_cons.mpr ⟨zw834, List.forall_mem_cons.mpr ⟨zw116, List.forall_mem_cons.mpr ⟨zw835, List.forall_mem_cons.mpr ⟨zw836, List.forall_mem_cons.mpr ⟨zw116, List.forall_mem_cons.mpr ⟨zw837, List.forall_mem_cons.mpr ⟨zw838, List.forall_mem_cons.mpr ⟨zw116, List.forall_mem_cons.mpr ⟨zw839, List.forall_mem_cons.mpr ⟨zw840, List.forall_mem_cons.mpr ⟨zw116, List.forall_mem_cons.mpr ⟨zw841, List.forall_mem_cons.mpr ⟨zw842, List.forall_mem_cons.mpr ⟨zw116, List.forall_mem_cons.mpr ⟨zw843, List.forall_mem_cons.mpr ⟨zw844, List.forall_mem_cons.mpr ⟨zw116, List.forall_mem_cons.mpr ⟨zw845, List.forall_mem_cons.mpr ⟨zw116, List.forall_mem_cons.mpr ⟨zw846, List.forall_mem_cons.mpr ⟨zw847, List.forall_mem_cons.mpr ⟨zw116, List.forall_mem_cons.mpr ⟨zw848, List.forall_mem_cons.mpr ⟨zw281, List.forall_mem_cons.mpr ⟨zw849, List.forall_mem_cons.mpr ⟨zw281, List.forall_mem_cons.mpr ⟨zw850, List.forall_mem_cons.mpr ⟨zw851, (fun _ h => nomatch h)⟩⟩⟩⟩⟩⟩⟩⟩⟩⟩⟩⟩⟩⟩⟩⟩⟩⟩⟩⟩⟩⟩⟩⟩⟩⟩⟩⟩⟩⟩⟩⟩⟩⟩⟩⟩⟩⟩⟩⟩
theorem zTs26_in : ∀ w ∈ zTs26, w ∈ lw_tbl := List.forall_mem_cons.mpr ⟨zw281, List.forall_mem_cons.mpr ⟨zw852, List.forall_mem_cons.mpr ⟨zw853, List.forall_mem_cons.mpr ⟨zw281, List.forall_mem_cons.mpr ⟨zw854, List.forall_mem_cons.mpr ⟨zw855, List.forall_mem_cons.mpr ⟨zw281, List.forall_mem_cons.mpr ⟨zw856, List.forall_mem_cons.mpr ⟨zw857, List.forall_mem_cons.mpr ⟨zw281, List.forall_mem_cons.mpr ⟨zw858, List.forall_mem_cons.mpr ⟨zw859, List.forall_mem_cons.mpr ⟨zw281, List.forall_mem_cons.mpr ⟨zw860, List.forall_mem_cons.mpr ⟨zw861, List.forall_mem_cons.mpr ⟨zw281, List.forall_mem_cons.mpr ⟨zw862, List.forall_mem_cons.mpr ⟨zw863, List.forall_mem_cons.mpr ⟨zw281, List.forall_mem_cons.mpr ⟨zw864, List.forall_mem_cons.mpr ⟨zw865, List.forall_mem_cons.mpr ⟨zw281, List.forall_mem_cons.mpr ⟨zw866, List.forall_mem_cons.mpr ⟨zw867, List.forall_mem_cons.mpr ⟨zw281, List.forall_mem_cons.mpr ⟨zw868, List.forall_mem_cons.mpr ⟨zw869, List.forall_mem_cons.mpr ⟨zw281, List.forall_mem_cons.mpr ⟨zw870, List.forall_mem_cons.mpr ⟨zw871, List.forall_mem_cons.mpr ⟨zw281, List.forall_mem_cons.mpr ⟨zw872, List.forall_mem_cons.mpr ⟨zw873, List.forall_mem_cons.mpr ⟨zw281, List.forall_mem_cons.mpr ⟨zw874, List.forall_mem_cons.mpr ⟨zw875, List.forall_mem_cons.mpr ⟨zw281, List.forall_mem_cons.mpr ⟨zw876, List.forall_mem_cons.mpr ⟨zw877, List.forall_mem_cons.mpr ⟨zw281, (fun _ h => nomatch h)⟩⟩⟩⟩⟩⟩⟩⟩⟩⟩⟩⟩⟩⟩⟩⟩⟩⟩⟩⟩⟩⟩⟩⟩⟩⟩⟩⟩⟩⟩⟩⟩⟩⟩⟩⟩⟩⟩⟩⟩
theorem zTs27_in : ∀ w ∈ zTs27, w ∈ lw_tbl := List.forall_mem_cons.mpr ⟨zw878, List.forall_mem_cons.mpr ⟨zw879, List.forall_mem_cons.mpr ⟨zw281, List.forall_mem_cons.mpr ⟨zw880, List.forall_mem_cons.mpr ⟨zw881, List.forall_mem_cons.mpr ⟨zw281, List.forall_mem_cons.mpr ⟨zw882, List.forall_mem_cons.mpr ⟨zw883, List.forall_mem_cons.mpr ⟨zw281, List.forall_mem_cons.mpr ⟨zw884, List.forall_mem_cons.mpr ⟨zw885, List.forall_mem_cons.mpr ⟨zw281, List.forall_mem_cons.mpr ⟨zw886, List.forall_mem_cons.mpr ⟨zw887, List.forall_mem_cons.mpr ⟨zw281, List.forall_mem_cons.mpr ⟨zw888, List.forall_mem_cons.mpr ⟨zw889, List.forall_mem_cons.mpr ⟨zw281, List.forall_mem_cons.mpr ⟨zw890, List.forall_mem_cons.mpr ⟨zw891, List.forall_mem_cons.mpr ⟨zw281, List.forall_mem_cons.mpr ⟨zw892, List.forall_mem_cons.mpr ⟨zw893, List.forall_mem_cons.mpr ⟨zw281, List.forall_mem_cons.mpr ⟨zw894, List.forall_mem_cons.mpr ⟨zw895, List.forall_mem_cons.mpr ⟨zw896, List.forall_mem_cons.mpr ⟨zw897, List.forall_mem_cons.mpr ⟨zw896, List.forall_mem_cons.mpr ⟨zw898, List.forall_mem_cons.mpr ⟨zw896, List.forall_mem_cons.mpr ⟨zw899, List.forall_mem_cons.mpr ⟨zw896, List.forall_mem_cons.mpr ⟨zw900, List.forall_mem_cons.mpr ⟨zw896, List.forall_mem_cons.mpr ⟨zw901, List.forall_mem_cons.mpr ⟨zw896, List.forall_mem_cons.mpr ⟨zw902, List.forall_mem_cons.mpr ⟨zw896, List.forall_mem_cons.mpr ⟨zw903, (fun _ h => nomatch h)⟩⟩⟩⟩⟩⟩⟩⟩⟩⟩⟩⟩⟩⟩⟩⟩⟩⟩⟩⟩⟩⟩⟩⟩⟩⟩⟩⟩⟩⟩⟩⟩⟩⟩⟩⟩⟩⟩⟩⟩
theorem zTs28_in : ∀ w ∈ zTs28, w ∈ lw_tbl := List.forall_mem_cons.mpr ⟨zw896, List.forall_mem_cons.mpr ⟨zw904, List.forall_mem_cons.mpr ⟨zw896, List.forall_mem_cons.mpr ⟨zw905, List.forall_mem_cons.mpr ⟨zw896, List.forall_mem_cons.mpr ⟨zw906, List.forall_mem_cons.mpr ⟨zw896, List.forall_mem_cons.mpr ⟨zw907, List.forall_mem_cons.mpr ⟨zw896, List.forall_mem_cons.mpr ⟨zw908, List.forall_mem_cons.mpr ⟨zw896, List.forall_mem_cons.mpr ⟨zw909, List.forall_mem_cons.mpr ⟨zw896, List.forall_mem_cons.mpr ⟨zw910, List.forall_mem_cons.mpr ⟨zw896, List.forall_mem_cons.mpr ⟨zw911, List.forall_mem_cons.mpr ⟨zw896, List.forall_mem_cons.mpr ⟨zw912, List.forall_mem_cons.mpr ⟨zw896, List.forall_mem_cons.mpr ⟨zw913, List.forall_mem_cons.mpr ⟨zw896, List.forall_mem_cons.mpr ⟨zw914, List.forall_mem_cons.mpr ⟨zw554, List.forall_mem_cons.mpr ⟨zw915, List.forall_mem_cons.mpr ⟨zw554, List.forall_mem_cons.mpr ⟨zw916, List.forall_mem_cons.mpr ⟨zw917, List.forall_mem_cons.mpr ⟨zw554, List.forall_mem_cons.mpr ⟨zw918, List.forall_mem_cons.mpr ⟨zw919, List.forall_mem_cons.mpr ⟨zw554, List.forall_mem_cons.mpr ⟨zw920, List.forall_mem_cons.mpr ⟨zw554, List.forall_mem_cons.mpr ⟨zw921, List.forall_mem_cons.mpr ⟨zw554, List.forall_mem_cons.mpr ⟨zw922, List.forall_mem_cons.mpr ⟨zw923, List.forall_mem_cons.mpr ⟨zw554, List.forall_mem_cons.mpr ⟨zw924, List.forall_mem_cons.mpr ⟨zw925, (fun _ h => nomatch h)⟩⟩⟩⟩⟩⟩⟩⟩⟩⟩⟩⟩⟩⟩⟩⟩⟩⟩⟩⟩⟩⟩⟩⟩⟩⟩⟩⟩⟩⟩⟩⟩⟩⟩⟩⟩⟩⟩⟩⟩
theorem zTs29_in : ∀ w ∈ zTs29, w ∈ lw_tbl := List.forall_mem_cons.mpr ⟨zw554, List.forall_mem_cons.mpr ⟨zw926, List.forall_mem_cons.mpr ⟨zw927, List.forall_mem_cons.mpr ⟨zw554, List.forall_mem_cons.mpr ⟨zw928, List.forall_mem_cons.mpr ⟨zw929, List.forall_mem_cons.mpr ⟨zw554, List.forall_mem_cons.mpr ⟨zw930, List.forall_mem_cons.mpr ⟨zw931, List.forall_mem_cons.mpr ⟨zw554, List.forall_mem_cons.mpr ⟨zw932, List.forall_mem_cons.mpr ⟨zw933, List.forall_mem_cons.mpr ⟨zw554, List.forall_mem_cons.mpr ⟨zw934, List.forall_mem_cons.mpr ⟨zw935, List.forall_mem_cons.mpr ⟨zw554, List.forall_mem_cons.mpr ⟨zw936, List.forall_mem_cons.mpr ⟨zw937, List.forall_mem_cons.mpr ⟨zw554, List.forall_mem_cons.mpr ⟨zw938, List.forall_mem_cons.mpr ⟨zw939, List.forall_mem_cons.mpr ⟨zw554, List.forall_mem_cons.mpr ⟨zw940, List.forall_mem_cons.mpr ⟨zw941, List.forall_mem_cons.mpr ⟨zw554, List.forall_mem_cons.mpr ⟨zw942, List.forall_mem_cons.mpr ⟨zw943, List.forall_mem_cons.mpr ⟨zw554, List.forall_mem_cons.mpr ⟨zw944, List.forall_mem_cons.mpr ⟨zw945, List.forall_mem_cons.mpr ⟨zw554, List.forall_mem_cons.mpr ⟨zw946, List.forall_mem_cons.mpr ⟨zw947, List.forall_mem_cons.mpr ⟨zw554, List.forall_mem_cons.mpr ⟨zw948, List.forall_mem_cons.mpr ⟨zw949, List.forall_mem_cons.mpr ⟨zw554, List.forall_mem_cons.mpr ⟨zw950, List.forall_mem_cons.mpr ⟨zw951, List.forall_mem_cons.mpr ⟨zw554, (fun _ h => nomatch h)⟩⟩⟩⟩⟩⟩⟩⟩⟩⟩⟩⟩⟩⟩⟩⟩⟩⟩⟩⟩⟩⟩⟩⟩⟩⟩⟩⟩⟩⟩⟩⟩⟩⟩⟩⟩⟩⟩⟩⟩
theorem zTs30_in : ∀ w ∈ zTs30, w ∈ lw_tbl := List.forall_mem_cons.mpr ⟨zw952, List.forall_mem_cons.mpr ⟨zw953, List.forall_mem_cons.mpr ⟨zw554, List.forall_mem_cons.mpr ⟨zw954, List.forall_mem_cons.mpr ⟨zw955, List.forall_mem_cons.mpr ⟨zw554, List.forall_mem_cons.mpr ⟨zw956, List.forall_mem_cons.mpr ⟨zw957, List.forall_mem_cons.mpr ⟨zw554, List.forall_mem_cons.mpr ⟨zw958, List.forall_mem_cons.mpr ⟨zw959, List.forall_mem_cons.mpr ⟨zw554, List.forall_mem_cons.mpr ⟨zw960, List.forall_mem_cons.mpr ⟨zw961, List.forall_mem_cons.mpr ⟨zw554, List.forall_mem_cons.mpr ⟨zw962, List.forall_mem_cons.mpr ⟨zw963, List.forall_mem_cons.mpr ⟨zw554, List.forall_mem_cons.mpr ⟨zw964, List.forall_mem_cons.mpr ⟨zw965, List.forall_mem_cons.mpr ⟨zw554, List.forall_mem_cons.mpr ⟨zw966, List.forall_mem_cons.mpr ⟨zw967, List.forall_mem_cons.mpr ⟨zw554, List.forall_mem_cons.mpr ⟨zw968, List.forall_mem_cons.mpr ⟨zw969, List.forall_mem_cons.mpr ⟨zw554, List.forall_mem_cons.mpr ⟨zw970, List.forall_mem_cons.mpr ⟨zw554, List.forall_mem_cons.mpr ⟨zw971, List.forall_mem_cons.mpr ⟨zw972, List.forall_mem_cons.mpr ⟨zw554, List.forall_mem_cons.mpr ⟨zw973, List.forall_mem_cons.mpr ⟨zw974, List.forall_mem_cons.mpr ⟨zw554, List.forall_mem_cons.mpr ⟨zw975, List.forall_mem_cons.mpr ⟨zw976, List.forall_mem_cons.mpr ⟨zw554, List.forall_mem_cons.mpr ⟨zw977, List.forall_mem_cons.mpr ⟨zw978, (fun _ h => nomatch h)⟩⟩⟩⟩⟩⟩⟩⟩⟩⟩⟩⟩⟩⟩⟩⟩⟩⟩⟩⟩⟩⟩⟩⟩⟩⟩⟩⟩⟩⟩⟩⟩⟩⟩⟩⟩⟩⟩⟩⟩
theorem zTs31_in : ∀ w ∈ zTs31, w ∈ lw_tbl := List.forall_mem_cons.mpr ⟨zw554, List.forall_mem_cons.mpr ⟨zw979, List.forall_mem_cons.mpr ⟨zw980, List.forall_mem_cons.mpr ⟨zw554, List.forall_mem_cons.mpr ⟨zw981, List.forall_mem_cons.mpr ⟨zw982, List.forall_mem_cons.mpr ⟨zw554, List.forall_mem_cons.mpr ⟨zw983, List.forall_mem_cons.mpr ⟨zw984, List.forall_mem_cons.mpr ⟨zw554, List.forall_mem_cons.mpr ⟨zw985, List.forall_mem_cons.mpr ⟨zw986, List.forall_mem_cons.mpr ⟨zw554, List.forall_mem_cons.mpr ⟨zw987, List.forall_mem_cons.mpr ⟨zw988, List.forall_mem_cons.mpr ⟨zw554, List.forall_mem_cons.mpr ⟨zw989, List.forall_mem_cons.mpr ⟨zw990, List.forall_mem_cons.mpr ⟨zw554, List.forall_mem_cons.mpr ⟨zw991, List.forall_mem_cons.mpr ⟨zw992, List.forall_mem_cons.mpr ⟨zw554, List.forall_mem_cons.mpr ⟨zw993, List.forall_mem_cons.mpr ⟨zw994, List.forall_mem_cons.mpr ⟨zw554, List.forall_mem_cons.mpr ⟨zw995, List.forall_mem_cons.mpr ⟨zw996, List.forall_mem_cons.mpr ⟨zw554, List.forall_mem_cons.mpr ⟨zw997, List.forall_mem_cons.mpr ⟨zw998, List.forall_mem_cons.mpr ⟨zw554, List.forall_mem_cons.mpr ⟨zw999, List.forall_mem_cons.mpr ⟨zw554, List.forall_mem_cons.mpr ⟨zw1000, List.forall_mem_cons.mpr ⟨zw554, List.forall_mem_cons.mpr ⟨zw1001, List.forall_mem_cons.mpr ⟨zw1002, List.forall_mem_cons.mpr ⟨zw554, List.forall_mem_cons.mpr ⟨zw1003, List.forall_mem_cons.mpr ⟨zw1004, (fun _ h => nomatch h)⟩⟩⟩⟩⟩⟩⟩⟩⟩⟩⟩⟩⟩⟩⟩⟩⟩⟩⟩⟩⟩⟩⟩⟩⟩⟩⟩⟩⟩⟩⟩⟩⟩⟩⟩⟩⟩⟩⟩⟩
theorem zTs32_in : ∀ w ∈ zTs32, w ∈ lw_tbl := List.forall_mem_cons.mpr ⟨zw554, List.forall_mem_cons.mpr ⟨zw1005, List.forall_mem_cons.mpr ⟨zw1006, List.forall_mem_cons.mpr ⟨zw554, List.forall_mem_cons.mpr ⟨zw1007, List.forall_mem_cons.mpr ⟨zw1008, List.forall_mem_cons.mpr ⟨zw554, List.forall_mem_cons.mpr ⟨zw1009, List.forall_mem_cons.mpr ⟨zw1010, List.forall_mem_cons.mpr ⟨zw554, List.forall_mem_cons.mpr ⟨zw1011, List.forall_mem_cons.mpr ⟨zw554, List.forall_mem_cons.mpr ⟨zw1012, List.forall_mem_cons.mpr ⟨zw1013, List.forall_mem_cons.mpr ⟨zw554, List.forall_mem_cons.mpr ⟨zw1014, List.forall_mem_cons.mpr ⟨zw1015, List.forall_mem_cons.mpr ⟨zw554, List.forall_mem_cons.mpr ⟨zw1016, List.forall_mem_cons.mpr ⟨zw1017, List.forall_mem_cons.mpr ⟨zw554, List.forall_mem_cons.mpr ⟨zw1018, List.forall_mem_cons.mpr ⟨zw1019, List.forall_mem_cons.mpr ⟨zw554, List.forall_mem_cons.mpr ⟨zw1020, List.forall_mem_cons.mpr ⟨zw1021, List.forall_mem_cons.mpr ⟨zw554, List.forall_mem_cons.mpr ⟨zw1022, List.forall_mem_cons.mpr ⟨zw1023, List.forall_mem_cons.mpr ⟨zw554, List.forall_mem_cons.mpr ⟨zw1024, List.forall_mem_cons.mpr ⟨zw1025, List.forall_mem_cons.mpr ⟨zw554, List.forall_mem_cons.mpr ⟨zw1026, List.forall_mem_cons.mpr ⟨zw1027, List.forall_mem_cons.mpr ⟨zw554, List.forall_mem_cons.mpr ⟨zw1028, List.forall_mem_cons.mpr ⟨zw1029, List.forall_mem_cons.mpr ⟨zw554, List.forall_mem_cons.mpr ⟨zw1030, (fun _ h => nomatch h)⟩⟩⟩⟩⟩⟩⟩⟩⟩⟩⟩⟩⟩⟩⟩⟩⟩⟩⟩⟩⟩⟩⟩⟩⟩⟩⟩⟩⟩⟩⟩⟩⟩⟩⟩⟩⟩⟩⟩⟩
theorem zTs33_in : ∀ w ∈ zTs33, w ∈ lw_tbl := List.forall_mem_cons.mpr ⟨zw1031, List.forall_mem_cons.mpr ⟨zw554, List.forall_mem_cons.mpr ⟨zw1032, List.forall_mem_cons.mpr ⟨zw1033, List.forall_mem_cons.mpr ⟨zw554, List.forall_mem_cons.mpr ⟨zw1034, List.forall_mem_cons.mpr ⟨zw1035, List.forall_mem_cons.mpr ⟨zw554, List.forall_mem_cons.mpr ⟨zw1036, List.forall_mem_cons.mpr ⟨zw1037, List.forall_mem_cons.mpr ⟨zw554, List.forall_mem_cons.mpr ⟨zw1038, List.forall_mem_cons.mpr ⟨zw1039, List.forall_mem_cons.mpr ⟨zw554, List.forall_mem_cons.mpr ⟨zw1040, List.forall_mem_cons.mpr ⟨zw1041, List.forall_mem_cons.mpr ⟨zw554, List.forall_mem_cons.mpr ⟨zw1042, List.forall_mem_cons.mpr ⟨zw1043, List.forall_mem_cons.mpr ⟨zw554, List.forall_mem_cons.mpr ⟨zw1044, List.forall_mem_cons.mpr ⟨zw1045, List.forall_mem_cons.mpr ⟨zw554, List.forall_mem_cons.mpr ⟨zw1046, List.forall_mem_cons.mpr ⟨zw1047, List.forall_mem_cons.mpr ⟨zw554, List.forall_mem_cons.mpr ⟨zw1048, List.forall_mem_cons.mpr ⟨zw1049, List.forall_mem_cons.mpr ⟨zw554, List.forall_mem_cons.mpr ⟨zw1050, List.forall_mem_cons.mpr ⟨zw1051, List.forall_mem_cons.mpr ⟨zw554, List.forall_mem_cons.mpr ⟨zw1052, List.forall_mem_cons.mpr ⟨zw1053, List.forall_mem_cons.mpr ⟨zw554, List.forall_mem_cons.mpr ⟨zw1054, List.forall_mem_cons.mpr ⟨zw1055, List.forall_mem_cons.mpr ⟨zw554, List.forall_mem_cons.mpr ⟨zw1056, List.forall_mem_cons.mpr ⟨zw1057, (fun _ h => nomatch h)⟩⟩⟩⟩⟩⟩⟩⟩⟩⟩⟩⟩⟩⟩⟩⟩⟩⟩⟩⟩⟩⟩⟩⟩⟩⟩⟩⟩⟩⟩⟩⟩⟩⟩⟩⟩⟩⟩⟩⟩
theorem zTs34_in : ∀ w ∈ zTs34, w ∈ lw_tbl := List.forall_mem_cons.mpr ⟨zw554, List.forall_mem_cons.mpr ⟨zw1058, List.forall_mem_cons.mpr ⟨zw1059, List.forall_mem_cons.mpr ⟨zw554, List.forall_mem_cons.mpr ⟨zw1060, List.forall_mem_cons.mpr ⟨zw1061, List.forall_mem_cons.mpr ⟨zw554, List.forall_mem_cons.mpr ⟨zw1062, List.forall_mem_cons.mpr ⟨zw1063, List.forall_mem_cons.mpr ⟨zw554, List.forall_mem_cons.mpr ⟨zw1064, List.forall_mem_cons.mpr ⟨zw1065, List.forall_mem_cons.mpr ⟨zw554, List.forall_mem_cons.mpr ⟨zw1066, List.forall_mem_cons.mpr ⟨zw1067, List.forall_mem_cons.mpr ⟨zw192, List.forall_mem_cons.mpr ⟨zw1068, List.forall_mem_cons.mpr ⟨zw1069, List.forall_mem_cons.mpr ⟨zw1070, (fun _ h => nomatch h)⟩⟩⟩⟩⟩⟩⟩⟩⟩⟩⟩⟩⟩⟩⟩⟩⟩⟩⟩
theorem zBs_in : ∀ w ∈ zBs, w ∈ lw_tbl := List.forall_mem_cons.mpr ⟨zw1071, List.forall_mem_cons.mpr ⟨zw1072, List.forall_mem_cons.mpr ⟨zw1073, List.forall_mem_cons.mpr ⟨zw1074, List.forall_mem_cons.mpr ⟨zw1075, List.forall_mem_cons.mpr ⟨zw1076, List.forall_mem_cons.mpr ⟨zw1077, List.forall_mem_cons.mpr ⟨zw1078, List.forall_mem_cons.mpr ⟨zw1079, List.forall_mem_cons.mpr ⟨zw1080, List.forall_mem_cons.mpr ⟨zw1081, List.forall_mem_cons.mpr ⟨zw1082, List.forall_mem_cons.mpr ⟨zw1083, List.forall_mem_cons.mpr ⟨zw1084, List.forall_mem_cons.mpr ⟨zw1085, List.forall_mem_cons.mpr ⟨zw1086, (fun _ h => nomatch h)⟩⟩⟩⟩⟩⟩⟩⟩⟩⟩⟩⟩⟩⟩⟩⟩
set_option maxRecDepth 20000 in
theorem zcw_in : ∀ w ∈ zcw, w ∈ lw_tbl := List.forall_mem_cons.mpr ⟨zw1087, List.forall_mem_cons.mpr ⟨zw1088, List.forall_mem_cons.mpr ⟨zw1089, List.forall_mem_cons.mpr ⟨zw1090, List.forall_mem_cons.mpr ⟨zw1091, List.forall_mem_cons.mpr ⟨zw1092, List.forall_mem_cons.mpr ⟨zw1093, List.forall_mem_cons.mpr ⟨zw1094, List.forall_mem_cons.mpr ⟨zw1095, List.forall_mem_cons.mpr ⟨zw1096, List.forall_mem_cons.mpr ⟨zw1097, List.forall_mem_cons.mpr ⟨zw1098, List.forall_mem_cons.mpr ⟨zw1099, List.forall_mem_cons.mpr ⟨zw1100, List.forall_mem_cons.mpr ⟨zw1101, List.forall_mem_cons.mpr ⟨zw1102, List.forall_mem_cons.mpr ⟨zw1103, List.forall_mem_cons.mpr ⟨zw1104, List.forall_mem_cons.mpr ⟨zw1105, List.forall_mem_cons.mpr ⟨zw1106, List.forall_mem_cons.mpr ⟨zw1107, List.forall_mem_cons.mpr ⟨zw1108, List.forall_mem_cons.mpr ⟨zw1109, List.forall_mem_cons.mpr ⟨zw1110, List.forall_mem_cons.mpr ⟨zw1111, List.forall_mem_cons.mpr ⟨zw1112, List.forall_mem_cons.mpr ⟨zw1113, List.forall_mem_cons.mpr ⟨zw1114, List.forall_mem_cons.mpr ⟨zw1115, List.forall_mem_cons.mpr ⟨zw1116, List.forall_mem_cons.mpr ⟨zw1117, List.forall_mem_cons.mpr ⟨zw1118, List.forall_mem_cons.mpr ⟨zw1119, List.forall_mem_cons.mpr ⟨zw1120, List.forall_mem_cons.mpr ⟨zw1121, List.forall_mem_cons.mpr ⟨zw1122, List.forall_mem_cons.mpr ⟨zw1123, List.forall_mem_cons.mpr ⟨zw1124, List.forall_mem_cons.mpr ⟨zw1125, List.forall_mem_cons.mpr ⟨zw1126, List.forall_mem_cons.mpr ⟨zw1127, List.forall_mem_cons.mpr ⟨zw1128, List.forall_mem_cons.mpr ⟨zw1129, List.forall_mem_cons.mpr ⟨zw1130, List.forall_mem_cons.mpr ⟨zw1131, List.forall_mem_cons.mpr ⟨zw1132, List.forall_mem_cons.mpr ⟨zw1133, List.forall_mem_cons.mpr ⟨zw1134, List.forall_mem_cons.mpr ⟨zw1135, List.forall_mem_cons.mpr ⟨zw1136, List.forall_mem_cons.mpr ⟨zw1137, List.forall_mem_cons.mpr ⟨zw1138, List.forall_mem_cons.mpr ⟨zw1139, List.forall_mem_cons.mpr ⟨zw1140, List.forall_mem_cons.mpr ⟨zw1141, List.forall_mem_cons.mpr ⟨zw1142, List.forall_mem_cons.mpr ⟨zw1143, List.forall_mem_cons.mpr ⟨zw1144, List.forall_mem_cons.mpr ⟨zw1145, List.forall_mem_cons.mpr ⟨zw1146, List.forall_mem_cons.mpr ⟨zw1147, List.forall_mem_cons.mpr ⟨zw1148, List.forall_mem_cons.mpr ⟨zw1149, List.forall_mem_cons.mpr ⟨zw1150, List.forall_mem_cons.mpr ⟨zw1151, List.forall_mem_cons.mpr ⟨zw1152, List.forall_mem_cons.mpr ⟨zw1153, List.forall_mem_cons.mpr ⟨zw1154, List.forall_mem_cons.mpr ⟨zw1155, List.forall_mem_cons.mpr ⟨zw1156, List.forall_mem_cons.mpr ⟨zw1157, List.forall_mem_cons.mpr ⟨zw1158, List.forall_mem_cons.mpr ⟨zw1159, List.forall_mem_cons.mpr ⟨zw1160, List.forall_mem_cons.mpr ⟨zw1161, List.forall_mem_cons.mpr ⟨zw1162, List.forall_mem_cons.mpr ⟨zw1163, List.forall_mem_cons.mpr ⟨zw1164, List.forall_mem_cons.mpr ⟨zw1165, List.forall_mem_cons.mpr ⟨zw1166, List.forall_mem_cons.mpr ⟨zw1167, List.forall_mem_cons.mpr ⟨zw1168, List.forall_mem_cons.mpr ⟨zw1169, List.forall_mem_cons.mpr ⟨zw1170, List.forall_mem_cons.mpr ⟨zw1171, List.forall_mem_cons.mpr ⟨zw1172, List.forall_mem_cons.mpr ⟨zw1173, List.forall_mem_cons.mpr ⟨zw1174, List.forall_mem_cons.mpr ⟨zw1175, List.forall_mem_cons.mpr ⟨zw1176, List.forall_mem_cons.mpr ⟨zw1177, List.forall_mem_cons.mpr ⟨zw1178, List.forall_mem_cons.mpr ⟨zw1179, List.forall_mem_cons.mpr ⟨zw1180, List.forall_mem_cons.mpr ⟨zw1181, List.forall_mem_cons.mpr ⟨zw1182, List.forall_mem_cons.mpr ⟨zw1183, List.forall_mem_cons.mpr ⟨zw1184, List.forall_mem_cons.mpr ⟨zw1185, List.forall_mem_cons.mpr ⟨zw1186, List.forall_mem_cons.mpr ⟨zw1187, List.forall_mem_cons.mpr ⟨zw1188, List.forall_mem_cons.mpr ⟨zw1189, List.forall_mem_cons.mpr ⟨zw1190, List.forall_mem_cons.mpr ⟨zw1191, List.forall_mem_cons.mpr ⟨zw1192, List.forall_mem_cons.mpr ⟨zw1193, List.forall_mem_cons.mpr ⟨zw1194, List.forall_mem_cons.mpr ⟨zw1195, List.forall_mem_cons.mpr ⟨zw1196, List.forall_mem_cons.mpr ⟨zw1197, List.forall_mem_cons.mpr ⟨zw1198, List.forall_mem_cons.mpr ⟨zw1199, List.forall_mem_cons.mpr ⟨zw1200, List.forall_mem_cons.mpr ⟨zw1201, List.forall_mem_cons.mpr ⟨zw1202, List.forall_mem_cons.mpr ⟨zw1203, List.forall_mem_cons.mpr ⟨zw1204, List.forall_mem_cons.mpr ⟨zw1205, List.forall_mem_cons.mpr ⟨zw1206, List.forall_mem_cons.mpr ⟨zw1207, List.forall_mem_cons.mpr ⟨zw1208, List.forall_mem_cons.mpr ⟨zw1209, List.forall_mem_cons.mpr ⟨zw1210, List.forall_mem_cons.mpr ⟨zw1211, List.forall_mem_cons.mpr ⟨zw1212, List.forall_mem_cons.mpr ⟨zw1213, List.forall_mem_cons.mpr ⟨zw1214, List.forall_mem_cons.mpr ⟨zw1215, List.forall_mem_cons.mpr ⟨zw1216, List.forall_mem_cons.mpr ⟨zw1217, List.forall_mem_cons.mpr ⟨zw1218, List.forall_mem_cons.mpr ⟨zw1219, List.forall_mem_cons.mpr ⟨zw1220, List.forall_mem_cons.mpr ⟨zw1221, List.forall_mem_cons.mpr ⟨zw1222, List.forall_mem_cons.mpr ⟨zw1223, List.forall_mem_cons.mpr ⟨zw1224, List.forall_mem_cons.mpr ⟨zw1225, List.forall_mem_cons.mpr ⟨zw1226, List.forall_mem_cons.mpr ⟨zw1227, List.forall_mem_cons.mpr ⟨zw1228, List.forall_mem_cons.mpr ⟨zw1229, List.forall_mem_cons.mpr ⟨zw1230, List.forall_mem_cons.mpr ⟨zw1231, List.forall_mem_cons.mpr ⟨zw1232, List.forall_mem_cons.mpr ⟨zw1233, List.forall_mem_cons.mpr ⟨zw1234, List.forall_mem_cons.mpr ⟨zw1235, List.forall_mem_cons.mpr ⟨zw1236, List.forall_mem_cons.mpr ⟨zw1237, List.forall_mem_cons.mpr ⟨zw1238, List.forall_mem_cons.mpr ⟨zw1239, List.forall_mem_cons.mpr ⟨zw1240, List.forall_mem_cons.mpr ⟨zw1241, List.forall_mem_cons.mpr ⟨zw1242, List.forall_mem_cons.mpr ⟨zw1243, List.forall_mem_cons.mpr ⟨zw1244, List.forall_mem_cons.mpr ⟨zw1245, List.forall_mem_cons.mpr ⟨zw1246, List.forall_mem_cons.mpr ⟨zw1247, List.forall_mem_cons.mpr ⟨zw1248, List.forall_mem_cons.mpr ⟨zw1249, List.forall_mem_cons.mpr ⟨zw1250, List.forall_mem_cons.mpr ⟨zw1251, List.forall_mem_cons.mpr ⟨zw1252, List.forall_mem_cons.mpr ⟨zw1253, List.forall_mem_cons.mpr ⟨zw1254, List.forall_mem_cons.mpr ⟨zw1255, List.forall_mem_cons.mpr ⟨zw1256, List.forall_mem_cons.mpr ⟨zw1257, List.forall_mem_cons.mpr ⟨zw1258, List.forall_mem_cons.mpr ⟨zw1259, List.forall_mem_cons.mpr ⟨zw1260, List.forall_mem_cons.mpr ⟨zw1261, List.forall_mem_cons.mpr ⟨zw1262, List.forall_mem_cons.mpr ⟨zw1263, List.forall_mem_cons.mpr ⟨zw1264, List.forall_mem_cons.mpr ⟨zw1265, List.forall_mem_cons.mpr ⟨zw1266, List.forall_mem_cons.mpr ⟨zw1267, List.forall_mem_cons.mpr ⟨zw1268, List.forall_mem_cons.mpr ⟨zw1269, List.forall_mem_cons.mpr ⟨zw1270, List.forall_mem_cons.mpr ⟨zw1271, List.forall_mem_cons.mpr ⟨zw1272, List.forall_mem_cons.mpr ⟨zw1273, List.forall_mem_cons.mpr ⟨zw1274, List.forall_mem_cons.mpr ⟨zw1275, List.forall_mem_cons.mpr ⟨zw1276, List.forall_mem_cons.mpr ⟨zw1277, List.forall_mem_cons.mpr ⟨zw1278, List.forall_mem_cons.mpr ⟨zw1279, List.forall_mem_cons.mpr ⟨zw1280, List.forall_mem_cons.mpr ⟨zw1281, List.forall_mem_cons.mpr ⟨zw1282, List.forall_mem_cons.mpr ⟨zw1283, List.forall_mem_cons.mpr ⟨zw1284, List.forall_mem_cons.mpr ⟨zw1285, List.forall_mem_cons.mpr ⟨zw1286, List.forall_mem_cons.mpr ⟨zw1287, List.forall_mem_cons.mpr ⟨zw1288, List.forall_mem_cons.mpr ⟨zw1289, List.forall_mem_cons.mpr ⟨zw1290, List.forall_mem_cons.mpr ⟨zw1291, List.forall_mem_cons.mpr ⟨zw1292, List.forall_mem_cons.mpr ⟨zw1293, List.forall_mem_cons.mpr ⟨zw1294, List.forall_mem_cons.mpr ⟨zw1295, List.forall_mem_cons.mpr ⟨zw1296, List.forall_mem_cons.mpr ⟨zw1297, List.forall_mem_cons.mpr ⟨zw1298, List.forall_mem_cons.mpr ⟨zw1299, List.forall_mem_cons.mpr ⟨zw1300, List.forall_mem_cons.mpr ⟨zw1301, List.forall_mem_cons.mpr ⟨zw1302, List.forall_mem_cons.mpr ⟨zw1303, List.forall_mem_cons.mpr ⟨zw1304, List.forall_mem_cons.mpr ⟨zw1305, List.forall_mem_cons.mpr ⟨zw1306, List.forall_mem_cons.mpr ⟨zw1307, List.forall_mem_cons.mpr ⟨zw1308, List.forall_mem_cons.mpr ⟨zw1309, List.forall_mem_cons.mpr ⟨zw1310, List.forall_mem_cons.mpr ⟨zw1311, List.forall_mem_cons.mpr ⟨zw1312, List.forall_mem_cons.mpr ⟨zw1313, List.forall_mem_cons.mpr ⟨zw1314, List.forall_mem_cons.mpr ⟨zw1315, List.forall_mem_cons.mpr ⟨zw1316, List.forall_mem_cons.mpr ⟨zw1317, List.forall_mem_cons.mpr ⟨zw1318, List.forall_mem_cons.mpr ⟨zw1319, List.forall_mem_cons.mpr ⟨zw1320, List.forall_mem_cons.mpr ⟨zw1321, List.forall_mem_cons.mpr ⟨zw1322, List.forall_mem_cons.mpr ⟨zw1323, List.forall_mem_cons.mpr ⟨zw1324, List.forall_mem_cons.mpr ⟨zw1325, List.forall_mem_cons.mpr ⟨zw1326, List.forall_mem_cons.mpr ⟨zw1327, List.forall_mem_cons.mpr ⟨zw1328, List.forall_mem_cons.mpr ⟨zw1329, List.forall_mem_cons.mpr ⟨zw1330, List.forall_mem_cons.mpr ⟨zw1331, List.forall_mem_cons.mpr ⟨zw1332, List.forall_mem_cons.mpr ⟨zw1333, List.forall_mem_cons.mpr ⟨zw1334, List.forall_mem_cons.mpr ⟨zw1335, List.forall_mem_cons.mpr ⟨zw1336, List.forall_mem_cons.mpr ⟨zw1337, List.forall_mem_cons.mpr ⟨zw1338, List.forall_mem_cons.mpr ⟨zw1339, List.forall_mem_cons.mpr ⟨zw1340, List.forall_mem_cons.mpr ⟨zw1341, List.forall_mem_cons.mpr ⟨zw1342, List.forall_mem_cons.mpr ⟨zw1343, List.forall_mem_cons.mpr ⟨zw1344, List.forall_mem_cons.mpr ⟨zw1345, (fun _ h => nomatch h)⟩⟩⟩⟩⟩⟩⟩⟩⟩⟩⟩⟩⟩⟩⟩⟩⟩⟩⟩⟩⟩⟩⟩⟩⟩⟩⟩⟩⟩⟩⟩⟩⟩⟩⟩⟩⟩⟩⟩⟩⟩⟩⟩⟩⟩⟩⟩⟩⟩⟩⟩⟩⟩⟩⟩⟩⟩⟩⟩⟩⟩⟩⟩⟩⟩⟩⟩⟩⟩⟩⟩⟩⟩⟩⟩⟩⟩⟩⟩⟩⟩⟩⟩⟩⟩⟩⟩⟩⟩⟩⟩⟩⟩⟩⟩⟩⟩⟩⟩⟩⟩⟩⟩⟩⟩⟩⟩⟩⟩⟩⟩⟩⟩⟩⟩⟩⟩⟩⟩⟩⟩⟩⟩⟩⟩⟩⟩⟩⟩⟩⟩⟩⟩⟩⟩⟩⟩⟩⟩⟩⟩⟩⟩⟩⟩⟩⟩⟩⟩⟩⟩⟩⟩⟩⟩⟩⟩⟩⟩⟩⟩⟩⟩⟩⟩⟩⟩⟩⟩⟩⟩⟩⟩⟩⟩⟩⟩⟩⟩⟩⟩⟩⟩⟩⟩⟩⟩⟩⟩⟩⟩⟩⟩⟩⟩⟩⟩⟩⟩⟩⟩⟩⟩⟩⟩⟩⟩⟩⟩⟩⟩⟩⟩⟩⟩⟩⟩⟩⟩⟩⟩⟩⟩⟩⟩⟩⟩⟩⟩⟩⟩⟩⟩⟩⟩⟩⟩⟩⟩⟩⟩⟩⟩⟩⟩⟩⟩⟩⟩⟩⟩⟩⟩⟩⟩⟩⟩⟩⟩
theorem zTT_in : ∀ L ∈ zTT, ∀ w ∈ L, w ∈ lw_tbl := List.forall_mem_cons.mpr ⟨zTs0_in, List.forall_mem_cons.mpr ⟨zTs1_in, List.forall_mem_cons.mpr ⟨zTs2_in, List.forall_mem_cons.mpr ⟨zTs3_in, List.forall_mem_cons.mpr ⟨zTs4_in, List.forall_mem_cons.mpr ⟨zTs5_in, List.forall_mem_cons.mpr ⟨zTs6_in, List.forall_mem_cons.mpr ⟨zTs7_in, List.forall_mem_cons.mpr ⟨zTs8_in, List.forall_mem_cons.mpr ⟨zTs9_in, List.forall_mem_cons.mpr ⟨zTs10_in, List.forall_mem_cons.mpr ⟨zTs11_in, List.forall_mem_cons.mpr ⟨zTs12_in, List.forall_mem_cons.mpr ⟨zTs13_in, List.forall_mem_cons.mpr ⟨zTs14_in, List.forall_mem_cons.mpr ⟨zTs15_in, List.forall_mem_cons.mpr ⟨zTs16_in, List.forall_mem_cons.mpr ⟨zTs17_in, List.forall_mem_cons.mpr ⟨zTs18_in, List.forall_mem_cons.mpr ⟨zTs19_in, List.forall_mem_cons.mpr ⟨zTs20_in, List.forall_mem_cons.mpr ⟨zTs21_in, List.forall_mem_cons.mpr ⟨zTs22_in, List.forall_mem_cons.mpr ⟨zTs23_in, List.forall_mem_cons.mpr ⟨zTs24_in, List.forall_mem_cons.mpr ⟨zTs25_in, List.forall_mem_cons.mpr ⟨zTs26_in, List.forall_mem_cons.mpr ⟨zTs27_in, List.forall_mem_cons.mpr ⟨zTs28_in, List.forall_mem_cons.mpr ⟨zTs29_in, List.forall_mem_cons.mpr ⟨zTs30_in, List.forall_mem_cons.mpr ⟨zTs31_in, List.forall_mem_cons.mpr ⟨zTs32_in, List.forall_mem_cons.mpr ⟨zTs33_in, List.forall_mem_cons.mpr ⟨zTs34_in, (fun _ h => nomatch h)⟩⟩⟩⟩⟩⟩⟩⟩⟩⟩⟩⟩⟩⟩⟩⟩⟩⟩⟩⟩⟩⟩⟩⟩⟩⟩⟩⟩⟩⟩⟩⟩⟩⟩⟩
theorem zTs_in : ∀ w ∈ zTs, w ∈ lw_tbl := fun w h => by
  rcases List.mem_append.mp h with h | h
  · obtain ⟨L, hL, hw⟩ := List.mem_flatten.mp h
    exact zTT_in L hL w hw
  · exact zcw_in w h
theorem zTT_q : ∀ (j : Nat) (w : Cond), xq zTT j = some w → w ∈ zTs := fun j w h => List.mem_append_left _ (xq_mem h)
theorem zTs_good1 : zTT.all (fun L => L.all goodWord) = true := by decide +kernel
theorem zTs_good2 : zcw.all goodWord = true := by decide +kernel
theorem zTs_good : zTs.all goodWord = true := by
  unfold zTs
  rw [List.all_append, zTs_good2, Bool.and_true, List.all_flatten]
  exact zTs_good1
theorem zBs_ok : ∀ w ∈ zBs, xBw w = true := by decide +kernel
