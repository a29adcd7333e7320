abbrev Me : Type := (Nat → Nat → Nat → Nat → Int32) × (Nat → Nat → Nat → Nat → Int64)
def wI (M : Me) (f i s r : Nat) (v : Int32) : Me := (fun f' i' s' r' => if f' = f ∧ i' = i ∧ s' = s ∧ r' = r then v else M.1 f' i' s' r', M.2)
def wL (M : Me) (f i s r : Nat) (v : Int64) : Me := (M.1, fun f' i' s' r' => if f' = f ∧ i' = i ∧ s' = s ∧ r' = r then v else M.2 f' i' s' r')
def cI (M : Me) (f i s : Nat) (g : Nat → Int32) (sp dp n : Nat) : Me := (fun f' i' s' r' => if f' = f ∧ i' = i ∧ s' = s then va_cpy g (M.1 f i s) sp dp n r' else M.1 f' i' s' r', M.2)
abbrev Gt : Type := Nat × va_G × (Nat → ClassId)
abbrev tN (x : Int32) : Nat := x.toNatClampNeg
theorem in_p (ws : List Cond) (ps : List Nat) (hp : ws = ps.filterMap (fun i => gw[i]?)) : ∀ w ∈ ws, w ∈ gw := by
  intro w hw
  rw [hp] at hw
  obtain ⟨i, -, hi⟩ := List.mem_filterMap.mp hw
  first | exact List.mem_of_getElem? hi | exact List.getElem?_mem hi
theorem gd_all {w : Cond} (h : w ∈ gw) : (w.onTables && w.keeps) = true ∨ ∃ ty, w = .arrayClass ty := good_of_word (List.mem_filter.mp h).2
def F_RC : u_T := fun k => match k with
  | 0 => ("RetryChains", "now", "LRetryChains$Network;", true)
  | 1 => ("RetryChains", "trial", "LRetryChains$Network;", true)
  | 2 => ("RetryChains", "slots", "[LRetryChains$Network;", true)
  | 3 => ("RetryChains", "isSaved", "[Z", true)
  | 4 => ("RetryChains", "history", "LRetryChains$History;", true)
  | _ => ("RetryChains", "search", "LRetryChains$ChainSearch;", true)
def t_RC : Nat → FieldType := fun k => match k with
  | 0 => .object "RetryChains$Network"
  | 1 => .object "RetryChains$Network"
  | 2 => .array (.object "RetryChains$Network")
  | 3 => .array (.boolean)
  | 4 => .object "RetryChains$History"
  | _ => .object "RetryChains$ChainSearch"
theorem n_RC : ∀ a, a < 6 → ∀ b, b < 6 → a ≠ b → (F_RC a).2.1 ≠ (F_RC b).2.1 := by decide +kernel
theorem t_RC_ok : ∀ k, k < 6 → parseFieldDescriptor (F_RC k).2.2.1 = some (t_RC k) := by decide +kernel
theorem i_RC : ∀ w ∈ u_ws "RetryChains" F_RC 6, w ∈ gw := in_p _ [421, 423, 425, 427, 429, 431] (by decide +kernel)
def F_NET : u_T := fun k => match k with
  | 0 => ("RetryChains$Network", "rates", "LRetryChains$RateTable;", true)
  | 1 => ("RetryChains$Network", "stations", "[LRetryChains$Station;", true)
  | 2 => ("RetryChains$Network", "open", "[LRetryChains$Chain;", true)
  | 3 => ("RetryChains$Network", "log", "LRetryChains$EventLog;", true)
  | 4 => ("RetryChains$Network", "stationCount", "I", false)
  | 5 => ("RetryChains$Network", "time", "I", false)
  | 6 => ("RetryChains$Network", "share", "I", false)
  | 7 => ("RetryChains$Network", "weight", "I", false)
  | 8 => ("RetryChains$Network", "interval", "I", false)
  | 9 => ("RetryChains$Network", "budget", "I", false)
  | _ => ("RetryChains$Network", "turn", "I", false)
def t_NET : Nat → FieldType := fun k => match k with
  | 0 => .object "RetryChains$RateTable"
  | 1 => .array (.object "RetryChains$Station")
  | 2 => .array (.object "RetryChains$Chain")
  | 3 => .object "RetryChains$EventLog"
  | 4 => .int
  | 5 => .int
  | 6 => .int
  | 7 => .int
  | 8 => .int
  | 9 => .int
  | _ => .int
theorem n_NET : ∀ a, a < 11 → ∀ b, b < 11 → a ≠ b → (F_NET a).2.1 ≠ (F_NET b).2.1 := by decide +kernel
theorem t_NET_ok : ∀ k, k < 11 → parseFieldDescriptor (F_NET k).2.2.1 = some (t_NET k) := by decide +kernel
theorem i_NET : ∀ w ∈ u_ws "RetryChains$Network" F_NET 11, w ∈ gw := in_p _ [329, 331, 333, 335, 337, 339, 341, 343, 345, 347, 349] (by decide +kernel)
def F_TAB : u_T := fun k => match k with
  | 0 => ("RetryChains$RateTable", "count", "I", false)
  | 1 => ("RetryChains$RateTable", "modes", "[I", true)
  | 2 => ("RetryChains$RateTable", "speeds", "[I", true)
  | _ => ("RetryChains$RateTable", "nominals", "[I", true)
def t_TAB : Nat → FieldType := fun k => match k with
  | 0 => .int
  | 1 => .array (.int)
  | 2 => .array (.int)
  | _ => .array (.int)
theorem n_TAB : ∀ a, a < 4 → ∀ b, b < 4 → a ≠ b → (F_TAB a).2.1 ≠ (F_TAB b).2.1 := by decide +kernel
theorem t_TAB_ok : ∀ k, k < 4 → parseFieldDescriptor (F_TAB k).2.2.1 = some (t_TAB k) := by decide +kernel
theorem i_TAB : ∀ w ∈ u_ws "RetryChains$RateTable" F_TAB 4, w ∈ gw := in_p _ [118, 120, 122, 124] (by decide +kernel)
def F_LOG : u_T := fun k => match k with
  | 0 => ("RetryChains$EventLog", "total", "I", false)
  | _ => ("RetryChains$EventLog", "rows", "[[I", true)
def t_LOG : Nat → FieldType := fun k => match k with
  | 0 => .int
  | _ => .array (.array (.int))
theorem n_LOG : ∀ a, a < 2 → ∀ b, b < 2 → a ≠ b → (F_LOG a).2.1 ≠ (F_LOG b).2.1 := by decide +kernel
theorem t_LOG_ok : ∀ k, k < 2 → parseFieldDescriptor (F_LOG k).2.2.1 = some (t_LOG k) := by decide +kernel
theorem i_LOG : ∀ w ∈ u_ws "RetryChains$EventLog" F_LOG 2, w ∈ gw := in_p _ [139, 141] (by decide +kernel)
def F_STA : u_T := fun k => match k with
  | 0 => ("RetryChains$Station", "number", "I", true)
  | 1 => ("RetryChains$Station", "links", "[LRetryChains$Link;", true)
  | 2 => ("RetryChains$Station", "roles", "[I", true)
  | 3 => ("RetryChains$Station", "refusals", "[I", true)
  | 4 => ("RetryChains$Station", "queue", "[I", true)
  | 5 => ("RetryChains$Station", "queueLength", "I", false)
  | 6 => ("RetryChains$Station", "chains", "I", false)
  | 7 => ("RetryChains$Station", "sampled", "I", false)
  | 8 => ("RetryChains$Station", "delivered", "I", false)
  | 9 => ("RetryChains$Station", "lost", "I", false)
  | 10 => ("RetryChains$Station", "losses", "I", false)
  | 11 => ("RetryChains$Station", "inFallback", "Z", false)
  | 12 => ("RetryChains$Station", "deficit", "I", false)
  | 13 => ("RetryChains$Station", "intervalEnd", "J", false)
  | _ => ("RetryChains$Station", "draw", "I", false)
def t_STA : Nat → FieldType := fun k => match k with
  | 0 => .int
  | 1 => .array (.object "RetryChains$Link")
  | 2 => .array (.int)
  | 3 => .array (.int)
  | 4 => .array (.int)
  | 5 => .int
  | 6 => .int
  | 7 => .int
  | 8 => .int
  | 9 => .int
  | 10 => .int
  | 11 => .boolean
  | 12 => .int
  | 13 => .long
  | _ => .int
theorem n_STA : ∀ a, a < 15 → ∀ b, b < 15 → a ≠ b → (F_STA a).2.1 ≠ (F_STA b).2.1 := by decide +kernel
theorem t_STA_ok : ∀ k, k < 15 → parseFieldDescriptor (F_STA k).2.2.1 = some (t_STA k) := by decide +kernel
theorem i_STA : ∀ w ∈ u_ws "RetryChains$Station" F_STA 15, w ∈ gw := in_p _ [237, 239, 241, 243, 245, 247, 249, 251, 253, 255, 257, 259, 261, 263, 265] (by decide +kernel)
def F_LNK : u_T := fun k => match k with
  | 0 => ("RetryChains$Link", "isAllowed", "Z", false)
  | 1 => ("RetryChains$Link", "estimate", "I", false)
  | 2 => ("RetryChains$Link", "tendency", "I", false)
  | 3 => ("RetryChains$Link", "tries", "I", false)
  | 4 => ("RetryChains$Link", "successes", "I", false)
  | 5 => ("RetryChains$Link", "allTries", "I", false)
  | 6 => ("RetryChains$Link", "allSuccesses", "I", false)
  | _ => ("RetryChains$Link", "quality", "I", false)
def t_LNK : Nat → FieldType := fun k => match k with
  | 0 => .boolean
  | 1 => .int
  | 2 => .int
  | 3 => .int
  | 4 => .int
  | 5 => .int
  | 6 => .int
  | _ => .int
theorem n_LNK : ∀ a, a < 8 → ∀ b, b < 8 → a ≠ b → (F_LNK a).2.1 ≠ (F_LNK b).2.1 := by decide +kernel
theorem t_LNK_ok : ∀ k, k < 8 → parseFieldDescriptor (F_LNK k).2.2.1 = some (t_LNK k) := by decide +kernel
theorem i_LNK : ∀ w ∈ u_ws "RetryChains$Link" F_LNK 8, w ∈ gw := in_p _ [179, 181, 183, 185, 187, 189, 191, 193] (by decide +kernel)
def F_CHN : u_T := fun k => match k with
  | 0 => ("RetryChains$Chain", "isOpen", "Z", false)
  | 1 => ("RetryChains$Chain", "station", "I", false)
  | 2 => ("RetryChains$Chain", "size", "I", false)
  | 3 => ("RetryChains$Chain", "kind", "I", false)
  | 4 => ("RetryChains$Chain", "sampleEntry", "I", false)
  | 5 => ("RetryChains$Chain", "rates", "[I", true)
  | _ => ("RetryChains$Chain", "tries", "[I", true)
def t_CHN : Nat → FieldType := fun k => match k with
  | 0 => .boolean
  | 1 => .int
  | 2 => .int
  | 3 => .int
  | 4 => .int
  | 5 => .array (.int)
  | _ => .array (.int)
theorem n_CHN : ∀ a, a < 7 → ∀ b, b < 7 → a ≠ b → (F_CHN a).2.1 ≠ (F_CHN b).2.1 := by decide +kernel
theorem t_CHN_ok : ∀ k, k < 7 → parseFieldDescriptor (F_CHN k).2.2.1 = some (t_CHN k) := by decide +kernel
theorem i_CHN : ∀ w ∈ u_ws "RetryChains$Chain" F_CHN 7, w ∈ gw := in_p _ [292, 294, 296, 298, 300, 302, 304] (by decide +kernel)
def F_HIS : u_T := fun k => match k with
  | 0 => ("RetryChains$History", "states", "[LRetryChains$Network;", true)
  | 1 => ("RetryChains$History", "oldest", "I", false)
  | _ => ("RetryChains$History", "count", "I", false)
def t_HIS : Nat → FieldType := fun k => match k with
  | 0 => .array (.object "RetryChains$Network")
  | 1 => .int
  | _ => .int
theorem n_HIS : ∀ a, a < 3 → ∀ b, b < 3 → a ≠ b → (F_HIS a).2.1 ≠ (F_HIS b).2.1 := by decide +kernel
theorem t_HIS_ok : ∀ k, k < 3 → parseFieldDescriptor (F_HIS k).2.2.1 = some (t_HIS k) := by decide +kernel
theorem i_HIS : ∀ w ∈ u_ws "RetryChains$History" F_HIS 3, w ∈ gw := in_p _ [364, 366, 368] (by decide +kernel)
def F_SEA : u_T := fun k => match k with
  | 0 => ("RetryChains$ChainSearch", "count", "I", false)
  | 1 => ("RetryChains$ChainSearch", "rates", "[I", true)
  | 2 => ("RetryChains$ChainSearch", "misses", "[I", true)
  | 3 => ("RetryChains$ChainSearch", "tries", "[I", true)
  | 4 => ("RetryChains$ChainSearch", "times", "[[I", true)
  | 5 => ("RetryChains$ChainSearch", "reach", "[J", true)
  | 6 => ("RetryChains$ChainSearch", "sums", "[J", true)
  | 7 => ("RetryChains$ChainSearch", "entries", "[I", true)
  | 8 => ("RetryChains$ChainSearch", "best", "[I", true)
  | 9 => ("RetryChains$ChainSearch", "bestChance", "J", false)
  | _ => ("RetryChains$ChainSearch", "bestTime", "J", false)
def t_SEA : Nat → FieldType := fun k => match k with
  | 0 => .int
  | 1 => .array (.int)
  | 2 => .array (.int)
  | 3 => .array (.int)
  | 4 => .array (.array (.int))
  | 5 => .array (.long)
  | 6 => .array (.long)
  | 7 => .array (.int)
  | 8 => .array (.int)
  | 9 => .long
  | _ => .long
theorem n_SEA : ∀ a, a < 11 → ∀ b, b < 11 → a ≠ b → (F_SEA a).2.1 ≠ (F_SEA b).2.1 := by decide +kernel
theorem t_SEA_ok : ∀ k, k < 11 → parseFieldDescriptor (F_SEA k).2.2.1 = some (t_SEA k) := by decide +kernel
theorem i_SEA : ∀ w ∈ u_ws "RetryChains$ChainSearch" F_SEA 11, w ∈ gw := in_p _ [391, 393, 395, 397, 399, 401, 403, 405, 407, 409, 411] (by decide +kernel)
def F_MOD : u_T := fun k => match k with
  | 0 => ("RetryChainsModel", "v", "[I", true)
  | 1 => ("RetryChainsModel", "saved", "[I", true)
  | 2 => ("RetryChainsModel", "isSaved", "[Z", true)
  | 3 => ("RetryChainsModel", "past", "[I", true)
  | 4 => ("RetryChainsModel", "aside", "[I", true)
  | 5 => ("RetryChainsModel", "pastMany", "I", false)
  | 6 => ("RetryChainsModel", "tryReach", "J", false)
  | _ => ("RetryChainsModel", "trySum", "J", false)
def t_MOD : Nat → FieldType := fun k => match k with
  | 0 => .array (.int)
  | 1 => .array (.int)
  | 2 => .array (.boolean)
  | 3 => .array (.int)
  | 4 => .array (.int)
  | 5 => .int
  | 6 => .long
  | _ => .long
theorem n_MOD : ∀ a, a < 8 → ∀ b, b < 8 → a ≠ b → (F_MOD a).2.1 ≠ (F_MOD b).2.1 := by decide +kernel
theorem t_MOD_ok : ∀ k, k < 8 → parseFieldDescriptor (F_MOD k).2.2.1 = some (t_MOD k) := by decide +kernel
theorem i_MOD : ∀ w ∈ u_ws "RetryChainsModel" F_MOD 8, w ∈ gw := in_p _ [1044, 1046, 1048, 1050, 1052, 1054, 1056, 1058] (by decide +kernel)
abbrev cls : List vw_C := [("RetryChains", F_RC, 6), ("RetryChains$Network", F_NET, 11), ("RetryChains$RateTable", F_TAB, 4), ("RetryChains$EventLog", F_LOG, 2), ("RetryChains$Station", F_STA, 15), ("RetryChains$Link", F_LNK, 8), ("RetryChains$Chain", F_CHN, 7), ("RetryChains$History", F_HIS, 3), ("RetryChains$ChainSearch", F_SEA, 11), ("RetryChainsModel", F_MOD, 8)]
abbrev tyl (G : Gt) : List (ClassId × FieldType) := [(G.2.2 0, .int), (G.2.2 1, .long), (G.2.2 2, .boolean), (G.2.2 3, .object "RetryChains$Network"), (G.2.2 4, .object "RetryChains$Station"), (G.2.2 5, .object "RetryChains$Chain"), (G.2.2 6, .object "RetryChains$Link"), (G.2.2 7, .array .int)]
def oNET (i : Nat) : Nat := if i = 0 then 1 else if i = 1 then 84 else if i < 4 then 168 + 83 * (i - 2) else 337 + 83 * (i - 4)
abbrev oRC : Nat := 0
abbrev oTAB (i : Nat) : Nat := oNET i + 1
abbrev oMODES (i : Nat) : Nat := oNET i + 2
abbrev oSPEEDS (i : Nat) : Nat := oNET i + 3
abbrev oNOMS (i : Nat) : Nat := oNET i + 4
abbrev oSTAS (i : Nat) : Nat := oNET i + 5
abbrev oOPENS (i : Nat) : Nat := oNET i + 6
abbrev oLOG (i : Nat) : Nat := oNET i + 7
abbrev oROWS (i : Nat) : Nat := oNET i + 8
abbrev oLROW (i : Nat) (s : Nat) : Nat := oNET i + (9 + s)
abbrev oSTA (i : Nat) (s : Nat) : Nat := oNET i + (13 + 13 * s)
abbrev oLINKS (i : Nat) (s : Nat) : Nat := oNET i + (14 + 13 * s)
abbrev oROLES (i : Nat) (s : Nat) : Nat := oNET i + (15 + 13 * s)
abbrev oREFS (i : Nat) (s : Nat) : Nat := oNET i + (16 + 13 * s)
abbrev oQUEUE (i : Nat) (s : Nat) : Nat := oNET i + (17 + 13 * s)
abbrev oLNK (i : Nat) (s : Nat) (r : Nat) : Nat := oNET i + (18 + 13 * s + r)
abbrev oCHN (i : Nat) (s : Nat) : Nat := oNET i + (65 + 3 * s)
abbrev oCRATES (i : Nat) (s : Nat) : Nat := oNET i + (66 + 3 * s)
abbrev oCTRIES (i : Nat) (s : Nat) : Nat := oNET i + (67 + 3 * s)
abbrev oSLOTS : Nat := 167
abbrev oISSAVED : Nat := 334
abbrev oHIS : Nat := 335
abbrev oSTATES : Nat := 336
abbrev oSEA : Nat := 752
abbrev oSRATES : Nat := 753
abbrev oSMISS : Nat := 754
abbrev oSTRIES : Nat := 755
abbrev oSTIMES : Nat := 756
abbrev oSTROW (s : Nat) : Nat := 757 + s
abbrev oSREACH : Nat := 765
abbrev oSSUMS : Nat := 766
abbrev oSENT : Nat := 767
abbrev oSBEST : Nat := 768
def ce (G : Gt) (M : Me) (k i s r : Nat) : va_E := match k with
  | 0 => .inr (0, [.ref (G.1 + oNET 0), .ref (G.1 + oNET 1), .ref (G.1 + oSLOTS), .ref (G.1 + oISSAVED), .ref (G.1 + oHIS), .ref (G.1 + oSEA)])
  | 1 => .inr (1, [.ref (G.1 + oTAB i), .ref (G.1 + oSTAS i), .ref (G.1 + oOPENS i), .ref (G.1 + oLOG i), .int (M.1 0 i s r), .int (M.1 1 i s r), .int (M.1 2 i s r), .int (M.1 3 i s r), .int (M.1 4 i s r), .int (M.1 5 i s r), .int (M.1 6 i s r)])
  | 2 => .inr (2, [.int (M.1 10 i s r), .ref (G.1 + oMODES i), .ref (G.1 + oSPEEDS i), .ref (G.1 + oNOMS i)])
  | 3 => .inl (G.2.2 0, 8, .inl (fun k => M.1 11 i s k))
  | 4 => .inl (G.2.2 0, 8, .inl (fun k => M.1 12 i s k))
  | 5 => .inl (G.2.2 0, 8, .inl (fun k => M.1 13 i s k))
  | 6 => .inl (G.2.2 4, 4, .inr (.inr (.inr (.inr (fun k => some (G.1 + oSTA i k))))))
  | 7 => .inl (G.2.2 5, 6, .inr (.inr (.inr (.inr (fun k => some (G.1 + oCHN i k))))))
  | 8 => .inr (3, [.int (M.1 60 i s r), .ref (G.1 + oROWS i)])
  | 9 => .inl (G.2.2 7, 4, .inr (.inr (.inr (.inr (fun k => some (G.1 + oLROW i k))))))
  | 10 => .inl (G.2.2 0, 20, .inl (fun k => M.1 61 i s k))
  | 11 => .inr (4, [.int (nI s), .ref (G.1 + oLINKS i s), .ref (G.1 + oROLES i s), .ref (G.1 + oREFS i s), .ref (G.1 + oQUEUE i s), .int (M.1 31 i s r), .int (M.1 32 i s r), .int (M.1 33 i s r), .int (M.1 34 i s r), .int (M.1 35 i s r), .int (M.1 36 i s r), .int (M.1 37 i s r), .int (M.1 38 i s r), .long (M.2 39 i s r), .int (M.1 40 i s r)])
  | 12 => .inl (G.2.2 6, 8, .inr (.inr (.inr (.inr (fun k => some (G.1 + oLNK i s k))))))
  | 13 => .inl (G.2.2 0, 4, .inl (fun k => M.1 41 i s k))
  | 14 => .inl (G.2.2 0, 3, .inl (fun k => M.1 42 i s k))
  | 15 => .inl (G.2.2 0, 8, .inl (fun k => M.1 43 i s k))
  | 16 => .inr (5, [.int (M.1 20 i s r), .int (M.1 21 i s r), .int (M.1 22 i s r), .int (M.1 23 i s r), .int (M.1 24 i s r), .int (M.1 25 i s r), .int (M.1 26 i s r), .int (M.1 27 i s r)])
  | 17 => .inr (6, [.int (M.1 50 i s r), .int (M.1 51 i s r), .int (M.1 52 i s r), .int (M.1 53 i s r), .int (M.1 54 i s r), .ref (G.1 + oCRATES i s), .ref (G.1 + oCTRIES i s)])
  | 18 => .inl (G.2.2 0, 4, .inl (fun k => M.1 55 i s k))
  | 19 => .inl (G.2.2 0, 4, .inl (fun k => M.1 56 i s k))
  | 20 => .inl (G.2.2 3, 2, .inr (.inr (.inr (.inr (fun k => some (G.1 + oNET (2 + k)))))))
  | 21 => .inl (G.2.2 2, 2, .inl (fun k => M.1 91 i s k))
  | 22 => .inr (7, [.ref (G.1 + oSTATES), .int (M.1 70 i s r), .int (M.1 71 i s r)])
  | 23 => .inl (G.2.2 3, 5, .inr (.inr (.inr (.inr (fun k => some (G.1 + oNET (4 + k)))))))
  | 24 => .inr (8, [.int (M.1 80 i s r), .ref (G.1 + oSRATES), .ref (G.1 + oSMISS), .ref (G.1 + oSTRIES), .ref (G.1 + oSTIMES), .ref (G.1 + oSREACH), .ref (G.1 + oSSUMS), .ref (G.1 + oSENT), .ref (G.1 + oSBEST), .long (M.2 89 i s r), .long (M.2 90 i s r)])
  | 25 => .inl (G.2.2 0, 8, .inl (fun k => M.1 81 i s k))
  | 26 => .inl (G.2.2 0, 8, .inl (fun k => M.1 82 i s k))
  | 27 => .inl (G.2.2 0, 8, .inl (fun k => M.1 83 i s k))
  | 28 => .inl (G.2.2 7, 8, .inr (.inr (.inr (.inr (fun k => some (G.1 + oSTROW k))))))
  | 29 => .inl (G.2.2 0, 7, .inl (fun k => M.1 84 i s k))
  | 30 => .inl (G.2.2 1, 5, .inr (.inl (fun k => M.2 85 i s k)))
  | 31 => .inl (G.2.2 1, 5, .inr (.inl (fun k => M.2 86 i s k)))
  | 32 => .inl (G.2.2 0, 4, .inl (fun k => M.1 87 i s k))
  | 33 => .inl (G.2.2 0, 4, .inl (fun k => M.1 88 i s k))
  | _ => .inr (0, [])
def kn (i o : Nat) : Nat × Nat × Nat × Nat :=
  if o < 9 then (o + 1, i, 0, 0) else if o < 13 then (10, i, o - 9, 0) else if o < 65 then (if (o - 13) % 13 < 5 then (11 + (o - 13) % 13, i, (o - 13) / 13, 0) else (16, i, (o - 13) / 13, (o - 13) % 13 - 5)) else (17 + (o - 65) % 3, i, (o - 65) / 3, 0)
def ky (q : Nat) : Nat × Nat × Nat × Nat :=
  if q = 0 then (0, 0, 0, 0) else if q < 84 then kn 0 (q - 1) else if q < 167 then kn 1 (q - 84) else if q = 167 then (20, 0, 0, 0) else if q < 334 then kn (2 + (q - 168) / 83) ((q - 168) % 83) else if q < 337 then (q - 313, 0, 0, 0) else if q < 752 then kn (4 + (q - 337) / 83) ((q - 337) % 83) else if q < 757 then (q - 728, 0, 0, 0) else if q < 765 then (29, 0, q - 757, 0) else (q - 735, 0, 0, 0)
def okk (k i s r : Nat) : Nat := match k with
  | 0 => oRC
  | 1 => oNET i
  | 2 => oTAB i
  | 3 => oMODES i
  | 4 => oSPEEDS i
  | 5 => oNOMS i
  | 6 => oSTAS i
  | 7 => oOPENS i
  | 8 => oLOG i
  | 9 => oROWS i
  | 10 => oLROW i s
  | 11 => oSTA i s
  | 12 => oLINKS i s
  | 13 => oROLES i s
  | 14 => oREFS i s
  | 15 => oQUEUE i s
  | 16 => oLNK i s r
  | 17 => oCHN i s
  | 18 => oCRATES i s
  | 19 => oCTRIES i s
  | 20 => oSLOTS
  | 21 => oISSAVED
  | 22 => oHIS
  | 23 => oSTATES
  | 24 => oSEA
  | 25 => oSRATES
  | 26 => oSMISS
  | 27 => oSTRIES
  | 28 => oSTIMES
  | 29 => oSTROW s
  | 30 => oSREACH
  | 31 => oSSUMS
  | 32 => oSENT
  | 33 => oSBEST
  | _ => 0
theorem okk_ky : ∀ q, q < 769 → okk (ky q).1 (ky q).2.1 (ky q).2.2.1 (ky q).2.2.2 = q := by decide +kernel
theorem ky_RC : oRC < 769 ∧ ky (oRC) = (0, 0, 0, 0) := by decide +kernel
theorem ky_NET : ∀ i, i < 9 → oNET i < 769 ∧ ky (oNET i) = (1, i, 0, 0) := by decide +kernel
theorem ky_TAB : ∀ i, i < 9 → oTAB i < 769 ∧ ky (oTAB i) = (2, i, 0, 0) := by decide +kernel
theorem ky_MODES : ∀ i, i < 9 → oMODES i < 769 ∧ ky (oMODES i) = (3, i, 0, 0) := by decide +kernel
theorem ky_SPEEDS : ∀ i, i < 9 → oSPEEDS i < 769 ∧ ky (oSPEEDS i) = (4, i, 0, 0) := by decide +kernel
theorem ky_NOMS : ∀ i, i < 9 → oNOMS i < 769 ∧ ky (oNOMS i) = (5, i, 0, 0) := by decide +kernel
theorem ky_STAS : ∀ i, i < 9 → oSTAS i < 769 ∧ ky (oSTAS i) = (6, i, 0, 0) := by decide +kernel
theorem ky_OPENS : ∀ i, i < 9 → oOPENS i < 769 ∧ ky (oOPENS i) = (7, i, 0, 0) := by decide +kernel
theorem ky_LOG : ∀ i, i < 9 → oLOG i < 769 ∧ ky (oLOG i) = (8, i, 0, 0) := by decide +kernel
theorem ky_ROWS : ∀ i, i < 9 → oROWS i < 769 ∧ ky (oROWS i) = (9, i, 0, 0) := by decide +kernel
theorem ky_LROW : ∀ i, i < 9 → ∀ s, s < 4 → oLROW i s < 769 ∧ ky (oLROW i s) = (10, i, s, 0) := by decide +kernel
theorem ky_STA : ∀ i, i < 9 → ∀ s, s < 4 → oSTA i s < 769 ∧ ky (oSTA i s) = (11, i, s, 0) := by decide +kernel
theorem ky_LINKS : ∀ i, i < 9 → ∀ s, s < 4 → oLINKS i s < 769 ∧ ky (oLINKS i s) = (12, i, s, 0) := by decide +kernel
theorem ky_ROLES : ∀ i, i < 9 → ∀ s, s < 4 → oROLES i s < 769 ∧ ky (oROLES i s) = (13, i, s, 0) := by decide +kernel
theorem ky_REFS : ∀ i, i < 9 → ∀ s, s < 4 → oREFS i s < 769 ∧ ky (oREFS i s) = (14, i, s, 0) := by decide +kernel
theorem ky_QUEUE : ∀ i, i < 9 → ∀ s, s < 4 → oQUEUE i s < 769 ∧ ky (oQUEUE i s) = (15, i, s, 0) := by decide +kernel
theorem ky_LNK0 : (List.range 9).all (fun i => (List.range 4).all (fun s => (List.range 8).all (fun r => decide (oLNK i s r < 769 ∧ ky (oLNK i s r) = (16, i, s, r))))) = true := by decide +kernel
theorem ky_LNK : ∀ i, i < 9 → ∀ s, s < 4 → ∀ r, r < 8 → oLNK i s r < 769 ∧ ky (oLNK i s r) = (16, i, s, r) := fun i hi s hs r hr => of_decide_eq_true (List.all_eq_true.mp (List.all_eq_true.mp (List.all_eq_true.mp ky_LNK0 i (List.mem_range.mpr hi)) s (List.mem_range.mpr hs)) r (List.mem_range.mpr hr))
theorem ky_CHN : ∀ i, i < 9 → ∀ s, s < 6 → oCHN i s < 769 ∧ ky (oCHN i s) = (17, i, s, 0) := by decide +kernel
theorem ky_CRATES : ∀ i, i < 9 → ∀ s, s < 6 → oCRATES i s < 769 ∧ ky (oCRATES i s) = (18, i, s, 0) := by decide +kernel
theorem ky_CTRIES : ∀ i, i < 9 → ∀ s, s < 6 → oCTRIES i s < 769 ∧ ky (oCTRIES i s) = (19, i, s, 0) := by decide +kernel
theorem ky_SLOTS : oSLOTS < 769 ∧ ky (oSLOTS) = (20, 0, 0, 0) := by decide +kernel
theorem ky_ISSAVED : oISSAVED < 769 ∧ ky (oISSAVED) = (21, 0, 0, 0) := by decide +kernel
theorem ky_HIS : oHIS < 769 ∧ ky (oHIS) = (22, 0, 0, 0) := by decide +kernel
theorem ky_STATES : oSTATES < 769 ∧ ky (oSTATES) = (23, 0, 0, 0) := by decide +kernel
theorem ky_SEA : oSEA < 769 ∧ ky (oSEA) = (24, 0, 0, 0) := by decide +kernel
theorem ky_SRATES : oSRATES < 769 ∧ ky (oSRATES) = (25, 0, 0, 0) := by decide +kernel
theorem ky_SMISS : oSMISS < 769 ∧ ky (oSMISS) = (26, 0, 0, 0) := by decide +kernel
theorem ky_STRIES : oSTRIES < 769 ∧ ky (oSTRIES) = (27, 0, 0, 0) := by decide +kernel
theorem ky_STIMES : oSTIMES < 769 ∧ ky (oSTIMES) = (28, 0, 0, 0) := by decide +kernel
theorem ky_STROW : ∀ s, s < 8 → oSTROW s < 769 ∧ ky (oSTROW s) = (29, 0, s, 0) := by decide +kernel
theorem ky_SREACH : oSREACH < 769 ∧ ky (oSREACH) = (30, 0, 0, 0) := by decide +kernel
theorem ky_SSUMS : oSSUMS < 769 ∧ ky (oSSUMS) = (31, 0, 0, 0) := by decide +kernel
theorem ky_SENT : oSENT < 769 ∧ ky (oSENT) = (32, 0, 0, 0) := by decide +kernel
theorem ky_SBEST : oSBEST < 769 ∧ ky (oSBEST) = (33, 0, 0, 0) := by decide +kernel
def ceq (G : Gt) (M : Me) (q : Nat) : va_E := ce G M (ky q).1 (ky q).2.1 (ky q).2.2.1 (ky q).2.2.2
def wC (G : Gt) (M : Me) : va_W := (List.range 769).map (fun q => (G.1 + q, ceq G M q))
theorem wC_get {G : Gt} {M : Me} {q k i s r : Nat} (h : q < 769 ∧ ky q = (k, i, s, r)) : (wC G M)[q]? = some (G.1 + q, ce G M k i s r) := by
  have e : ceq G M q = ce G M k i s r := by unfold ceq; rw [h.2]
  rw [← e]
  simp [wC, List.getElem?_range h.1]
def rC (G : Gt) (q : Nat) : Prop := G.1 ≤ q ∧ q < G.1 + 769
theorem wC_D (G : Gt) (M : Me) : va_D (rC G) (wC G M) := by
  have key : ∀ (k : Nat) (p : Nat × va_E), (wC G M)[k]? = some p → k < 769 ∧ p.1 = G.1 + k := by
    intro k p h
    have hk : k < 769 := by
      have := (List.getElem?_eq_some_iff.mp h).1
      simpa [wC] using this
    have h2 : (wC G M)[k]? = some (G.1 + k, ceq G M k) := by simp [wC, List.getElem?_range hk]
    rw [h2] at h
    cases h
    exact ⟨hk, rfl⟩
  refine ⟨fun i j p q hi hj e => ?_, fun k q hk => ?_⟩
  · have h1 := (key i p hi).2
    have h2 := (key j q hj).2
    omega
  · obtain ⟨h1, h2⟩ := key k q hk
    rw [h2]
    exact ⟨by omega, by omega⟩
def ow (f : Nat) : Nat := match f with
  | 0 => 1
  | 1 => 1
  | 2 => 1
  | 3 => 1
  | 4 => 1
  | 5 => 1
  | 6 => 1
  | 10 => 2
  | 11 => 3
  | 12 => 4
  | 13 => 5
  | 20 => 16
  | 21 => 16
  | 22 => 16
  | 23 => 16
  | 24 => 16
  | 25 => 16
  | 26 => 16
  | 27 => 16
  | 31 => 11
  | 32 => 11
  | 33 => 11
  | 34 => 11
  | 35 => 11
  | 36 => 11
  | 37 => 11
  | 38 => 11
  | 39 => 11
  | 40 => 11
  | 41 => 13
  | 42 => 14
  | 43 => 15
  | 50 => 17
  | 51 => 17
  | 52 => 17
  | 53 => 17
  | 54 => 17
  | 55 => 18
  | 56 => 19
  | 60 => 8
  | 61 => 10
  | 70 => 22
  | 71 => 22
  | 80 => 24
  | 81 => 25
  | 82 => 26
  | 83 => 27
  | 84 => 29
  | 85 => 30
  | 86 => 31
  | 87 => 32
  | 88 => 33
  | 89 => 24
  | 90 => 24
  | 91 => 21
  | _ => 99
def ar (f : Nat) : Bool := match f with
  | 11 => true
  | 12 => true
  | 13 => true
  | 41 => true
  | 42 => true
  | 43 => true
  | 55 => true
  | 56 => true
  | 61 => true
  | 81 => true
  | 82 => true
  | 83 => true
  | 84 => true
  | 85 => true
  | 86 => true
  | 87 => true
  | 88 => true
  | 91 => true
  | _ => false
theorem ce_ne {G : Gt} {M M' : Me} {k i s r : Nat} (h1 : ∀ f r', ow f = k → (ar f = true ∨ r' = r) → M'.1 f i s r' = M.1 f i s r') (h2 : ∀ f r', ow f = k → (ar f = true ∨ r' = r) → M'.2 f i s r' = M.2 f i s r') : ce G M' k i s r = ce G M k i s r := by
  unfold ce
  split
  · rfl
  · rw [h1 0 r rfl (Or.inr rfl), h1 1 r rfl (Or.inr rfl), h1 2 r rfl (Or.inr rfl), h1 3 r rfl (Or.inr rfl), h1 4 r rfl (Or.inr rfl), h1 5 r rfl (Or.inr rfl), h1 6 r rfl (Or.inr rfl)]
  · rw [h1 10 r rfl (Or.inr rfl)]
  · simp only [(fun k => h1 11 k rfl (Or.inl rfl) : ∀ k, M'.1 11 i s k = M.1 11 i s k)]
  · simp only [(fun k => h1 12 k rfl (Or.inl rfl) : ∀ k, M'.1 12 i s k = M.1 12 i s k)]
  · simp only [(fun k => h1 13 k rfl (Or.inl rfl) : ∀ k, M'.1 13 i s k = M.1 13 i s k)]
  · rfl
  · rfl
  · rw [h1 60 r rfl (Or.inr rfl)]
  · rfl
  · simp only [(fun k => h1 61 k rfl (Or.inl rfl) : ∀ k, M'.1 61 i s k = M.1 61 i s k)]
  · rw [h1 31 r rfl (Or.inr rfl), h1 32 r rfl (Or.inr rfl), h1 33 r rfl (Or.inr rfl), h1 34 r rfl (Or.inr rfl), h1 35 r rfl (Or.inr rfl), h1 36 r rfl (Or.inr rfl), h1 37 r rfl (Or.inr rfl), h1 38 r rfl (Or.inr rfl), h2 39 r rfl (Or.inr rfl), h1 40 r rfl (Or.inr rfl)]
  · rfl
  · simp only [(fun k => h1 41 k rfl (Or.inl rfl) : ∀ k, M'.1 41 i s k = M.1 41 i s k)]
  · simp only [(fun k => h1 42 k rfl (Or.inl rfl) : ∀ k, M'.1 42 i s k = M.1 42 i s k)]
  · simp only [(fun k => h1 43 k rfl (Or.inl rfl) : ∀ k, M'.1 43 i s k = M.1 43 i s k)]
  · rw [h1 20 r rfl (Or.inr rfl), h1 21 r rfl (Or.inr rfl), h1 22 r rfl (Or.inr rfl), h1 23 r rfl (Or.inr rfl), h1 24 r rfl (Or.inr rfl), h1 25 r rfl (Or.inr rfl), h1 26 r rfl (Or.inr rfl), h1 27 r rfl (Or.inr rfl)]
  · rw [h1 50 r rfl (Or.inr rfl), h1 51 r rfl (Or.inr rfl), h1 52 r rfl (Or.inr rfl), h1 53 r rfl (Or.inr rfl), h1 54 r rfl (Or.inr rfl)]
  · simp only [(fun k => h1 55 k rfl (Or.inl rfl) : ∀ k, M'.1 55 i s k = M.1 55 i s k)]
  · simp only [(fun k => h1 56 k rfl (Or.inl rfl) : ∀ k, M'.1 56 i s k = M.1 56 i s k)]
  · rfl
  · simp only [(fun k => h1 91 k rfl (Or.inl rfl) : ∀ k, M'.1 91 i s k = M.1 91 i s k)]
  · rw [h1 70 r rfl (Or.inr rfl), h1 71 r rfl (Or.inr rfl)]
  · rfl
  · rw [h1 80 r rfl (Or.inr rfl), h2 89 r rfl (Or.inr rfl), h2 90 r rfl (Or.inr rfl)]
  · simp only [(fun k => h1 81 k rfl (Or.inl rfl) : ∀ k, M'.1 81 i s k = M.1 81 i s k)]
  · simp only [(fun k => h1 82 k rfl (Or.inl rfl) : ∀ k, M'.1 82 i s k = M.1 82 i s k)]
  · simp only [(fun k => h1 83 k rfl (Or.inl rfl) : ∀ k, M'.1 83 i s k = M.1 83 i s k)]
  · rfl
  · simp only [(fun k => h1 84 k rfl (Or.inl rfl) : ∀ k, M'.1 84 i s k = M.1 84 i s k)]
  · simp only [(fun k => h2 85 k rfl (Or.inl rfl) : ∀ k, M'.2 85 i s k = M.2 85 i s k)]
  · simp only [(fun k => h2 86 k rfl (Or.inl rfl) : ∀ k, M'.2 86 i s k = M.2 86 i s k)]
  · simp only [(fun k => h1 87 k rfl (Or.inl rfl) : ∀ k, M'.1 87 i s k = M.1 87 i s k)]
  · simp only [(fun k => h1 88 k rfl (Or.inl rfl) : ∀ k, M'.1 88 i s k = M.1 88 i s k)]
  · rfl
theorem okk_r : ∀ k i s r r', k ≠ 16 → okk k i s r = okk k i s r' := by
  intro k i s r r' h
  unfold okk
  split <;> first | rfl | exact absurd rfl h
/-- one cell of the class's region is changed -/
theorem wC_set {G : Gt} {M M' : Me} {q k i s r f : Nat} (h : q < 769 ∧ ky q = (k, i, s, r)) (ho : ow f = k) (h16 : ar f = true → k ≠ 16) (hi : ∀ f' i' s' r', ¬ (f' = f ∧ i' = i ∧ s' = s ∧ (ar f = true ∨ r' = r)) → M'.1 f' i' s' r' = M.1 f' i' s' r') (hl : ∀ f' i' s' r', ¬ (f' = f ∧ i' = i ∧ s' = s ∧ (ar f = true ∨ r' = r)) → M'.2 f' i' s' r' = M.2 f' i' s' r') : (wC G M).set q (G.1 + q, ce G M' k i s r) = wC G M' := by
  have hl1 : (wC G M).length = 769 := by simp [wC]
  apply List.ext_getElem?
  intro j
  by_cases hj : j = q
  · subst hj
    rw [List.getElem?_set_self (by rw [hl1]; exact h.1), wC_get h]
  · rw [List.getElem?_set_ne (Ne.symm hj)]
    by_cases hj2 : j < 769
    · have e1 : (wC G M)[j]? = some (G.1 + j, ceq G M j) := by simp [wC, List.getElem?_range hj2]
      have e2 : (wC G M')[j]? = some (G.1 + j, ceq G M' j) := by simp [wC, List.getElem?_range hj2]
      rw [e1, e2]
      have hk : ¬ (k = (ky j).1 ∧ (ky j).2.1 = i ∧ (ky j).2.2.1 = s ∧ (ar f = true ∨ (ky j).2.2.2 = r)) := by
        rintro ⟨a1, a2, a3, a4⟩
        have hjo := okk_ky j hj2
        have hqo := okk_ky q h.1
        rw [h.2] at hqo
        rw [← a1, a2, a3] at hjo
        simp only at hqo
        rcases a4 with a4 | a4
        · rw [okk_r k i s (ky j).2.2.2 r (h16 a4)] at hjo
          exact hj (hjo.symm.trans hqo)
        · rw [a4] at hjo
          exact hj (hjo.symm.trans hqo)
      have e3 : ceq G M' j = ceq G M j := by
        unfold ceq
        refine ce_ne (fun f' r' a1 a2 => hi f' _ _ r' ?_) (fun f' r' a1 a2 => hl f' _ _ r' ?_)
        · rintro ⟨rfl, b2, b3, b4⟩
          refine hk ⟨ho.symm.trans a1, b2, b3, ?_⟩
          rcases b4 with b4 | b4
          · exact Or.inl b4
          · rcases a2 with a2 | a2
            · exact Or.inl a2
            · exact Or.inr (a2.symm.trans b4)
        · rintro ⟨rfl, b2, b3, b4⟩
          refine hk ⟨ho.symm.trans a1, b2, b3, ?_⟩
          rcases b4 with b4 | b4
          · exact Or.inl b4
          · rcases a2 with a2 | a2
            · exact Or.inl a2
            · exact Or.inr (a2.symm.trans b4)
      rw [e3]
    · rw [List.getElem?_eq_none (by rw [hl1]; omega), List.getElem?_eq_none (by simp [wC]; omega)]
theorem wI_1 {M : Me} {f i s r : Nat} {v : Int32} : ∀ f' i' s' r', ¬ (f' = f ∧ i' = i ∧ s' = s ∧ (ar f = true ∨ r' = r)) → (wI M f i s r v).1 f' i' s' r' = M.1 f' i' s' r' := by
  intro f' i' s' r' h
  exact if_neg (fun q => h ⟨q.1, q.2.1, q.2.2.1, Or.inr q.2.2.2⟩)
theorem wL_2 {M : Me} {f i s r : Nat} {v : Int64} : ∀ f' i' s' r', ¬ (f' = f ∧ i' = i ∧ s' = s ∧ (ar f = true ∨ r' = r)) → (wL M f i s r v).2 f' i' s' r' = M.2 f' i' s' r' := by
  intro f' i' s' r' h
  exact if_neg (fun q => h ⟨q.1, q.2.1, q.2.2.1, Or.inr q.2.2.2⟩)
theorem cI_1 {M : Me} {f i s r : Nat} {g : Nat → Int32} {sp dp n : Nat} (ha : ar f = true) : ∀ f' i' s' r', ¬ (f' = f ∧ i' = i ∧ s' = s ∧ (ar f = true ∨ r' = r)) → (cI M f i s g sp dp n).1 f' i' s' r' = M.1 f' i' s' r' := by
  intro f' i' s' r' h
  exact if_neg (fun q => h ⟨q.1, q.2.1, q.2.2, Or.inl ha⟩)
def WC (G : Gt) (M : Me) (H : Heap) : Prop := va_P G.2.1 cls (wC G M) H
def Gd (X : Cx Me) (G : Gt) : Prop :=
  match X with
  | (_, _, _, _, s, _, _, _, _, _, _, _, Wd, A, _, _, _) => Wd = WC G ∧ A = rC G ∧ va_K G.2.1 cls (tyl G) s
