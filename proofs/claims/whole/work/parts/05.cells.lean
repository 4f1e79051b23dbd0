def ar (cI : ClassId) (a N : Nat) (f : Nat → Int32) : va_W := [(a, .inl (cI, N, .inl f))]
def cR (cI : ClassId) (a : Nat → Nat) (N : Nat) (v : Rg) : va_W := [(a 0, .inr (4, [.ref (a 1), .ref (a 2), .ref (a 3), .int v.2.2.2])), (a 1, .inl (cI, N, .inl v.1)), (a 2, .inl (cI, N, .inl v.2.1)), (a 3, .inl (cI, N, .inl v.2.2.1))]
def oX0 (a a_series a_pieces a_trial a_moves : Nat → Nat) (i_day : Int32) : va_W := [(a 0, .inr (0, [.ref (a_series 0), .ref (a 2), .ref (a_pieces 0), .ref (a_trial 0), .ref (a_moves 0), .ref (a 6), .int i_day]))]
def oX1 (a : Nat → Nat) (i_top i_steps : Int32) : va_W := [(a 0, .inr (1, [.ref (a 1), .int i_top, .int i_steps]))]
def oX2 (a : Nat → Nat) (i_length i_latest : Int32) : va_W := [(a 0, .inr (2, [.ref (a 1), .int i_length, .int i_latest]))]
def oX3 (a a_gaps a_layings : Nat → Nat) (i_remaining : Int32) : va_W := [(a 0, .inr (3, [.ref (a_gaps 0), .ref (a_layings 0), .ref (a 3), .int i_remaining]))]
def oX5 (a a_pieces : Nat → Nat) (i_seriesCount i_moveCount i_day : Int32) : va_W := [(a 0, .inr (5, [.ref (a 1), .ref (a_pieces 0), .int i_seriesCount, .int i_moveCount, .int i_day]))]
def oX6 (a : Nat → Nat) (i_length i_commandCount i_at : Int32) : va_W := [(a 0, .inr (6, [.ref (a 1), .ref (a 2), .ref (a 3), .int i_length, .int i_commandCount, .int i_at]))]
def oX7 (a a_archive a_history a_planner a_rows a_text a_page a_draft : Nat → Nat) : va_W := [(a 0, .inr (7, [.ref (a_archive 0), .ref (a_history 0), .ref (a_planner 0), .ref (a_rows 0), .ref (a_text 0), .ref (a_page 0), .ref (a_draft 0)]))]
def oX8 (a : Nat → Nat) (i_undos i_listed i_papers i_length i_besides i_gapFirst i_gapLast i_layings i_first i_behind i_clauses i_drafts : Int32) : va_W := [(a 0, .inr (8, [.ref (a 1), .int i_undos, .ref (a 3), .int i_listed, .ref (a 5), .int i_papers, .ref (a 7), .int i_length, .ref (a 9), .int i_besides, .int i_gapFirst, .int i_gapLast, .ref (a 13), .int i_layings, .ref (a 15), .int i_first, .int i_behind, .ref (a 18), .int i_clauses, .ref (a 20), .ref (a 21), .ref (a 22), .ref (a 23), .ref (a 24), .int i_drafts]))]
abbrev Sn : Type := (Nat → Int32) × Rg × Int32 × Int32 × Int32
def cSn (cI : ClassId) (as : Nat → Nat → Nat) (V : Nat → Sn) (L : List Nat) : va_W := L.flatMap (fun j => [oX5 (as j) (as (100 + j)) (V j).2.2.1 (V j).2.2.2.1 (V j).2.2.2.2, ar cI (as j 1) 8 (V j).1, cR cI (as (100 + j)) 40 (V j).2.1].flatten)
def cSl (cI : ClassId) (cS : GS) (a : Nat) (as : Nat → Nat → Nat) (V : Nat → Sn) : va_W := (a, .inl (cS.1, 9, .inr (.inr (.inr (.inr (fun j => if j < 9 then some (as j 0) else none)))))) :: cSn cI as V (List.range 9)
