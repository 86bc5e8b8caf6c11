theorem in_By : ∀ w ∈ u_ws R_By T_By 2, w ∈ ALLG := in_of (fun k hk => by
  match k, hk with
  | 0, _ => exact mw_135
  | 1, _ => exact mw_137
  | k + 2, h => exact absurd h (by omega))
theorem in_Co : ∀ w ∈ u_ws R_Co T_Co 2, w ∈ ALLG := in_of (fun k hk => by
  match k, hk with
  | 0, _ => exact mw_122
  | 1, _ => exact mw_124
  | k + 2, h => exact absurd h (by omega))
theorem in_Jo : ∀ w ∈ u_ws R_Jo T_Jo 2, w ∈ ALLG := in_of (fun k hk => by
  match k, hk with
  | 0, _ => exact mw_109
  | 1, _ => exact mw_111
  | k + 2, h => exact absurd h (by omega))
theorem in_Pu : ∀ w ∈ u_ws R_Pu T_Pu 0, w ∈ ALLG := in_of (fun k hk => absurd hk (Nat.not_lt_zero k))
theorem in_Ro : ∀ w ∈ u_ws R_Ro T_Ro 3, w ∈ ALLG := in_of (fun k hk => by
  match k, hk with
  | 0, _ => exact mw_38
  | 1, _ => exact mw_40
  | 2, _ => exact mw_42
  | k + 3, h => exact absurd h (by omega))
theorem in_Ru : ∀ w ∈ u_ws R_Ru T_Ru 5, w ∈ ALLG := in_of (fun k hk => by
  match k, hk with
  | 0, _ => exact mw_57
  | 1, _ => exact mw_59
  | 2, _ => exact mw_61
  | 3, _ => exact mw_63
  | 4, _ => exact mw_65
  | k + 5, h => exact absurd h (by omega))
theorem in_Tr : ∀ w ∈ u_ws R_Tr T_Tr 2, w ∈ ALLG := in_of (fun k hk => by
  match k, hk with
  | 0, _ => exact mw_77
  | 1, _ => exact mw_79
  | k + 2, h => exact absurd h (by omega))
theorem in_Tu : ∀ w ∈ u_ws R_Tu T_Tu 0, w ∈ ALLG := in_of (fun k hk => absurd hk (Nat.not_lt_zero k))
theorem in_De : ∀ w ∈ u_ws R_De T_De 10, w ∈ ALLG := in_of (fun k hk => by
  match k, hk with
  | 0, _ => exact mw_150
  | 1, _ => exact mw_152
  | 2, _ => exact mw_154
  | 3, _ => exact mw_156
  | 4, _ => exact mw_158
  | 5, _ => exact mw_160
  | 6, _ => exact mw_162
  | 7, _ => exact mw_164
  | 8, _ => exact mw_166
  | 9, _ => exact mw_168
  | k + 10, h => exact absurd h (by omega))
theorem in_Mo : ∀ w ∈ u_ws R_Mo T_Mo 21, w ∈ ALLG := in_of (fun k hk => by
  match k, hk with
  | 0, _ => exact mw_700
  | 1, _ => exact mw_702
  | 2, _ => exact mw_704
  | 3, _ => exact mw_706
  | 4, _ => exact mw_708
  | 5, _ => exact mw_710
  | 6, _ => exact mw_712
  | 7, _ => exact mw_714
  | 8, _ => exact mw_716
  | 9, _ => exact mw_718
  | 10, _ => exact mw_720
  | 11, _ => exact mw_722
  | 12, _ => exact mw_724
  | 13, _ => exact mw_726
  | 14, _ => exact mw_728
  | 15, _ => exact mw_730
  | 16, _ => exact mw_732
  | 17, _ => exact mw_734
  | 18, _ => exact mw_736
  | 19, _ => exact mw_738
  | 20, _ => exact mw_740
  | k + 21, h => exact absurd h (by omega))
theorem ms_De_arrangeBy : Cond.selects "SortDesk" ⟨"SortDesk", "arrangeBy", "(I)I"⟩ ⟨"SortDesk", "arrangeBy", "(I)I"⟩ ∈ ALLG := mem_s 1 (by decide +kernel) (by decide +kernel)
theorem ms_By_findNexts : Cond.selects "SortDesk$ByBytes" ⟨"SortDesk$ByBytes", "findNexts", "(LSortDesk$Row;I)I"⟩ ⟨"SortDesk$ByBytes", "findNexts", "(LSortDesk$Row;I)I"⟩ ∈ ALLG := mem_s 2 (by decide +kernel) (by decide +kernel)
theorem ms_By_dealOut : Cond.selects "SortDesk$ByBytes" ⟨"SortDesk$ByBytes", "dealOut", "(LSortDesk$Row;I[I)V"⟩ ⟨"SortDesk$ByBytes", "dealOut", "(LSortDesk$Row;I[I)V"⟩ ∈ ALLG := mem_s 3 (by decide +kernel) (by decide +kernel)
theorem ms_Co_countKeys : Cond.selects "SortDesk$Counting" ⟨"SortDesk$Counting", "countKeys", "(LSortDesk$Row;II)V"⟩ ⟨"SortDesk$Counting", "countKeys", "(LSortDesk$Row;II)V"⟩ ∈ ALLG := mem_s 4 (by decide +kernel) (by decide +kernel)
theorem ms_Co_dealOut : Cond.selects "SortDesk$Counting" ⟨"SortDesk$Counting", "dealOut", "(LSortDesk$Row;I[I)V"⟩ ⟨"SortDesk$Counting", "dealOut", "(LSortDesk$Row;I[I)V"⟩ ∈ ALLG := mem_s 5 (by decide +kernel) (by decide +kernel)
theorem ms_Jo_findRuns : Cond.selects "SortDesk$Joining" ⟨"SortDesk$Joining", "findRuns", "(LSortDesk$Row;)I"⟩ ⟨"SortDesk$Joining", "findRuns", "(LSortDesk$Row;)I"⟩ ∈ ALLG := mem_s 6 (by decide +kernel) (by decide +kernel)
theorem ms_Jo_joinPairs : Cond.selects "SortDesk$Joining" ⟨"SortDesk$Joining", "joinPairs", "(LSortDesk$Row;[ILSortDesk$Trail;I)I"⟩ ⟨"SortDesk$Joining", "joinPairs", "(LSortDesk$Row;[ILSortDesk$Trail;I)I"⟩ ∈ ALLG := mem_s 7 (by decide +kernel) (by decide +kernel)
theorem ms_Jo_join : Cond.selects "SortDesk$Joining" ⟨"SortDesk$Joining", "join", "(LSortDesk$Row;[IIII)I"⟩ ⟨"SortDesk$Joining", "join", "(LSortDesk$Row;[IIII)I"⟩ ∈ ALLG := mem_s 8 (by decide +kernel) (by decide +kernel)
theorem ms_Jo_keepEverySecondStart : Cond.selects "SortDesk$Joining" ⟨"SortDesk$Joining", "keepEverySecondStart", "(I)V"⟩ ⟨"SortDesk$Joining", "keepEverySecondStart", "(I)V"⟩ ∈ ALLG := mem_s 9 (by decide +kernel) (by decide +kernel)
theorem ms_Mo_open : Cond.selects "SortDeskModel" ⟨"SortDeskModel", "open", "(III)V"⟩ ⟨"SortDeskModel", "open", "(III)V"⟩ ∈ ALLG := mem_s 10 (by decide +kernel) (by decide +kernel)
theorem ms_Mo_figureOf : Cond.selects "SortDeskModel" ⟨"SortDeskModel", "figureOf", "(I)J"⟩ ⟨"SortDeskModel", "figureOf", "(I)J"⟩ ∈ ALLG := mem_s 11 (by decide +kernel) (by decide +kernel)
theorem ms_Mo_descents : Cond.selects "SortDeskModel" ⟨"SortDeskModel", "descents", "()I"⟩ ⟨"SortDeskModel", "descents", "()I"⟩ ∈ ALLG := mem_s 12 (by decide +kernel) (by decide +kernel)
theorem ms_Mo_falls : Cond.selects "SortDeskModel" ⟨"SortDeskModel", "falls", "()I"⟩ ⟨"SortDeskModel", "falls", "()I"⟩ ∈ ALLG := mem_s 13 (by decide +kernel) (by decide +kernel)
theorem ms_Mo_extreme : Cond.selects "SortDeskModel" ⟨"SortDeskModel", "extreme", "(Z)J"⟩ ⟨"SortDeskModel", "extreme", "(Z)J"⟩ ∈ ALLG := mem_s 14 (by decide +kernel) (by decide +kernel)
theorem ms_Mo_inversions : Cond.selects "SortDeskModel" ⟨"SortDeskModel", "inversions", "()I"⟩ ⟨"SortDeskModel", "inversions", "()I"⟩ ∈ ALLG := mem_s 15 (by decide +kernel) (by decide +kernel)
theorem ms_Mo_different : Cond.selects "SortDeskModel" ⟨"SortDeskModel", "different", "()I"⟩ ⟨"SortDeskModel", "different", "()I"⟩ ∈ ALLG := mem_s 16 (by decide +kernel) (by decide +kernel)
theorem ms_Mo_planned : Cond.selects "SortDeskModel" ⟨"SortDeskModel", "planned", "()I"⟩ ⟨"SortDeskModel", "planned", "()I"⟩ ∈ ALLG := mem_s 17 (by decide +kernel) (by decide +kernel)
theorem ms_Mo_fits : Cond.selects "SortDeskModel" ⟨"SortDeskModel", "fits", "(I)Z"⟩ ⟨"SortDeskModel", "fits", "(I)Z"⟩ ∈ ALLG := mem_s 18 (by decide +kernel) (by decide +kernel)
theorem ms_Mo_tellTurning : Cond.selects "SortDeskModel" ⟨"SortDeskModel", "tellTurning", "()I"⟩ ⟨"SortDeskModel", "tellTurning", "()I"⟩ ∈ ALLG := mem_s 19 (by decide +kernel) (by decide +kernel)
theorem ms_Mo_tell : Cond.selects "SortDeskModel" ⟨"SortDeskModel", "tell", "(III)V"⟩ ⟨"SortDeskModel", "tell", "(III)V"⟩ ∈ ALLG := mem_s 20 (by decide +kernel) (by decide +kernel)
theorem ms_Mo_tellPutting : Cond.selects "SortDeskModel" ⟨"SortDeskModel", "tellPutting", "()I"⟩ ⟨"SortDeskModel", "tellPutting", "()I"⟩ ∈ ALLG := mem_s 21 (by decide +kernel) (by decide +kernel)
theorem ms_Mo_tellJoining : Cond.selects "SortDeskModel" ⟨"SortDeskModel", "tellJoining", "()I"⟩ ⟨"SortDeskModel", "tellJoining", "()I"⟩ ∈ ALLG := mem_s 22 (by decide +kernel) (by decide +kernel)
theorem ms_Mo_joinTwo : Cond.selects "SortDeskModel" ⟨"SortDeskModel", "joinTwo", "(III)I"⟩ ⟨"SortDeskModel", "joinTwo", "(III)I"⟩ ∈ ALLG := mem_s 23 (by decide +kernel) (by decide +kernel)
theorem ms_Mo_tellCounting : Cond.selects "SortDeskModel" ⟨"SortDeskModel", "tellCounting", "()V"⟩ ⟨"SortDeskModel", "tellCounting", "()V"⟩ ∈ ALLG := mem_s 24 (by decide +kernel) (by decide +kernel)
theorem ms_Mo_findOrder : Cond.selects "SortDeskModel" ⟨"SortDeskModel", "findOrder", "()V"⟩ ⟨"SortDeskModel", "findOrder", "()V"⟩ ∈ ALLG := mem_s 25 (by decide +kernel) (by decide +kernel)
theorem ms_Mo_tellBytes : Cond.selects "SortDeskModel" ⟨"SortDeskModel", "tellBytes", "()V"⟩ ⟨"SortDeskModel", "tellBytes", "()V"⟩ ∈ ALLG := mem_s 26 (by decide +kernel) (by decide +kernel)
