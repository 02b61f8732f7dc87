theorem cfL_13 : CfB RL 13 yX9_rung cX9_rung 6 (some .int) 4 := ⟨wr6 _ (List.mem_of_getElem? (i := 11) rfl), wr1 _ (List.mem_of_getElem? (i := 2) rfl), wr6 _ (List.mem_of_getElem? (i := 14) rfl), by decide +kernel⟩
theorem viL_13 : Cond.instanceMethod yX9_rung ∈ wsL_law ∧ Cond.selects RX9 yX9_rung yX9_rung ∈ wsL_law ∧ vwCl[8]? = some (RX9, TX9, 9) := ⟨wr6 _ (List.mem_of_getElem? (i := 12) rfl), wr6 _ (List.mem_of_getElem? (i := 13) rfl), rfl⟩
theorem cfL_17 : CfB RL 17 yX10_rung cX10_rung 7 (some .int) 4 := ⟨wr7 _ (List.mem_of_getElem? (i := 19) rfl), wr1 _ (List.mem_of_getElem? (i := 5) rfl), wr7 _ (List.mem_of_getElem? (i := 22) rfl), by decide +kernel⟩
theorem viL_17 : Cond.instanceMethod yX10_rung ∈ wsL_law ∧ Cond.selects RX10 yX10_rung yX10_rung ∈ wsL_law ∧ vwCl[9]? = some (RX10, TX10, 20) := ⟨wr7 _ (List.mem_of_getElem? (i := 20) rfl), wr7 _ (List.mem_of_getElem? (i := 21) rfl), rfl⟩
theorem cfL_18 : CfB RL 18 yX9_man cX9_man 6 (some .int) 4 := ⟨wr8 _ (List.mem_of_getElem? (i := 5) rfl), wr1 _ (List.mem_of_getElem? (i := 2) rfl), wr8 _ (List.mem_of_getElem? (i := 8) rfl), by decide +kernel⟩
theorem viL_18 : Cond.instanceMethod yX9_man ∈ wsL_law ∧ Cond.selects RX9 yX9_man yX9_man ∈ wsL_law ∧ vwCl[8]? = some (RX9, TX9, 9) := ⟨wr8 _ (List.mem_of_getElem? (i := 6) rfl), wr8 _ (List.mem_of_getElem? (i := 7) rfl), rfl⟩
theorem cfL_21 : CfB RL 21 yX10_man cX10_man 6 (some .int) 4 := ⟨wr9 _ (List.mem_of_getElem? (i := 0) rfl), wr1 _ (List.mem_of_getElem? (i := 5) rfl), wr9 _ (List.mem_of_getElem? (i := 3) rfl), by decide +kernel⟩
theorem viL_21 : Cond.instanceMethod yX10_man ∈ wsL_law ∧ Cond.selects RX10 yX10_man yX10_man ∈ wsL_law ∧ vwCl[9]? = some (RX10, TX10, 20) := ⟨wr9 _ (List.mem_of_getElem? (i := 1) rfl), wr9 _ (List.mem_of_getElem? (i := 2) rfl), rfl⟩
theorem cfL_22 : CfB RL 22 yX9_say cX9_say 2 (some .int) 1 := ⟨wr9 _ (List.mem_of_getElem? (i := 7) rfl), wr1 _ (List.mem_of_getElem? (i := 2) rfl), wr9 _ (List.mem_of_getElem? (i := 10) rfl), by decide +kernel⟩
theorem viL_22 : Cond.instanceMethod yX9_say ∈ wsL_law ∧ Cond.selects RX9 yX9_say yX9_say ∈ wsL_law ∧ vwCl[8]? = some (RX9, TX9, 9) := ⟨wr9 _ (List.mem_of_getElem? (i := 8) rfl), wr9 _ (List.mem_of_getElem? (i := 9) rfl), rfl⟩
theorem cfL_26 : CfB RL 26 yX10_say cX10_say 2 (some .int) 1 := ⟨wr9 _ (List.mem_of_getElem? (i := 19) rfl), wr1 _ (List.mem_of_getElem? (i := 5) rfl), wr9 _ (List.mem_of_getElem? (i := 22) rfl), by decide +kernel⟩
theorem viL_26 : Cond.instanceMethod yX10_say ∈ wsL_law ∧ Cond.selects RX10 yX10_say yX10_say ∈ wsL_law ∧ vwCl[9]? = some (RX10, TX10, 20) := ⟨wr9 _ (List.mem_of_getElem? (i := 20) rfl), wr9 _ (List.mem_of_getElem? (i := 21) rfl), rfl⟩
theorem cfL_27 : CfB RL 27 yX9_wipe cX9_wipe 2 (some .int) 0 := ⟨wr10 _ (List.mem_of_getElem? (i := 0) rfl), wr1 _ (List.mem_of_getElem? (i := 2) rfl), wr10 _ (List.mem_of_getElem? (i := 3) rfl), by decide +kernel⟩
theorem viL_27 : Cond.instanceMethod yX9_wipe ∈ wsL_law ∧ Cond.selects RX9 yX9_wipe yX9_wipe ∈ wsL_law ∧ vwCl[8]? = some (RX9, TX9, 9) := ⟨wr10 _ (List.mem_of_getElem? (i := 1) rfl), wr10 _ (List.mem_of_getElem? (i := 2) rfl), rfl⟩
theorem cfL_31 : CfB RL 31 yX10_wipe cX10_wipe 2 (some .int) 0 := ⟨wr10 _ (List.mem_of_getElem? (i := 8) rfl), wr1 _ (List.mem_of_getElem? (i := 5) rfl), wr10 _ (List.mem_of_getElem? (i := 11) rfl), by decide +kernel⟩
theorem viL_31 : Cond.instanceMethod yX10_wipe ∈ wsL_law ∧ Cond.selects RX10 yX10_wipe yX10_wipe ∈ wsL_law ∧ vwCl[9]? = some (RX10, TX10, 20) := ⟨wr10 _ (List.mem_of_getElem? (i := 9) rfl), wr10 _ (List.mem_of_getElem? (i := 10) rfl), rfl⟩
theorem cfL_32 : CfB RL 32 yX9_fault cX9_fault 1 (some .int) 0 := ⟨wr10 _ (List.mem_of_getElem? (i := 12) rfl), wr1 _ (List.mem_of_getElem? (i := 2) rfl), wr10 _ (List.mem_of_getElem? (i := 15) rfl), by decide +kernel⟩
theorem viL_32 : Cond.instanceMethod yX9_fault ∈ wsL_law ∧ Cond.selects RX9 yX9_fault yX9_fault ∈ wsL_law ∧ vwCl[8]? = some (RX9, TX9, 9) := ⟨wr10 _ (List.mem_of_getElem? (i := 13) rfl), wr10 _ (List.mem_of_getElem? (i := 14) rfl), rfl⟩
theorem cfL_35 : CfB RL 35 yX10_fault cX10_fault 1 (some .int) 0 := ⟨wr11 _ (List.mem_of_getElem? (i := 20) rfl), wr1 _ (List.mem_of_getElem? (i := 5) rfl), wr11 _ (List.mem_of_getElem? (i := 23) rfl), by decide +kernel⟩
theorem viL_35 : Cond.instanceMethod yX10_fault ∈ wsL_law ∧ Cond.selects RX10 yX10_fault yX10_fault ∈ wsL_law ∧ vwCl[9]? = some (RX10, TX10, 20) := ⟨wr11 _ (List.mem_of_getElem? (i := 21) rfl), wr11 _ (List.mem_of_getElem? (i := 22) rfl), rfl⟩
theorem cfL_36 : CfB RL 36 yX9_judge cX9_judge 2 (some .int) 1 := ⟨wr12 _ (List.mem_of_getElem? (i := 7) rfl), wr1 _ (List.mem_of_getElem? (i := 2) rfl), wr12 _ (List.mem_of_getElem? (i := 10) rfl), by decide +kernel⟩
theorem viL_36 : Cond.instanceMethod yX9_judge ∈ wsL_law ∧ Cond.selects RX9 yX9_judge yX9_judge ∈ wsL_law ∧ vwCl[8]? = some (RX9, TX9, 9) := ⟨wr12 _ (List.mem_of_getElem? (i := 8) rfl), wr12 _ (List.mem_of_getElem? (i := 9) rfl), rfl⟩
theorem cfL_39 : CfB RL 39 yX10_judge cX10_judge 3 (some .int) 1 := ⟨wr17 _ (List.mem_of_getElem? (i := 8) rfl), wr1 _ (List.mem_of_getElem? (i := 5) rfl), wr17 _ (List.mem_of_getElem? (i := 11) rfl), by decide +kernel⟩
theorem viL_39 : Cond.instanceMethod yX10_judge ∈ wsL_law ∧ Cond.selects RX10 yX10_judge yX10_judge ∈ wsL_law ∧ vwCl[9]? = some (RX10, TX10, 20) := ⟨wr17 _ (List.mem_of_getElem? (i := 9) rfl), wr17 _ (List.mem_of_getElem? (i := 10) rfl), rfl⟩
theorem cfL_40 : CfB RL 40 yX9_done cX9_done 1 (some .int) 0 := ⟨wr19 _ (List.mem_of_getElem? (i := 17) rfl), wr1 _ (List.mem_of_getElem? (i := 2) rfl), wr19 _ (List.mem_of_getElem? (i := 20) rfl), by decide +kernel⟩
theorem viL_40 : Cond.instanceMethod yX9_done ∈ wsL_law ∧ Cond.selects RX9 yX9_done yX9_done ∈ wsL_law ∧ vwCl[8]? = some (RX9, TX9, 9) := ⟨wr19 _ (List.mem_of_getElem? (i := 18) rfl), wr19 _ (List.mem_of_getElem? (i := 19) rfl), rfl⟩
theorem cfL_43 : CfB RL 43 yX10_done cX10_done 2 (some .int) 0 := ⟨wr20 _ (List.mem_of_getElem? (i := 2) rfl), wr1 _ (List.mem_of_getElem? (i := 5) rfl), wr20 _ (List.mem_of_getElem? (i := 5) rfl), by decide +kernel⟩
theorem viL_43 : Cond.instanceMethod yX10_done ∈ wsL_law ∧ Cond.selects RX10 yX10_done yX10_done ∈ wsL_law ∧ vwCl[9]? = some (RX10, TX10, 20) := ⟨wr20 _ (List.mem_of_getElem? (i := 3) rfl), wr20 _ (List.mem_of_getElem? (i := 4) rfl), rfl⟩
theorem cfL_44 : CfB RL 44 yX9_behind cX9_behind 4 (some .int) 2 := ⟨wr20 _ (List.mem_of_getElem? (i := 10) rfl), wr1 _ (List.mem_of_getElem? (i := 2) rfl), wr20 _ (List.mem_of_getElem? (i := 13) rfl), by decide +kernel⟩
theorem viL_44 : Cond.instanceMethod yX9_behind ∈ wsL_law ∧ Cond.selects RX9 yX9_behind yX9_behind ∈ wsL_law ∧ vwCl[8]? = some (RX9, TX9, 9) := ⟨wr20 _ (List.mem_of_getElem? (i := 11) rfl), wr20 _ (List.mem_of_getElem? (i := 12) rfl), rfl⟩
theorem cfL_48 : CfB RL 48 yX10_behind cX10_behind 3 (some .int) 2 := ⟨wr20 _ (List.mem_of_getElem? (i := 19) rfl), wr1 _ (List.mem_of_getElem? (i := 5) rfl), wr20 _ (List.mem_of_getElem? (i := 22) rfl), by decide +kernel⟩
theorem viL_48 : Cond.instanceMethod yX10_behind ∈ wsL_law ∧ Cond.selects RX10 yX10_behind yX10_behind ∈ wsL_law ∧ vwCl[9]? = some (RX10, TX10, 20) := ⟨wr20 _ (List.mem_of_getElem? (i := 20) rfl), wr20 _ (List.mem_of_getElem? (i := 21) rfl), rfl⟩
theorem cfL_49 : CfB RL 49 yX9_bears cX9_bears 4 (some .int) 2 := ⟨wr21 _ (List.mem_of_getElem? (i := 3) rfl), wr1 _ (List.mem_of_getElem? (i := 2) rfl), wr21 _ (List.mem_of_getElem? (i := 6) rfl), by decide +kernel⟩
theorem viL_49 : Cond.instanceMethod yX9_bears ∈ wsL_law ∧ Cond.selects RX9 yX9_bears yX9_bears ∈ wsL_law ∧ vwCl[8]? = some (RX9, TX9, 9) := ⟨wr21 _ (List.mem_of_getElem? (i := 4) rfl), wr21 _ (List.mem_of_getElem? (i := 5) rfl), rfl⟩
theorem cfL_52 : CfB RL 52 yX10_bears cX10_bears 3 (some .int) 2 := ⟨wr21 _ (List.mem_of_getElem? (i := 10) rfl), wr1 _ (List.mem_of_getElem? (i := 5) rfl), wr21 _ (List.mem_of_getElem? (i := 13) rfl), by decide +kernel⟩
theorem viL_52 : Cond.instanceMethod yX10_bears ∈ wsL_law ∧ Cond.selects RX10 yX10_bears yX10_bears ∈ wsL_law ∧ vwCl[9]? = some (RX10, TX10, 20) := ⟨wr21 _ (List.mem_of_getElem? (i := 11) rfl), wr21 _ (List.mem_of_getElem? (i := 12) rfl), rfl⟩
theorem cfL_53 : CfB RL 53 yX9_then cX9_then 2 (some .int) 1 := ⟨wr21 _ (List.mem_of_getElem? (i := 14) rfl), wr1 _ (List.mem_of_getElem? (i := 2) rfl), wr21 _ (List.mem_of_getElem? (i := 17) rfl), by decide +kernel⟩
theorem viL_53 : Cond.instanceMethod yX9_then ∈ wsL_law ∧ Cond.selects RX9 yX9_then yX9_then ∈ wsL_law ∧ vwCl[8]? = some (RX9, TX9, 9) := ⟨wr21 _ (List.mem_of_getElem? (i := 15) rfl), wr21 _ (List.mem_of_getElem? (i := 16) rfl), rfl⟩
theorem cfL_56 : CfB RL 56 yX10_then cX10_then 2 (some .int) 1 := ⟨wr22 _ (List.mem_of_getElem? (i := 18) rfl), wr1 _ (List.mem_of_getElem? (i := 5) rfl), wr22 _ (List.mem_of_getElem? (i := 21) rfl), by decide +kernel⟩
theorem viL_56 : Cond.instanceMethod yX10_then ∈ wsL_law ∧ Cond.selects RX10 yX10_then yX10_then ∈ wsL_law ∧ vwCl[9]? = some (RX10, TX10, 20) := ⟨wr22 _ (List.mem_of_getElem? (i := 19) rfl), wr22 _ (List.mem_of_getElem? (i := 20) rfl), rfl⟩
theorem cfL_57 : CfB RL 57 yX9_climb cX9_climb 3 (some .int) 2 := ⟨wr22 _ (List.mem_of_getElem? (i := 22) rfl), wr1 _ (List.mem_of_getElem? (i := 2) rfl), wr23 _ (List.mem_of_getElem? (i := 1) rfl), by decide +kernel⟩
theorem viL_57 : Cond.instanceMethod yX9_climb ∈ wsL_law ∧ Cond.selects RX9 yX9_climb yX9_climb ∈ wsL_law ∧ vwCl[8]? = some (RX9, TX9, 9) := ⟨wr22 _ (List.mem_of_getElem? (i := 23) rfl), wr23 _ (List.mem_of_getElem? (i := 0) rfl), rfl⟩
theorem cfL_60 : CfB RL 60 yX10_climb cX10_climb 5 (some .int) 2 := ⟨wr24 _ (List.mem_of_getElem? (i := 4) rfl), wr1 _ (List.mem_of_getElem? (i := 5) rfl), wr24 _ (List.mem_of_getElem? (i := 7) rfl), by decide +kernel⟩
theorem viL_60 : Cond.instanceMethod yX10_climb ∈ wsL_law ∧ Cond.selects RX10 yX10_climb yX10_climb ∈ wsL_law ∧ vwCl[9]? = some (RX10, TX10, 20) := ⟨wr24 _ (List.mem_of_getElem? (i := 5) rfl), wr24 _ (List.mem_of_getElem? (i := 6) rfl), rfl⟩
theorem cfL_61 : CfB RL 61 yX9_ways cX9_ways 2 (some .int) 1 := ⟨wr24 _ (List.mem_of_getElem? (i := 13) rfl), wr1 _ (List.mem_of_getElem? (i := 2) rfl), wr24 _ (List.mem_of_getElem? (i := 16) rfl), by decide +kernel⟩
theorem viL_61 : Cond.instanceMethod yX9_ways ∈ wsL_law ∧ Cond.selects RX9 yX9_ways yX9_ways ∈ wsL_law ∧ vwCl[8]? = some (RX9, TX9, 9) := ⟨wr24 _ (List.mem_of_getElem? (i := 14) rfl), wr24 _ (List.mem_of_getElem? (i := 15) rfl), rfl⟩
theorem cfL_64 : CfB RL 64 yX10_ways cX10_ways 2 (some .int) 1 := ⟨wr24 _ (List.mem_of_getElem? (i := 21) rfl), wr1 _ (List.mem_of_getElem? (i := 5) rfl), wr25 _ (List.mem_of_getElem? (i := 0) rfl), by decide +kernel⟩
theorem viL_64 : Cond.instanceMethod yX10_ways ∈ wsL_law ∧ Cond.selects RX10 yX10_ways yX10_ways ∈ wsL_law ∧ vwCl[9]? = some (RX10, TX10, 20) := ⟨wr24 _ (List.mem_of_getElem? (i := 22) rfl), wr24 _ (List.mem_of_getElem? (i := 23) rfl), rfl⟩
theorem cfL_65 : CfB RL 65 yX9_leases cX9_leases 3 (some .int) 2 := ⟨wr25 _ (List.mem_of_getElem? (i := 1) rfl), wr1 _ (List.mem_of_getElem? (i := 2) rfl), wr25 _ (List.mem_of_getElem? (i := 4) rfl), by decide +kernel⟩
theorem viL_65 : Cond.instanceMethod yX9_leases ∈ wsL_law ∧ Cond.selects RX9 yX9_leases yX9_leases ∈ wsL_law ∧ vwCl[8]? = some (RX9, TX9, 9) := ⟨wr25 _ (List.mem_of_getElem? (i := 2) rfl), wr25 _ (List.mem_of_getElem? (i := 3) rfl), rfl⟩
theorem cfL_68 : CfB RL 68 yX10_leases cX10_leases 6 (some .int) 2 := ⟨wr25 _ (List.mem_of_getElem? (i := 21) rfl), wr1 _ (List.mem_of_getElem? (i := 5) rfl), wr26 _ (List.mem_of_getElem? (i := 0) rfl), by decide +kernel⟩
theorem viL_68 : Cond.instanceMethod yX10_leases ∈ wsL_law ∧ Cond.selects RX10 yX10_leases yX10_leases ∈ wsL_law ∧ vwCl[9]? = some (RX10, TX10, 20) := ⟨wr25 _ (List.mem_of_getElem? (i := 22) rfl), wr25 _ (List.mem_of_getElem? (i := 23) rfl), rfl⟩
theorem cfL_69 : CfB RL 69 yX9_stand cX9_stand 2 (some .int) 1 := ⟨wr26 _ (List.mem_of_getElem? (i := 4) rfl), wr1 _ (List.mem_of_getElem? (i := 2) rfl), wr26 _ (List.mem_of_getElem? (i := 7) rfl), by decide +kernel⟩
theorem viL_69 : Cond.instanceMethod yX9_stand ∈ wsL_law ∧ Cond.selects RX9 yX9_stand yX9_stand ∈ wsL_law ∧ vwCl[8]? = some (RX9, TX9, 9) := ⟨wr26 _ (List.mem_of_getElem? (i := 5) rfl), wr26 _ (List.mem_of_getElem? (i := 6) rfl), rfl⟩
theorem cfL_72 : CfB RL 72 yX10_stand cX10_stand 7 (some .int) 1 := ⟨wr27 _ (List.mem_of_getElem? (i := 13) rfl), wr1 _ (List.mem_of_getElem? (i := 5) rfl), wr27 _ (List.mem_of_getElem? (i := 16) rfl), by decide +kernel⟩
theorem viL_72 : Cond.instanceMethod yX10_stand ∈ wsL_law ∧ Cond.selects RX10 yX10_stand yX10_stand ∈ wsL_law ∧ vwCl[9]? = some (RX10, TX10, 20) := ⟨wr27 _ (List.mem_of_getElem? (i := 14) rfl), wr27 _ (List.mem_of_getElem? (i := 15) rfl), rfl⟩
theorem cfL_73 : CfB RL 73 yX9_felt cX9_felt 3 (some .int) 2 := ⟨wr27 _ (List.mem_of_getElem? (i := 21) rfl), wr1 _ (List.mem_of_getElem? (i := 2) rfl), wr28 _ (List.mem_of_getElem? (i := 0) rfl), by decide +kernel⟩
theorem viL_73 : Cond.instanceMethod yX9_felt ∈ wsL_law ∧ Cond.selects RX9 yX9_felt yX9_felt ∈ wsL_law ∧ vwCl[8]? = some (RX9, TX9, 9) := ⟨wr27 _ (List.mem_of_getElem? (i := 22) rfl), wr27 _ (List.mem_of_getElem? (i := 23) rfl), rfl⟩
theorem cfL_77 : CfB RL 77 yX10_felt cX10_felt 3 (some .int) 2 := ⟨wr28 _ (List.mem_of_getElem? (i := 9) rfl), wr1 _ (List.mem_of_getElem? (i := 5) rfl), wr28 _ (List.mem_of_getElem? (i := 12) rfl), by decide +kernel⟩
theorem viL_77 : Cond.instanceMethod yX10_felt ∈ wsL_law ∧ Cond.selects RX10 yX10_felt yX10_felt ∈ wsL_law ∧ vwCl[9]? = some (RX10, TX10, 20) := ⟨wr28 _ (List.mem_of_getElem? (i := 10) rfl), wr28 _ (List.mem_of_getElem? (i := 11) rfl), rfl⟩
theorem cfL_78 : CfB RL 78 yX9_forget cX9_forget 2 (some .int) 0 := ⟨wr28 _ (List.mem_of_getElem? (i := 14) rfl), wr1 _ (List.mem_of_getElem? (i := 2) rfl), wr28 _ (List.mem_of_getElem? (i := 17) rfl), by decide +kernel⟩
theorem viL_78 : Cond.instanceMethod yX9_forget ∈ wsL_law ∧ Cond.selects RX9 yX9_forget yX9_forget ∈ wsL_law ∧ vwCl[8]? = some (RX9, TX9, 9) := ⟨wr28 _ (List.mem_of_getElem? (i := 15) rfl), wr28 _ (List.mem_of_getElem? (i := 16) rfl), rfl⟩
theorem cfL_81 : CfB RL 81 yX10_forget cX10_forget 2 (some .int) 0 := ⟨wr28 _ (List.mem_of_getElem? (i := 22) rfl), wr1 _ (List.mem_of_getElem? (i := 5) rfl), wr29 _ (List.mem_of_getElem? (i := 1) rfl), by decide +kernel⟩
theorem viL_81 : Cond.instanceMethod yX10_forget ∈ wsL_law ∧ Cond.selects RX10 yX10_forget yX10_forget ∈ wsL_law ∧ vwCl[9]? = some (RX10, TX10, 20) := ⟨wr28 _ (List.mem_of_getElem? (i := 23) rfl), wr29 _ (List.mem_of_getElem? (i := 0) rfl), rfl⟩
theorem cfL_82 : CfB RL 82 yX9_ups cX9_ups 2 (some .int) 1 := ⟨wr29 _ (List.mem_of_getElem? (i := 2) rfl), wr1 _ (List.mem_of_getElem? (i := 2) rfl), wr29 _ (List.mem_of_getElem? (i := 5) rfl), by decide +kernel⟩
theorem viL_82 : Cond.instanceMethod yX9_ups ∈ wsL_law ∧ Cond.selects RX9 yX9_ups yX9_ups ∈ wsL_law ∧ vwCl[8]? = some (RX9, TX9, 9) := ⟨wr29 _ (List.mem_of_getElem? (i := 3) rfl), wr29 _ (List.mem_of_getElem? (i := 4) rfl), rfl⟩
theorem cfL_85 : CfB RL 85 yX10_ups cX10_ups 4 (some .int) 1 := ⟨wr30 _ (List.mem_of_getElem? (i := 6) rfl), wr1 _ (List.mem_of_getElem? (i := 5) rfl), wr30 _ (List.mem_of_getElem? (i := 9) rfl), by decide +kernel⟩
theorem viL_85 : Cond.instanceMethod yX10_ups ∈ wsL_law ∧ Cond.selects RX10 yX10_ups yX10_ups ∈ wsL_law ∧ vwCl[9]? = some (RX10, TX10, 20) := ⟨wr30 _ (List.mem_of_getElem? (i := 7) rfl), wr30 _ (List.mem_of_getElem? (i := 8) rfl), rfl⟩
theorem cfL_86 : CfB RL 86 yX9_ask cX9_ask 3 (some .int) 1 := ⟨wr30 _ (List.mem_of_getElem? (i := 18) rfl), wr1 _ (List.mem_of_getElem? (i := 2) rfl), wr30 _ (List.mem_of_getElem? (i := 21) rfl), by decide +kernel⟩
theorem viL_86 : Cond.instanceMethod yX9_ask ∈ wsL_law ∧ Cond.selects RX9 yX9_ask yX9_ask ∈ wsL_law ∧ vwCl[8]? = some (RX9, TX9, 9) := ⟨wr30 _ (List.mem_of_getElem? (i := 19) rfl), wr30 _ (List.mem_of_getElem? (i := 20) rfl), rfl⟩
theorem cfL_89 : CfB RL 89 yX10_ask cX10_ask 9 (some .int) 1 := ⟨wr31 _ (List.mem_of_getElem? (i := 10) rfl), wr1 _ (List.mem_of_getElem? (i := 5) rfl), wr31 _ (List.mem_of_getElem? (i := 13) rfl), by decide +kernel⟩
theorem viL_89 : Cond.instanceMethod yX10_ask ∈ wsL_law ∧ Cond.selects RX10 yX10_ask yX10_ask ∈ wsL_law ∧ vwCl[9]? = some (RX10, TX10, 20) := ⟨wr31 _ (List.mem_of_getElem? (i := 11) rfl), wr31 _ (List.mem_of_getElem? (i := 12) rfl), rfl⟩
theorem cfL_90 : CfB RL 90 yX9_down cX9_down 3 (some .int) 2 := ⟨wr31 _ (List.mem_of_getElem? (i := 14) rfl), wr1 _ (List.mem_of_getElem? (i := 2) rfl), wr31 _ (List.mem_of_getElem? (i := 17) rfl), by decide +kernel⟩
theorem viL_90 : Cond.instanceMethod yX9_down ∈ wsL_law ∧ Cond.selects RX9 yX9_down yX9_down ∈ wsL_law ∧ vwCl[8]? = some (RX9, TX9, 9) := ⟨wr31 _ (List.mem_of_getElem? (i := 15) rfl), wr31 _ (List.mem_of_getElem? (i := 16) rfl), rfl⟩
theorem cfL_93 : CfB RL 93 yX10_down cX10_down 4 (some .int) 2 := ⟨wr32 _ (List.mem_of_getElem? (i := 5) rfl), wr1 _ (List.mem_of_getElem? (i := 5) rfl), wr32 _ (List.mem_of_getElem? (i := 8) rfl), by decide +kernel⟩
theorem viL_93 : Cond.instanceMethod yX10_down ∈ wsL_law ∧ Cond.selects RX10 yX10_down yX10_down ∈ wsL_law ∧ vwCl[9]? = some (RX10, TX10, 20) := ⟨wr32 _ (List.mem_of_getElem? (i := 6) rfl), wr32 _ (List.mem_of_getElem? (i := 7) rfl), rfl⟩
theorem cfL_94 : CfB RL 94 yX9_foot cX9_foot 5 (some .long) 4 := ⟨wr32 _ (List.mem_of_getElem? (i := 13) rfl), wr1 _ (List.mem_of_getElem? (i := 2) rfl), wr32 _ (List.mem_of_getElem? (i := 16) rfl), by decide +kernel⟩
theorem viL_94 : Cond.instanceMethod yX9_foot ∈ wsL_law ∧ Cond.selects RX9 yX9_foot yX9_foot ∈ wsL_law ∧ vwCl[8]? = some (RX9, TX9, 9) := ⟨wr32 _ (List.mem_of_getElem? (i := 14) rfl), wr32 _ (List.mem_of_getElem? (i := 15) rfl), rfl⟩
theorem cfL_98 : CfB RL 98 yX10_foot cX10_foot 15 (some .long) 4 := ⟨wr33 _ (List.mem_of_getElem? (i := 18) rfl), wr1 _ (List.mem_of_getElem? (i := 5) rfl), wr33 _ (List.mem_of_getElem? (i := 21) rfl), by decide +kernel⟩
theorem viL_98 : Cond.instanceMethod yX10_foot ∈ wsL_law ∧ Cond.selects RX10 yX10_foot yX10_foot ∈ wsL_law ∧ vwCl[9]? = some (RX10, TX10, 20) := ⟨wr33 _ (List.mem_of_getElem? (i := 19) rfl), wr33 _ (List.mem_of_getElem? (i := 20) rfl), rfl⟩
theorem cfL_99 : CfB RL 99 yX9_year cX9_year 4 (some .int) 3 := ⟨wr34 _ (List.mem_of_getElem? (i := 0) rfl), wr1 _ (List.mem_of_getElem? (i := 2) rfl), wr34 _ (List.mem_of_getElem? (i := 3) rfl), by decide +kernel⟩
theorem viL_99 : Cond.instanceMethod yX9_year ∈ wsL_law ∧ Cond.selects RX9 yX9_year yX9_year ∈ wsL_law ∧ vwCl[8]? = some (RX9, TX9, 9) := ⟨wr34 _ (List.mem_of_getElem? (i := 1) rfl), wr34 _ (List.mem_of_getElem? (i := 2) rfl), rfl⟩
theorem cfL_103 : CfB RL 103 yX10_year cX10_year 11 (some .int) 3 := ⟨wr34 _ (List.mem_of_getElem? (i := 23) rfl), wr1 _ (List.mem_of_getElem? (i := 5) rfl), wr35 _ (List.mem_of_getElem? (i := 2) rfl), by decide +kernel⟩
theorem viL_103 : Cond.instanceMethod yX10_year ∈ wsL_law ∧ Cond.selects RX10 yX10_year yX10_year ∈ wsL_law ∧ vwCl[9]? = some (RX10, TX10, 20) := ⟨wr35 _ (List.mem_of_getElem? (i := 0) rfl), wr35 _ (List.mem_of_getElem? (i := 1) rfl), rfl⟩
theorem cfL_104 : CfB RL 104 yX9_image cX9_image 2 (some .int) 1 := ⟨wr35 _ (List.mem_of_getElem? (i := 4) rfl), wr1 _ (List.mem_of_getElem? (i := 2) rfl), wr35 _ (List.mem_of_getElem? (i := 7) rfl), by decide +kernel⟩
theorem viL_104 : Cond.instanceMethod yX9_image ∈ wsL_law ∧ Cond.selects RX9 yX9_image yX9_image ∈ wsL_law ∧ vwCl[8]? = some (RX9, TX9, 9) := ⟨wr35 _ (List.mem_of_getElem? (i := 5) rfl), wr35 _ (List.mem_of_getElem? (i := 6) rfl), rfl⟩
theorem cfL_107 : CfB RL 107 yX10_image cX10_image 4 (some .int) 1 := ⟨wr35 _ (List.mem_of_getElem? (i := 11) rfl), wr1 _ (List.mem_of_getElem? (i := 5) rfl), wr35 _ (List.mem_of_getElem? (i := 14) rfl), by decide +kernel⟩
theorem viL_107 : Cond.instanceMethod yX10_image ∈ wsL_law ∧ Cond.selects RX10 yX10_image yX10_image ∈ wsL_law ∧ vwCl[9]? = some (RX10, TX10, 20) := ⟨wr35 _ (List.mem_of_getElem? (i := 12) rfl), wr35 _ (List.mem_of_getElem? (i := 13) rfl), rfl⟩
theorem cfL_108 : CfB RL 108 yX9_restore cX9_restore 2 (some .int) 1 := ⟨wr35 _ (List.mem_of_getElem? (i := 15) rfl), wr1 _ (List.mem_of_getElem? (i := 2) rfl), wr35 _ (List.mem_of_getElem? (i := 18) rfl), by decide +kernel⟩
theorem viL_108 : Cond.instanceMethod yX9_restore ∈ wsL_law ∧ Cond.selects RX9 yX9_restore yX9_restore ∈ wsL_law ∧ vwCl[8]? = some (RX9, TX9, 9) := ⟨wr35 _ (List.mem_of_getElem? (i := 16) rfl), wr35 _ (List.mem_of_getElem? (i := 17) rfl), rfl⟩
theorem cfL_111 : CfB RL 111 yX10_restore cX10_restore 4 (some .int) 1 := ⟨wr35 _ (List.mem_of_getElem? (i := 19) rfl), wr1 _ (List.mem_of_getElem? (i := 5) rfl), wr35 _ (List.mem_of_getElem? (i := 22) rfl), by decide +kernel⟩
theorem viL_111 : Cond.instanceMethod yX10_restore ∈ wsL_law ∧ Cond.selects RX10 yX10_restore yX10_restore ∈ wsL_law ∧ vwCl[9]? = some (RX10, TX10, 20) := ⟨wr35 _ (List.mem_of_getElem? (i := 20) rfl), wr35 _ (List.mem_of_getElem? (i := 21) rfl), rfl⟩
theorem cfL_112 : CfB RL 112 yX9_told cX9_told 2 (some .int) 1 := ⟨wr35 _ (List.mem_of_getElem? (i := 23) rfl), wr1 _ (List.mem_of_getElem? (i := 2) rfl), wr36 _ (List.mem_of_getElem? (i := 2) rfl), by decide +kernel⟩
theorem viL_112 : Cond.instanceMethod yX9_told ∈ wsL_law ∧ Cond.selects RX9 yX9_told yX9_told ∈ wsL_law ∧ vwCl[8]? = some (RX9, TX9, 9) := ⟨wr36 _ (List.mem_of_getElem? (i := 0) rfl), wr36 _ (List.mem_of_getElem? (i := 1) rfl), rfl⟩
theorem cfL_115 : CfB RL 115 yX10_told cX10_told 3 (some .int) 1 := ⟨wr36 _ (List.mem_of_getElem? (i := 20) rfl), wr1 _ (List.mem_of_getElem? (i := 5) rfl), wr36 _ (List.mem_of_getElem? (i := 23) rfl), by decide +kernel⟩
theorem viL_115 : Cond.instanceMethod yX10_told ∈ wsL_law ∧ Cond.selects RX10 yX10_told yX10_told ∈ wsL_law ∧ vwCl[9]? = some (RX10, TX10, 20) := ⟨wr36 _ (List.mem_of_getElem? (i := 21) rfl), wr36 _ (List.mem_of_getElem? (i := 22) rfl), rfl⟩
def law_B (xs : Nat → Int32) (L : Nat) (rc18 : Int32 × SX0 × SX1 × SX3 × SX4 × SX0 × SX1 × SX5 × SX6 × SX7 × SX8 × Option SX1 × Option SX1 × SX10 → Option Int32) (x3 : Int32) (X_act : SX0) (X_brigade : SX1) (X_feet : SX3) (X_fire : SX4) (X_fire_act : SX0) (X_fire_after : SX1) (X_pad : SX5) (X_posts : SX6) (X_routes : SX7) (X_trails : SX8) (I0 : Option SX1) (I1 : Option SX1) (M : SX10) : Option Int32 :=
  (if ((nI L) - (5 : Int32)) < x3 then some (1 : Int32)
  else tgd (tin x3 L) ((if ((xs (Int32.toNatClampNeg x3)) &&& (31 : Int32)) = 0 then tgd (tin (x3 + (1 : Int32)) L) (tgd (tin (x3 + (2 : Int32)) L) (tgd (tin (x3 + (3 : Int32)) L) (tgd (tin (x3 + (4 : Int32)) L) (tbd (m9_rung () X_brigade (xs (Int32.toNatClampNeg (x3 + (1 : Int32)))) (xs (Int32.toNatClampNeg (x3 + (2 : Int32)))) (xs (Int32.toNatClampNeg (x3 + (3 : Int32)))) (xs (Int32.toNatClampNeg (x3 + (4 : Int32))))) (fun r1 => tgd (tin (x3 + (1 : Int32)) L) (tgd (tin (x3 + (2 : Int32)) L) (tgd (tin (x3 + (3 : Int32)) L) (tgd (tin (x3 + (4 : Int32)) L) (tbd (m10_rung M (xs (Int32.toNatClampNeg (x3 + (1 : Int32)))) (xs (Int32.toNatClampNeg (x3 + (2 : Int32)))) (xs (Int32.toNatClampNeg (x3 + (3 : Int32)))) (xs (Int32.toNatClampNeg (x3 + (4 : Int32))))) (fun r3 => (if r1.1 = r3.1 then tnm (x3 + (5 : Int32)) (fun v5 => rc18 (v5, X_act, r1.2, X_feet, X_fire, X_fire_act, X_fire_after, X_pad, X_posts, X_routes, X_trails, I0, I1, r3.2))
  else some (0 : Int32))))))))))))
  else (if ((xs (Int32.toNatClampNeg x3)) &&& (31 : Int32)) = 1 then tgd (tin (x3 + (1 : Int32)) L) (tgd (tin (x3 + (2 : Int32)) L) (tgd (tin (x3 + (3 : Int32)) L) (tgd (tin (x3 + (4 : Int32)) L) (tbd (m9_man () X_brigade (xs (Int32.toNatClampNeg (x3 + (1 : Int32)))) (xs (Int32.toNatClampNeg (x3 + (2 : Int32)))) (xs (Int32.toNatClampNeg (x3 + (3 : Int32)))) (xs (Int32.toNatClampNeg (x3 + (4 : Int32))))) (fun r6 => tgd (tin (x3 + (1 : Int32)) L) (tgd (tin (x3 + (2 : Int32)) L) (tgd (tin (x3 + (3 : Int32)) L) (tgd (tin (x3 + (4 : Int32)) L) (tbd (m10_man M (xs (Int32.toNatClampNeg (x3 + (1 : Int32)))) (xs (Int32.toNatClampNeg (x3 + (2 : Int32)))) (xs (Int32.toNatClampNeg (x3 + (3 : Int32)))) (xs (Int32.toNatClampNeg (x3 + (4 : Int32))))) (fun r8 => (if r6.1 = r8.1 then tnm (x3 + (5 : Int32)) (fun v10 => rc18 (v10, X_act, r6.2, X_feet, X_fire, X_fire_act, X_fire_after, X_pad, X_posts, X_routes, X_trails, I0, I1, r8.2))
  else some (0 : Int32))))))))))))
  else (if ((xs (Int32.toNatClampNeg x3)) &&& (31 : Int32)) = 2 then tgd (tin (x3 + (1 : Int32)) L) (tbd (m9_say () X_pad (xs (Int32.toNatClampNeg (x3 + (1 : Int32))))) (fun r11 => tgd (tin (x3 + (1 : Int32)) L) (tbd (m10_say M (xs (Int32.toNatClampNeg (x3 + (1 : Int32))))) (fun r13 => (if r11.1 = r13.1 then tnm (x3 + (5 : Int32)) (fun v15 => rc18 (v15, X_act, X_brigade, X_feet, X_fire, X_fire_act, X_fire_after, r11.2, X_posts, X_routes, X_trails, I0, I1, r13.2))
  else some (0 : Int32))))))
  else (if ((xs (Int32.toNatClampNeg x3)) &&& (31 : Int32)) = 3 then tbd (m9_wipe () X_pad) (fun r16 => tbd (m10_wipe M) (fun r18 => (if r16.1 = r18.1 then tnm (x3 + (5 : Int32)) (fun v20 => rc18 (v20, X_act, X_brigade, X_feet, X_fire, X_fire_act, X_fire_after, r16.2, X_posts, X_routes, X_trails, I0, I1, r18.2))
  else some (0 : Int32))))
  else (if ((xs (Int32.toNatClampNeg x3)) &&& (31 : Int32)) = 4 then tbd (m9_fault () X_pad) (fun r21 => tbd (m10_fault M) (fun r23 => (if r21 = r23 then tnm (x3 + (5 : Int32)) (fun v25 => rc18 (v25, X_act, X_brigade, X_feet, X_fire, X_fire_act, X_fire_after, X_pad, X_posts, X_routes, X_trails, I0, I1, M))
  else some (0 : Int32))))
  else (if ((xs (Int32.toNatClampNeg x3)) &&& (31 : Int32)) = 5 then tgd (tin (x3 + (1 : Int32)) L) (tbd (m9_judge () X_brigade X_fire X_fire_act X_fire_after X_pad (xs (Int32.toNatClampNeg (x3 + (1 : Int32))))) (fun r26 => tgd (tin (x3 + (1 : Int32)) L) (tbd (m10_judge M (xs (Int32.toNatClampNeg (x3 + (1 : Int32))))) (fun r28 => (if r26.1 = r28.1 then tnm (x3 + (5 : Int32)) (fun v30 => rc18 (v30, X_act, X_brigade, X_feet, r26.2.1, r26.2.2.1, r26.2.2.2, X_pad, X_posts, X_routes, X_trails, I0, I1, r28.2))
  else some (0 : Int32))))))
  else (if ((xs (Int32.toNatClampNeg x3)) &&& (31 : Int32)) = 6 then tbd (m9_done () X_brigade X_fire X_fire_act X_fire_after X_pad) (fun r31 => tbd (m10_done M) (fun r33 => (if r31.1 = r33.1 then tnm (x3 + (5 : Int32)) (fun v35 => rc18 (v35, X_act, r31.2.1, X_feet, r31.2.2.1, r31.2.2.2.1, r31.2.2.2.2.1, r31.2.2.2.2.2, X_posts, X_routes, X_trails, I0, I1, r33.2))
  else some (0 : Int32))))
  else (if ((xs (Int32.toNatClampNeg x3)) &&& (31 : Int32)) = 7 then tgd (tin (x3 + (1 : Int32)) L) (tgd (tin (x3 + (2 : Int32)) L) (tbd (m9_behind () X_brigade X_fire X_fire_act X_fire_after X_pad (xs (Int32.toNatClampNeg (x3 + (1 : Int32)))) (xs (Int32.toNatClampNeg (x3 + (2 : Int32))))) (fun r36 => tgd (tin (x3 + (1 : Int32)) L) (tgd (tin (x3 + (2 : Int32)) L) (tbd (m10_behind M (xs (Int32.toNatClampNeg (x3 + (1 : Int32)))) (xs (Int32.toNatClampNeg (x3 + (2 : Int32))))) (fun r38 => (if r36.1 = r38.1 then tnm (x3 + (5 : Int32)) (fun v40 => rc18 (v40, X_act, X_brigade, X_feet, r36.2.1, r36.2.2.1, r36.2.2.2, X_pad, X_posts, X_routes, X_trails, I0, I1, r38.2))
  else some (0 : Int32))))))))
  else (if ((xs (Int32.toNatClampNeg x3)) &&& (31 : Int32)) = 8 then tgd (tin (x3 + (1 : Int32)) L) (tgd (tin (x3 + (2 : Int32)) L) (tbd (m9_bears () X_brigade X_fire X_fire_act X_fire_after X_pad (xs (Int32.toNatClampNeg (x3 + (1 : Int32)))) (xs (Int32.toNatClampNeg (x3 + (2 : Int32))))) (fun r41 => tgd (tin (x3 + (1 : Int32)) L) (tgd (tin (x3 + (2 : Int32)) L) (tbd (m10_bears M (xs (Int32.toNatClampNeg (x3 + (1 : Int32)))) (xs (Int32.toNatClampNeg (x3 + (2 : Int32))))) (fun r43 => (if r41.1 = r43.1 then tnm (x3 + (5 : Int32)) (fun v45 => rc18 (v45, X_act, X_brigade, X_feet, r41.2.1, r41.2.2.1, r41.2.2.2, X_pad, X_posts, X_routes, X_trails, I0, I1, r43.2))
  else some (0 : Int32))))))))
  else (if ((xs (Int32.toNatClampNeg x3)) &&& (31 : Int32)) = 9 then tgd (tin (x3 + (1 : Int32)) L) (tbd (m9_then () X_brigade X_fire X_fire_act X_fire_after X_pad (xs (Int32.toNatClampNeg (x3 + (1 : Int32))))) (fun r46 => tgd (tin (x3 + (1 : Int32)) L) (tbd (m10_then M (xs (Int32.toNatClampNeg (x3 + (1 : Int32))))) (fun r48 => (if r46.1 = r48.1 then tnm (x3 + (5 : Int32)) (fun v50 => rc18 (v50, X_act, X_brigade, X_feet, r46.2.1, r46.2.2.1, r46.2.2.2, X_pad, X_posts, X_routes, X_trails, I0, I1, r48.2))
  else some (0 : Int32))))))
  else (if ((xs (Int32.toNatClampNeg x3)) &&& (31 : Int32)) = 10 then tgd (tin (x3 + (1 : Int32)) L) (tgd (tin (x3 + (2 : Int32)) L) (tbd (m9_climb () X_brigade X_routes (xs (Int32.toNatClampNeg (x3 + (1 : Int32)))) (xs (Int32.toNatClampNeg (x3 + (2 : Int32))))) (fun r51 => tgd (tin (x3 + (1 : Int32)) L) (tgd (tin (x3 + (2 : Int32)) L) (tbd (m10_climb M (xs (Int32.toNatClampNeg (x3 + (1 : Int32)))) (xs (Int32.toNatClampNeg (x3 + (2 : Int32))))) (fun r53 => (if r51.1 = r53.1 then tnm (x3 + (5 : Int32)) (fun v55 => rc18 (v55, X_act, X_brigade, X_feet, X_fire, X_fire_act, X_fire_after, X_pad, X_posts, r51.2, X_trails, I0, I1, r53.2))
  else some (0 : Int32))))))))
  else (if ((xs (Int32.toNatClampNeg x3)) &&& (31 : Int32)) = 11 then tgd (tin (x3 + (1 : Int32)) L) (tbd (m9_ways () X_brigade X_routes (xs (Int32.toNatClampNeg (x3 + (1 : Int32))))) (fun r56 => tgd (tin (x3 + (1 : Int32)) L) (tbd (m10_ways M (xs (Int32.toNatClampNeg (x3 + (1 : Int32))))) (fun r58 => (if r56.1 = r58.1 then tnm (x3 + (5 : Int32)) (fun v60 => rc18 (v60, X_act, X_brigade, X_feet, X_fire, X_fire_act, X_fire_after, X_pad, X_posts, r56.2, X_trails, I0, I1, r58.2))
  else some (0 : Int32))))))
  else (if ((xs (Int32.toNatClampNeg x3)) &&& (31 : Int32)) = 12 then tgd (tin (x3 + (1 : Int32)) L) (tgd (tin (x3 + (2 : Int32)) L) (tbd (m9_leases () X_brigade X_routes (xs (Int32.toNatClampNeg (x3 + (1 : Int32)))) (xs (Int32.toNatClampNeg (x3 + (2 : Int32))))) (fun r61 => tgd (tin (x3 + (1 : Int32)) L) (tgd (tin (x3 + (2 : Int32)) L) (tbd (m10_leases M (xs (Int32.toNatClampNeg (x3 + (1 : Int32)))) (xs (Int32.toNatClampNeg (x3 + (2 : Int32))))) (fun r63 => (if r61.1 = r63.1 then tnm (x3 + (5 : Int32)) (fun v65 => rc18 (v65, X_act, X_brigade, X_feet, X_fire, X_fire_act, X_fire_after, X_pad, X_posts, r61.2, X_trails, I0, I1, r63.2))
  else some (0 : Int32))))))))
  else (if ((xs (Int32.toNatClampNeg x3)) &&& (31 : Int32)) = 13 then tgd (tin (x3 + (1 : Int32)) L) (tbd (m9_stand () X_brigade X_posts (xs (Int32.toNatClampNeg (x3 + (1 : Int32))))) (fun r66 => tgd (tin (x3 + (1 : Int32)) L) (tbd (m10_stand M (xs (Int32.toNatClampNeg (x3 + (1 : Int32))))) (fun r68 => (if r66.1 = r68.1 then tnm (x3 + (5 : Int32)) (fun v70 => rc18 (v70, X_act, X_brigade, X_feet, X_fire, X_fire_act, X_fire_after, X_pad, r66.2, X_routes, X_trails, I0, I1, r68.2))
  else some (0 : Int32))))))
  else (if ((xs (Int32.toNatClampNeg x3)) &&& (31 : Int32)) = 14 then tgd (tin (x3 + (1 : Int32)) L) (tgd (tin (x3 + (2 : Int32)) L) ((if (xs (Int32.toNatClampNeg (x3 + (2 : Int32)))) = 0 then tbd (m9_felt () X_brigade (xs (Int32.toNatClampNeg (x3 + (1 : Int32)))) (0 : Int32)) (fun r71 => tgd (tin (x3 + (1 : Int32)) L) (tgd (tin (x3 + (2 : Int32)) L) ((if (xs (Int32.toNatClampNeg (x3 + (2 : Int32)))) = 0 then tbd (m10_felt M (xs (Int32.toNatClampNeg (x3 + (1 : Int32)))) (0 : Int32)) (fun r73 => (if r71.1 = r73.1 then tnm (x3 + (5 : Int32)) (fun v75 => rc18 (v75, X_act, r71.2, X_feet, X_fire, X_fire_act, X_fire_after, X_pad, X_posts, X_routes, X_trails, I0, I1, r73.2))
  else some (0 : Int32)))
  else tbd (m10_felt M (xs (Int32.toNatClampNeg (x3 + (1 : Int32)))) (1 : Int32)) (fun r76 => (if r71.1 = r76.1 then tnm (x3 + (5 : Int32)) (fun v78 => rc18 (v78, X_act, r71.2, X_feet, X_fire, X_fire_act, X_fire_after, X_pad, X_posts, X_routes, X_trails, I0, I1, r76.2))
  else some (0 : Int32)))))))
  else tbd (m9_felt () X_brigade (xs (Int32.toNatClampNeg (x3 + (1 : Int32)))) (1 : Int32)) (fun r79 => tgd (tin (x3 + (1 : Int32)) L) (tgd (tin (x3 + (2 : Int32)) L) ((if (xs (Int32.toNatClampNeg (x3 + (2 : Int32)))) = 0 then tbd (m10_felt M (xs (Int32.toNatClampNeg (x3 + (1 : Int32)))) (0 : Int32)) (fun r81 => (if r79.1 = r81.1 then tnm (x3 + (5 : Int32)) (fun v83 => rc18 (v83, X_act, r79.2, X_feet, X_fire, X_fire_act, X_fire_after, X_pad, X_posts, X_routes, X_trails, I0, I1, r81.2))
  else some (0 : Int32)))
  else tbd (m10_felt M (xs (Int32.toNatClampNeg (x3 + (1 : Int32)))) (1 : Int32)) (fun r84 => (if r79.1 = r84.1 then tnm (x3 + (5 : Int32)) (fun v86 => rc18 (v86, X_act, r79.2, X_feet, X_fire, X_fire_act, X_fire_after, X_pad, X_posts, X_routes, X_trails, I0, I1, r84.2))
  else some (0 : Int32))))))))))
  else (if ((xs (Int32.toNatClampNeg x3)) &&& (31 : Int32)) = 15 then tbd (m9_forget () X_brigade) (fun r87 => tbd (m10_forget M) (fun r89 => (if r87.1 = r89.1 then tnm (x3 + (5 : Int32)) (fun v91 => rc18 (v91, X_act, r87.2, X_feet, X_fire, X_fire_act, X_fire_after, X_pad, X_posts, X_routes, X_trails, I0, I1, r89.2))
  else some (0 : Int32))))
  else (if ((xs (Int32.toNatClampNeg x3)) &&& (31 : Int32)) = 16 then tgd (tin (x3 + (1 : Int32)) L) (tbd (m9_ups () X_brigade X_trails (xs (Int32.toNatClampNeg (x3 + (1 : Int32))))) (fun r92 => tgd (tin (x3 + (1 : Int32)) L) (tbd (m10_ups M (xs (Int32.toNatClampNeg (x3 + (1 : Int32))))) (fun r94 => (if r92.1 = r94.1 then tnm (x3 + (5 : Int32)) (fun v96 => rc18 (v96, X_act, X_brigade, X_feet, X_fire, X_fire_act, X_fire_after, X_pad, X_posts, X_routes, r92.2, I0, I1, r94.2))
  else some (0 : Int32))))))
  else (if ((xs (Int32.toNatClampNeg x3)) &&& (31 : Int32)) = 17 then tgd (tin (x3 + (1 : Int32)) L) (tbd (m9_ask () X_brigade X_trails (xs (Int32.toNatClampNeg (x3 + (1 : Int32))))) (fun r97 => tgd (tin (x3 + (1 : Int32)) L) (tbd (m10_ask M (xs (Int32.toNatClampNeg (x3 + (1 : Int32))))) (fun r99 => (if r97.1 = r99.1 then tnm (x3 + (5 : Int32)) (fun v101 => rc18 (v101, X_act, X_brigade, X_feet, X_fire, X_fire_act, X_fire_after, X_pad, X_posts, X_routes, r97.2, I0, I1, r99.2))
  else some (0 : Int32))))))
  else (if ((xs (Int32.toNatClampNeg x3)) &&& (31 : Int32)) = 18 then tgd (tin (x3 + (1 : Int32)) L) (tgd (tin (x3 + (2 : Int32)) L) (tbd (m9_down (xs (Int32.toNatClampNeg (x3 + (1 : Int32)))) (xs (Int32.toNatClampNeg (x3 + (2 : Int32))))) (fun r102 => tgd (tin (x3 + (1 : Int32)) L) (tgd (tin (x3 + (2 : Int32)) L) (tbd (m10_down M (xs (Int32.toNatClampNeg (x3 + (1 : Int32)))) (xs (Int32.toNatClampNeg (x3 + (2 : Int32))))) (fun r104 => (if r102 = r104.1 then tnm (x3 + (5 : Int32)) (fun v106 => rc18 (v106, X_act, X_brigade, X_feet, X_fire, X_fire_act, X_fire_after, X_pad, X_posts, X_routes, X_trails, I0, I1, r104.2))
  else some (0 : Int32))))))))
  else (if ((xs (Int32.toNatClampNeg x3)) &&& (31 : Int32)) = 19 then tgd (tin (x3 + (1 : Int32)) L) (tgd (tin (x3 + (2 : Int32)) L) (tgd (tin (x3 + (3 : Int32)) L) (tgd (tin (x3 + (4 : Int32)) L) (tbd (m9_foot () X_feet (xs (Int32.toNatClampNeg (x3 + (1 : Int32)))) (xs (Int32.toNatClampNeg (x3 + (2 : Int32)))) (xs (Int32.toNatClampNeg (x3 + (3 : Int32)))) (xs (Int32.toNatClampNeg (x3 + (4 : Int32))))) (fun r107 => tgd (tin (x3 + (1 : Int32)) L) (tgd (tin (x3 + (2 : Int32)) L) (tgd (tin (x3 + (3 : Int32)) L) (tgd (tin (x3 + (4 : Int32)) L) (tbd (m10_foot M (xs (Int32.toNatClampNeg (x3 + (1 : Int32)))) (xs (Int32.toNatClampNeg (x3 + (2 : Int32)))) (xs (Int32.toNatClampNeg (x3 + (3 : Int32)))) (xs (Int32.toNatClampNeg (x3 + (4 : Int32))))) (fun r109 => (if (lg_cmp r107.1 r109.1) = 0 then tnm (x3 + (5 : Int32)) (fun v111 => rc18 (v111, X_act, X_brigade, r107.2, X_fire, X_fire_act, X_fire_after, X_pad, X_posts, X_routes, X_trails, I0, I1, r109.2))
  else some (0 : Int32))))))))))))
  else (if ((xs (Int32.toNatClampNeg x3)) &&& (31 : Int32)) = 20 then tgd (tin (x3 + (1 : Int32)) L) (tgd (tin (x3 + (2 : Int32)) L) (tgd (tin (x3 + (3 : Int32)) L) (tbd (m9_year () X_act X_brigade X_fire X_fire_after (xs (Int32.toNatClampNeg (x3 + (1 : Int32)))) (xs (Int32.toNatClampNeg (x3 + (2 : Int32)))) (xs (Int32.toNatClampNeg (x3 + (3 : Int32))))) (fun r112 => tgd (tin (x3 + (1 : Int32)) L) (tgd (tin (x3 + (2 : Int32)) L) (tgd (tin (x3 + (3 : Int32)) L) (tbd (m10_year M (xs (Int32.toNatClampNeg (x3 + (1 : Int32)))) (xs (Int32.toNatClampNeg (x3 + (2 : Int32)))) (xs (Int32.toNatClampNeg (x3 + (3 : Int32))))) (fun r114 => (if r112.1 = r114.1 then tnm (x3 + (5 : Int32)) (fun v116 => rc18 (v116, r112.2.1, X_brigade, X_feet, r112.2.2.1, X_fire_act, r112.2.2.2, X_pad, X_posts, X_routes, X_trails, I0, I1, r114.2))
  else some (0 : Int32))))))))))
  else (if ((xs (Int32.toNatClampNeg x3)) &&& (31 : Int32)) = 21 then tgd (tin (x3 + (1 : Int32)) L) (tbd (m9_image X_brigade I0 I1 (xs (Int32.toNatClampNeg (x3 + (1 : Int32))))) (fun r117 => tgd (tin (x3 + (1 : Int32)) L) (tbd (m10_image M (xs (Int32.toNatClampNeg (x3 + (1 : Int32))))) (fun r119 => (if r117.1 = r119.1 then tnm (x3 + (5 : Int32)) (fun v121 => rc18 (v121, X_act, X_brigade, X_feet, X_fire, X_fire_act, X_fire_after, X_pad, X_posts, X_routes, X_trails, r117.2.1, r117.2.2, r119.2))
  else some (0 : Int32))))))
  else (if ((xs (Int32.toNatClampNeg x3)) &&& (31 : Int32)) = 22 then tgd (tin (x3 + (1 : Int32)) L) (tbd (m9_restore X_brigade I0 I1 (xs (Int32.toNatClampNeg (x3 + (1 : Int32))))) (fun r122 => tgd (tin (x3 + (1 : Int32)) L) (tbd (m10_restore M (xs (Int32.toNatClampNeg (x3 + (1 : Int32))))) (fun r124 => (if r122.1 = r124.1 then tnm (x3 + (5 : Int32)) (fun v126 => rc18 (v126, X_act, r122.2, X_feet, X_fire, X_fire_act, X_fire_after, X_pad, X_posts, X_routes, X_trails, I0, I1, r124.2))
  else some (0 : Int32))))))
  else (if ((xs (Int32.toNatClampNeg x3)) &&& (31 : Int32)) = 23 then tgd (tin (x3 + (1 : Int32)) L) (tbd (m9_told () X_brigade X_pad (xs (Int32.toNatClampNeg (x3 + (1 : Int32))))) (fun r127 => tgd (tin (x3 + (1 : Int32)) L) (tbd (m10_told M (xs (Int32.toNatClampNeg (x3 + (1 : Int32))))) (fun r129 => (if r127 = r129.1 then tnm (x3 + (5 : Int32)) (fun v131 => rc18 (v131, X_act, X_brigade, X_feet, X_fire, X_fire_act, X_fire_after, X_pad, X_posts, X_routes, X_trails, I0, I1, r129.2))
  else some (0 : Int32))))))
  else tnm (x3 + (5 : Int32)) (fun v132 => rc18 (v132, X_act, X_brigade, X_feet, X_fire, X_fire_act, X_fire_after, X_pad, X_posts, X_routes, X_trails, I0, I1, M))))))))))))))))))))))))))))
def law_L (xs : Nat → Int32) (L : Nat) (rc18 : Int32 × SX0 × SX1 × SX3 × SX4 × SX0 × SX1 × SX5 × SX6 × SX7 × SX8 × Option SX1 × Option SX1 × SX10 → Option Int32) (z : Int32 × SX0 × SX1 × SX3 × SX4 × SX0 × SX1 × SX5 × SX6 × SX7 × SX8 × Option SX1 × Option SX1 × SX10) : Option Int32 := law_B xs L rc18 z.1 z.2.1 z.2.2.1 z.2.2.2.1 z.2.2.2.2.1 z.2.2.2.2.2.1 z.2.2.2.2.2.2.1 z.2.2.2.2.2.2.2.1 z.2.2.2.2.2.2.2.2.1 z.2.2.2.2.2.2.2.2.2.1 z.2.2.2.2.2.2.2.2.2.2.1 z.2.2.2.2.2.2.2.2.2.2.2.1 z.2.2.2.2.2.2.2.2.2.2.2.2.1 z.2.2.2.2.2.2.2.2.2.2.2.2.2
set_option maxRecDepth 100000 in
set_option maxHeartbeats 4000000 in
theorem law_k {p : Program} {l : Launch} {e : Env} {s : State} {m : MethodId} {below : List Frame} {meth : Method} {c : Code} {G : gG} {b L : Nat} {xs : Nat → Int32} (C : Cx p e s m #[Value.ref b] meth c G RL cL_law 4 ret (fun q : Nat => s.heap.size ≤ q)) (hX : va_X b L xs s s.heap) (hbl : b < s.heap.size) (X0 X_brigade0 X_pad0 X_act0 X_fire0 X_routes0 X_posts0 X_trails0 X_feet0 X_images0 X_brigade1 X_brigade2 X_brigade3 X_brigade4 X_brigade5 X_feet1 X_fire_after0 X_fire_act0 X_fire_after1 X_fire_after2 X_fire_after3 X_fire_after4 X_fire_after5 X_pad1 X_posts1 X_posts2 X_routes1 X_trails1 X_trails2 M0 M1 M2 M3 M4 M5 M6 M7 M8 M9 M10 M11 M12 : Nat) : ∀ (n : Nat) (x3 : Int32) (X_act : SX0) (X_brigade : SX1) (X_feet : SX3) (X_fire : SX4) (X_fire_act : SX0) (X_fire_after : SX1) (X_pad : SX5) (X_posts : SX6) (X_routes : SX7) (X_trails : SX8) (I0 : Option SX1) (I1 : Option SX1) (M : SX10) (x0 x1 : Ad) (cs sl : Nat), cs + 6 * n ≤ 600000 → sl + 55 * n ≤ 7302250 → tit (law_L xs L) n (x3, X_act, X_brigade, X_feet, X_fire, X_fire_act, X_fire_after, X_pad, X_posts, X_routes, X_trails, I0, I1, M) = some 1 → Gq p l e room_1 s m #[Value.ref b] below meth c G (fun q : Nat => s.heap.size ≤ q) 4 cs sl (lw_Z below #[Value.ref b] s) 18 [(0, .ref b), (1, .ref X0), (2, .ref M0), (3, .int x3)] [] ((u9 G X0 X_brigade0 X_pad0 X_act0 X_fire0 X_routes0 X_posts0 X_trails0 X_feet0 X_images0 () ++ (u0 G X_act0 X_act ++ (u1 G X_brigade0 X_brigade1 X_brigade2 X_brigade3 X_brigade4 X_brigade5 X_brigade ++ (u3 G X_feet0 X_feet1 X_feet ++ (u4 G X_fire0 X_fire_after0 X_fire_act0 X_fire ++ (u0 G X_fire_act0 X_fire_act ++ (u1 G X_fire_after0 X_fire_after1 X_fire_after2 X_fire_after3 X_fire_after4 X_fire_after5 X_fire_after ++ (u5 G X_pad0 X_pad1 X_pad ++ (u6 G X_posts0 X_posts1 X_posts2 X_posts ++ (u7 G X_routes0 X_routes1 X_routes ++ (u8 G X_trails0 X_trails1 X_trails2 X_trails ++ (u10 G M0 M1 M2 M3 M4 M5 M6 M7 M8 M9 M10 M11 M12 M ++ (imC G X_images0 x0 x1 I0 I1))))))))))))) ++ imT G x0 x1 I0 I1) := by
  have hbA : ¬ (fun q : Nat => s.heap.size ≤ q) b := Nat.not_le.mpr hbl
  intro n
  induction n with
  | zero => exact fun _ _ _ _ _ _ _ _ _ _ _ _ _ _ _ _ _ _ _ _ h => (tit_z h).elim
  | succ n ih =>
    intro x3 X_act X_brigade X_feet X_fire X_fire_act X_fire_after X_pad X_posts X_routes X_trails I0 I1 M x0 x1 cs sl hcs hsl h
    replace h : law_B xs L (tit (law_L xs L) n) x3 X_act X_brigade X_feet X_fire X_fire_act X_fire_after X_pad X_posts X_routes X_trails I0 I1 M = some 1 := h
    unfold law_B at h
    refine go_iload_n C dL_law_18 3 rfl ?_
    refine go_aload_n C dL_law_19 0 rfl ?_
    refine go_slen C hX hbl hbA dL_law_20 ?_
    refine go_iconst (v := 5) C dL_law_21 rfl ?_
    refine go_isub C dL_law_22 ?_
    refine go_icmp_gt (tgt := 849) C h dL_law_23 rfl (fun h => ?_) (fun h => ?_)
    · refine go_iconst (v := 1) C dL_law_849 rfl ?_
      exact go_law1 C (by omega) (by omega) dL_law_850
    · refine go_aload_n C dL_law_26 0 rfl ?_
      refine go_iload_n C dL_law_27 3 rfl ?_
      refine go_sldG C hX hbl hbA h dL_law_28 (fun h => ?_)
      refine go_bipush (v := 31) C dL_law_29 rfl ?_
      refine go_iand C dL_law_31 ?_
      refine go_ite h (fun q h => ?_) (fun q0 h => ?_)
      · refine go_tabIn (off := 112) (tgt := 144) C dL_law_32 q (by decide) (by decide) rfl ?_
        refine go_aload_n C dL_law_144 1 rfl ?_
        refine go_aload_n C dL_law_145 0 rfl ?_
        refine go_iload_n C dL_law_146 3 rfl ?_
        refine go_iconst (v := 1) C dL_law_147 rfl ?_
        refine go_iadd C dL_law_148 ?_
        refine go_sldG C hX hbl hbA h dL_law_149 (fun h => ?_)
        refine go_aload_n C dL_law_150 0 rfl ?_
        refine go_iload_n C dL_law_151 3 rfl ?_
        refine go_iconst (v := 2) C dL_law_152 rfl ?_
        refine go_iadd C dL_law_153 ?_
        refine go_sldG C hX hbl hbA h dL_law_154 (fun h => ?_)
        refine go_aload_n C dL_law_155 0 rfl ?_
        refine go_iload_n C dL_law_156 3 rfl ?_
        refine go_iconst (v := 3) C dL_law_157 rfl ?_
        refine go_iadd C dL_law_158 ?_
        refine go_sldG C hX hbl hbA h dL_law_159 (fun h => ?_)
        refine go_aload_n C dL_law_160 0 rfl ?_
        refine go_iload_n C dL_law_161 3 rfl ?_
        refine go_iconst (v := 4) C dL_law_162 rfl ?_
        refine go_iadd C dL_law_163 ?_
        refine go_sldG C hX hbl hbA h dL_law_164 (fun h => ?_)
        obtain ⟨r1, k2, h⟩ := tbd_e h
        refine go_callVT (q0 := 0) (wr := u0 G X_act0 X_act ++ (u3 G X_feet0 X_feet1 X_feet ++ (u4 G X_fire0 X_fire_after0 X_fire_act0 X_fire ++ (u0 G X_fire_act0 X_fire_act ++ (u1 G X_fire_after0 X_fire_after1 X_fire_after2 X_fire_after3 X_fire_after4 X_fire_after5 X_fire_after ++ (u5 G X_pad0 X_pad1 X_pad ++ (u6 G X_posts0 X_posts1 X_posts2 X_posts ++ (u7 G X_routes0 X_routes1 X_routes ++ (u8 G X_trails0 X_trails1 X_trails2 X_trails ++ (u10 G M0 M1 M2 M3 M4 M5 M6 M7 M8 M9 M10 M11 M12 M ++ (imC G X_images0 x0 x1 I0 I1))))))))))) (w' := u9 G X0 X_brigade0 X_pad0 X_act0 X_fire0 X_routes0 X_posts0 X_trails0 X_feet0 X_images0 () ++ (u0 G X_act0 X_act ++ (u1 G X_brigade0 X_brigade1 X_brigade2 X_brigade3 X_brigade4 X_brigade5 r1.2 ++ (u3 G X_feet0 X_feet1 X_feet ++ (u4 G X_fire0 X_fire_after0 X_fire_act0 X_fire ++ (u0 G X_fire_act0 X_fire_act ++ (u1 G X_fire_after0 X_fire_after1 X_fire_after2 X_fire_after3 X_fire_after4 X_fire_after5 X_fire_after ++ (u5 G X_pad0 X_pad1 X_pad ++ (u6 G X_posts0 X_posts1 X_posts2 X_posts ++ (u7 G X_routes0 X_routes1 X_routes ++ (u8 G X_trails0 X_trails1 X_trails2 X_trails ++ (u10 G M0 M1 M2 M3 M4 M5 M6 M7 M8 M9 M10 M11 M12 M ++ (imC G X_images0 x0 x1 I0 I1))))))))))))) C cfL_13 viL_13 (m9_rung_k l G X0 X_brigade0 X_pad0 X_act0 X_fire0 X_routes0 X_posts0 X_trails0 X_feet0 X_images0 X_brigade1 X_brigade2 X_brigade3 X_brigade4 X_brigade5 () X_brigade (xs (Int32.toNatClampNeg (x3 + (1 : Int32)))) (xs (Int32.toNatClampNeg (x3 + (2 : Int32)))) (xs (Int32.toNatClampNeg (x3 + (3 : Int32)))) (xs (Int32.toNatClampNeg (x3 + (4 : Int32)))) r1 k2) dL_law_165 (by decide) ⟨by show cs ≤ 600000; omega, by show sl ≤ 7302250; omega⟩ rfl rfl (Nat.le_of_ble_eq_true rfl) rfl [0, 2, 3, 4, 5, 6, 7] [1, 8, 9, 10, 11, 12, 13, 14, 15, 16, 17, 18, 19, 20, 21, 22, 23, 24, 25, 26, 27, 28, 29, 30, 31, 32, 33, 34, 35, 36, 37, 38, 39, 40, 41] [35, 0, 36, 37, 38, 39, 40, 41, 1, 2, 3, 4, 5, 6, 7, 8, 9, 10, 11, 12, 13, 14, 15, 16, 17, 18, 19, 20, 21, 22, 23, 24, 25, 26, 27, 28, 29, 30, 31, 32, 33, 34] rfl rfl (by decide) rfl ?_
        refine go_aload_n C dL_law_168 2 rfl ?_
        refine go_aload_n C dL_law_169 0 rfl ?_
        refine go_iload_n C dL_law_170 3 rfl ?_
        refine go_iconst (v := 1) C dL_law_171 rfl ?_
        refine go_iadd C dL_law_172 ?_
        refine go_sldG C hX hbl hbA h dL_law_173 (fun h => ?_)
        refine go_aload_n C dL_law_174 0 rfl ?_
        refine go_iload_n C dL_law_175 3 rfl ?_
        refine go_iconst (v := 2) C dL_law_176 rfl ?_
        refine go_iadd C dL_law_177 ?_
        refine go_sldG C hX hbl hbA h dL_law_178 (fun h => ?_)
        refine go_aload_n C dL_law_179 0 rfl ?_
        refine go_iload_n C dL_law_180 3 rfl ?_
        refine go_iconst (v := 3) C dL_law_181 rfl ?_
        refine go_iadd C dL_law_182 ?_
        refine go_sldG C hX hbl hbA h dL_law_183 (fun h => ?_)
        refine go_aload_n C dL_law_184 0 rfl ?_
        refine go_iload_n C dL_law_185 3 rfl ?_
        refine go_iconst (v := 4) C dL_law_186 rfl ?_
        refine go_iadd C dL_law_187 ?_
        refine go_sldG C hX hbl hbA h dL_law_188 (fun h => ?_)
        obtain ⟨r3, k4, h⟩ := tbd_e h
        refine go_callVT (q0 := 28) (wr := u9 G X0 X_brigade0 X_pad0 X_act0 X_fire0 X_routes0 X_posts0 X_trails0 X_feet0 X_images0 () ++ (u0 G X_act0 X_act ++ (u1 G X_brigade0 X_brigade1 X_brigade2 X_brigade3 X_brigade4 X_brigade5 r1.2 ++ (u3 G X_feet0 X_feet1 X_feet ++ (u4 G X_fire0 X_fire_after0 X_fire_act0 X_fire ++ (u0 G X_fire_act0 X_fire_act ++ (u1 G X_fire_after0 X_fire_after1 X_fire_after2 X_fire_after3 X_fire_after4 X_fire_after5 X_fire_after ++ (u5 G X_pad0 X_pad1 X_pad ++ (u6 G X_posts0 X_posts1 X_posts2 X_posts ++ (u7 G X_routes0 X_routes1 X_routes ++ (u8 G X_trails0 X_trails1 X_trails2 X_trails ++ (imC G X_images0 x0 x1 I0 I1)))))))))))) (w' := u9 G X0 X_brigade0 X_pad0 X_act0 X_fire0 X_routes0 X_posts0 X_trails0 X_feet0 X_images0 () ++ (u0 G X_act0 X_act ++ (u1 G X_brigade0 X_brigade1 X_brigade2 X_brigade3 X_brigade4 X_brigade5 r1.2 ++ (u3 G X_feet0 X_feet1 X_feet ++ (u4 G X_fire0 X_fire_after0 X_fire_act0 X_fire ++ (u0 G X_fire_act0 X_fire_act ++ (u1 G X_fire_after0 X_fire_after1 X_fire_after2 X_fire_after3 X_fire_after4 X_fire_after5 X_fire_after ++ (u5 G X_pad0 X_pad1 X_pad ++ (u6 G X_posts0 X_posts1 X_posts2 X_posts ++ (u7 G X_routes0 X_routes1 X_routes ++ (u8 G X_trails0 X_trails1 X_trails2 X_trails ++ (u10 G M0 M1 M2 M3 M4 M5 M6 M7 M8 M9 M10 M11 M12 r3.2 ++ (imC G X_images0 x0 x1 I0 I1))))))))))))) C cfL_17 viL_17 (m10_rung_k l G M0 M1 M2 M3 M4 M5 M6 M7 M8 M9 M10 M11 M12 M (xs (Int32.toNatClampNeg (x3 + (1 : Int32)))) (xs (Int32.toNatClampNeg (x3 + (2 : Int32)))) (xs (Int32.toNatClampNeg (x3 + (3 : Int32)))) (xs (Int32.toNatClampNeg (x3 + (4 : Int32)))) r3 k4) dL_law_189 (by decide) ⟨by show cs ≤ 600000; omega, by show sl ≤ 7302250; omega⟩ rfl rfl (Nat.le_of_ble_eq_true rfl) rfl [28, 29, 30, 31, 32, 33, 34, 35, 36, 37, 38, 39, 40] [0, 1, 2, 3, 4, 5, 6, 7, 8, 9, 10, 11, 12, 13, 14, 15, 16, 17, 18, 19, 20, 21, 22, 23, 24, 25, 26, 27, 41] [0, 1, 2, 3, 4, 5, 6, 7, 8, 9, 10, 11, 12, 13, 14, 15, 16, 17, 18, 19, 20, 21, 22, 23, 24, 25, 26, 27, 29, 30, 31, 32, 33, 34, 35, 36, 37, 38, 39, 40, 41, 28] rfl rfl (by decide) rfl ?_
        refine go_icmp_eq (tgt := 843) C h dL_law_192 rfl (fun h => ?_) (fun h => ?_)
        · refine go_iincN (lf := fun v5 => [(3, .int v5), (0, .ref b), (1, .ref X0), (2, .ref M0)]) C h dL_law_843 3 rfl rfl (by decide) (fun _ => rfl) (fun v5 h => ?_)
          refine go_lv (lv' := [(0, .ref b), (1, .ref X0), (2, .ref M0), (3, .int v5)]) [1, 2, 3, 0] rfl ?_
          refine go_goto (tgt := 18) C dL_law_846 rfl ?_
          exact ih v5 X_act r1.2 X_feet X_fire X_fire_act X_fire_after X_pad X_posts X_routes X_trails I0 I1 r3.2 x0 x1 cs sl (by omega) (by omega) h
        · refine go_iconst (v := 0) C dL_law_195 rfl ?_
          exact absurd h (by decide)
      refine go_ite h (fun q h => ?_) (fun q1 h => ?_)
      · refine go_tabIn (off := 165) (tgt := 197) C dL_law_32 q (by decide) (by decide) rfl ?_
        refine go_aload_n C dL_law_197 1 rfl ?_
        refine go_aload_n C dL_law_198 0 rfl ?_
        refine go_iload_n C dL_law_199 3 rfl ?_
        refine go_iconst (v := 1) C dL_law_200 rfl ?_
        refine go_iadd C dL_law_201 ?_
        refine go_sldG C hX hbl hbA h dL_law_202 (fun h => ?_)
        refine go_aload_n C dL_law_203 0 rfl ?_
        refine go_iload_n C dL_law_204 3 rfl ?_
        refine go_iconst (v := 2) C dL_law_205 rfl ?_
        refine go_iadd C dL_law_206 ?_
        refine go_sldG C hX hbl hbA h dL_law_207 (fun h => ?_)
        refine go_aload_n C dL_law_208 0 rfl ?_
        refine go_iload_n C dL_law_209 3 rfl ?_
        refine go_iconst (v := 3) C dL_law_210 rfl ?_
        refine go_iadd C dL_law_211 ?_
        refine go_sldG C hX hbl hbA h dL_law_212 (fun h => ?_)
        refine go_aload_n C dL_law_213 0 rfl ?_
        refine go_iload_n C dL_law_214 3 rfl ?_
        refine go_iconst (v := 4) C dL_law_215 rfl ?_
        refine go_iadd C dL_law_216 ?_
        refine go_sldG C hX hbl hbA h dL_law_217 (fun h => ?_)
        obtain ⟨r6, k7, h⟩ := tbd_e h
        refine go_callVT (q0 := 0) (wr := u0 G X_act0 X_act ++ (u3 G X_feet0 X_feet1 X_feet ++ (u4 G X_fire0 X_fire_after0 X_fire_act0 X_fire ++ (u0 G X_fire_act0 X_fire_act ++ (u1 G X_fire_after0 X_fire_after1 X_fire_after2 X_fire_after3 X_fire_after4 X_fire_after5 X_fire_after ++ (u5 G X_pad0 X_pad1 X_pad ++ (u6 G X_posts0 X_posts1 X_posts2 X_posts ++ (u7 G X_routes0 X_routes1 X_routes ++ (u8 G X_trails0 X_trails1 X_trails2 X_trails ++ (u10 G M0 M1 M2 M3 M4 M5 M6 M7 M8 M9 M10 M11 M12 M ++ (imC G X_images0 x0 x1 I0 I1))))))))))) (w' := u9 G X0 X_brigade0 X_pad0 X_act0 X_fire0 X_routes0 X_posts0 X_trails0 X_feet0 X_images0 () ++ (u0 G X_act0 X_act ++ (u1 G X_brigade0 X_brigade1 X_brigade2 X_brigade3 X_brigade4 X_brigade5 r6.2 ++ (u3 G X_feet0 X_feet1 X_feet ++ (u4 G X_fire0 X_fire_after0 X_fire_act0 X_fire ++ (u0 G X_fire_act0 X_fire_act ++ (u1 G X_fire_after0 X_fire_after1 X_fire_after2 X_fire_after3 X_fire_after4 X_fire_after5 X_fire_after ++ (u5 G X_pad0 X_pad1 X_pad ++ (u6 G X_posts0 X_posts1 X_posts2 X_posts ++ (u7 G X_routes0 X_routes1 X_routes ++ (u8 G X_trails0 X_trails1 X_trails2 X_trails ++ (u10 G M0 M1 M2 M3 M4 M5 M6 M7 M8 M9 M10 M11 M12 M ++ (imC G X_images0 x0 x1 I0 I1))))))))))))) C cfL_18 viL_18 (m9_man_k l G X0 X_brigade0 X_pad0 X_act0 X_fire0 X_routes0 X_posts0 X_trails0 X_feet0 X_images0 X_brigade1 X_brigade2 X_brigade3 X_brigade4 X_brigade5 () X_brigade (xs (Int32.toNatClampNeg (x3 + (1 : Int32)))) (xs (Int32.toNatClampNeg (x3 + (2 : Int32)))) (xs (Int32.toNatClampNeg (x3 + (3 : Int32)))) (xs (Int32.toNatClampNeg (x3 + (4 : Int32)))) r6 k7) dL_law_218 (by decide) ⟨by show cs ≤ 600000; omega, by show sl ≤ 7302250; omega⟩ rfl rfl (Nat.le_of_ble_eq_true rfl) rfl [0, 2, 3, 4, 5, 6, 7] [1, 8, 9, 10, 11, 12, 13, 14, 15, 16, 17, 18, 19, 20, 21, 22, 23, 24, 25, 26, 27, 28, 29, 30, 31, 32, 33, 34, 35, 36, 37, 38, 39, 40, 41] [35, 0, 36, 37, 38, 39, 40, 41, 1, 2, 3, 4, 5, 6, 7, 8, 9, 10, 11, 12, 13, 14, 15, 16, 17, 18, 19, 20, 21, 22, 23, 24, 25, 26, 27, 28, 29, 30, 31, 32, 33, 34] rfl rfl (by decide) rfl ?_
        refine go_aload_n C dL_law_221 2 rfl ?_
        refine go_aload_n C dL_law_222 0 rfl ?_
        refine go_iload_n C dL_law_223 3 rfl ?_
        refine go_iconst (v := 1) C dL_law_224 rfl ?_
        refine go_iadd C dL_law_225 ?_
        refine go_sldG C hX hbl hbA h dL_law_226 (fun h => ?_)
        refine go_aload_n C dL_law_227 0 rfl ?_
        refine go_iload_n C dL_law_228 3 rfl ?_
        refine go_iconst (v := 2) C dL_law_229 rfl ?_
        refine go_iadd C dL_law_230 ?_
        refine go_sldG C hX hbl hbA h dL_law_231 (fun h => ?_)
        refine go_aload_n C dL_law_232 0 rfl ?_
        refine go_iload_n C dL_law_233 3 rfl ?_
        refine go_iconst (v := 3) C dL_law_234 rfl ?_
        refine go_iadd C dL_law_235 ?_
        refine go_sldG C hX hbl hbA h dL_law_236 (fun h => ?_)
        refine go_aload_n C dL_law_237 0 rfl ?_
        refine go_iload_n C dL_law_238 3 rfl ?_
        refine go_iconst (v := 4) C dL_law_239 rfl ?_
        refine go_iadd C dL_law_240 ?_
        refine go_sldG C hX hbl hbA h dL_law_241 (fun h => ?_)
        obtain ⟨r8, k9, h⟩ := tbd_e h
        refine go_callVT (q0 := 28) (wr := u9 G X0 X_brigade0 X_pad0 X_act0 X_fire0 X_routes0 X_posts0 X_trails0 X_feet0 X_images0 () ++ (u0 G X_act0 X_act ++ (u1 G X_brigade0 X_brigade1 X_brigade2 X_brigade3 X_brigade4 X_brigade5 r6.2 ++ (u3 G X_feet0 X_feet1 X_feet ++ (u4 G X_fire0 X_fire_after0 X_fire_act0 X_fire ++ (u0 G X_fire_act0 X_fire_act ++ (u1 G X_fire_after0 X_fire_after1 X_fire_after2 X_fire_after3 X_fire_after4 X_fire_after5 X_fire_after ++ (u5 G X_pad0 X_pad1 X_pad ++ (u6 G X_posts0 X_posts1 X_posts2 X_posts ++ (u7 G X_routes0 X_routes1 X_routes ++ (u8 G X_trails0 X_trails1 X_trails2 X_trails ++ (imC G X_images0 x0 x1 I0 I1)))))))))))) (w' := u9 G X0 X_brigade0 X_pad0 X_act0 X_fire0 X_routes0 X_posts0 X_trails0 X_feet0 X_images0 () ++ (u0 G X_act0 X_act ++ (u1 G X_brigade0 X_brigade1 X_brigade2 X_brigade3 X_brigade4 X_brigade5 r6.2 ++ (u3 G X_feet0 X_feet1 X_feet ++ (u4 G X_fire0 X_fire_after0 X_fire_act0 X_fire ++ (u0 G X_fire_act0 X_fire_act ++ (u1 G X_fire_after0 X_fire_after1 X_fire_after2 X_fire_after3 X_fire_after4 X_fire_after5 X_fire_after ++ (u5 G X_pad0 X_pad1 X_pad ++ (u6 G X_posts0 X_posts1 X_posts2 X_posts ++ (u7 G X_routes0 X_routes1 X_routes ++ (u8 G X_trails0 X_trails1 X_trails2 X_trails ++ (u10 G M0 M1 M2 M3 M4 M5 M6 M7 M8 M9 M10 M11 M12 r8.2 ++ (imC G X_images0 x0 x1 I0 I1))))))))))))) C cfL_21 viL_21 (m10_man_k l G M0 M1 M2 M3 M4 M5 M6 M7 M8 M9 M10 M11 M12 M (xs (Int32.toNatClampNeg (x3 + (1 : Int32)))) (xs (Int32.toNatClampNeg (x3 + (2 : Int32)))) (xs (Int32.toNatClampNeg (x3 + (3 : Int32)))) (xs (Int32.toNatClampNeg (x3 + (4 : Int32)))) r8 k9) dL_law_242 (by decide) ⟨by show cs ≤ 600000; omega, by show sl ≤ 7302250; omega⟩ rfl rfl (Nat.le_of_ble_eq_true rfl) rfl [28, 29, 30, 31, 32, 33, 34, 35, 36, 37, 38, 39, 40] [0, 1, 2, 3, 4, 5, 6, 7, 8, 9, 10, 11, 12, 13, 14, 15, 16, 17, 18, 19, 20, 21, 22, 23, 24, 25, 26, 27, 41] [0, 1, 2, 3, 4, 5, 6, 7, 8, 9, 10, 11, 12, 13, 14, 15, 16, 17, 18, 19, 20, 21, 22, 23, 24, 25, 26, 27, 29, 30, 31, 32, 33, 34, 35, 36, 37, 38, 39, 40, 41, 28] rfl rfl (by decide) rfl ?_
        refine go_icmp_eq (tgt := 843) C h dL_law_245 rfl (fun h => ?_) (fun h => ?_)
        · refine go_iincN (lf := fun v10 => [(3, .int v10), (0, .ref b), (1, .ref X0), (2, .ref M0)]) C h dL_law_843 3 rfl rfl (by decide) (fun _ => rfl) (fun v10 h => ?_)
          refine go_lv (lv' := [(0, .ref b), (1, .ref X0), (2, .ref M0), (3, .int v10)]) [1, 2, 3, 0] rfl ?_
          refine go_goto (tgt := 18) C dL_law_846 rfl ?_
          exact ih v10 X_act r6.2 X_feet X_fire X_fire_act X_fire_after X_pad X_posts X_routes X_trails I0 I1 r8.2 x0 x1 cs sl (by omega) (by omega) h
        · refine go_iconst (v := 0) C dL_law_248 rfl ?_
          exact absurd h (by decide)
      refine go_ite h (fun q h => ?_) (fun q2 h => ?_)
      · refine go_tabIn (off := 218) (tgt := 250) C dL_law_32 q (by decide) (by decide) rfl ?_
        refine go_aload_n C dL_law_250 1 rfl ?_
        refine go_aload_n C dL_law_251 0 rfl ?_
        refine go_iload_n C dL_law_252 3 rfl ?_
        refine go_iconst (v := 1) C dL_law_253 rfl ?_
        refine go_iadd C dL_law_254 ?_
        refine go_sldG C hX hbl hbA h dL_law_255 (fun h => ?_)
        obtain ⟨r11, k12, h⟩ := tbd_e h
        refine go_callVT (q0 := 0) (wr := u0 G X_act0 X_act ++ (u1 G X_brigade0 X_brigade1 X_brigade2 X_brigade3 X_brigade4 X_brigade5 X_brigade ++ (u3 G X_feet0 X_feet1 X_feet ++ (u4 G X_fire0 X_fire_after0 X_fire_act0 X_fire ++ (u0 G X_fire_act0 X_fire_act ++ (u1 G X_fire_after0 X_fire_after1 X_fire_after2 X_fire_after3 X_fire_after4 X_fire_after5 X_fire_after ++ (u6 G X_posts0 X_posts1 X_posts2 X_posts ++ (u7 G X_routes0 X_routes1 X_routes ++ (u8 G X_trails0 X_trails1 X_trails2 X_trails ++ (u10 G M0 M1 M2 M3 M4 M5 M6 M7 M8 M9 M10 M11 M12 M ++ (imC G X_images0 x0 x1 I0 I1))))))))))) (w' := u9 G X0 X_brigade0 X_pad0 X_act0 X_fire0 X_routes0 X_posts0 X_trails0 X_feet0 X_images0 () ++ (u0 G X_act0 X_act ++ (u1 G X_brigade0 X_brigade1 X_brigade2 X_brigade3 X_brigade4 X_brigade5 X_brigade ++ (u3 G X_feet0 X_feet1 X_feet ++ (u4 G X_fire0 X_fire_after0 X_fire_act0 X_fire ++ (u0 G X_fire_act0 X_fire_act ++ (u1 G X_fire_after0 X_fire_after1 X_fire_after2 X_fire_after3 X_fire_after4 X_fire_after5 X_fire_after ++ (u5 G X_pad0 X_pad1 r11.2 ++ (u6 G X_posts0 X_posts1 X_posts2 X_posts ++ (u7 G X_routes0 X_routes1 X_routes ++ (u8 G X_trails0 X_trails1 X_trails2 X_trails ++ (u10 G M0 M1 M2 M3 M4 M5 M6 M7 M8 M9 M10 M11 M12 M ++ (imC G X_images0 x0 x1 I0 I1))))))))))))) C cfL_22 viL_22 (m9_say_k l G X0 X_brigade0 X_pad0 X_act0 X_fire0 X_routes0 X_posts0 X_trails0 X_feet0 X_images0 X_pad1 () X_pad (xs (Int32.toNatClampNeg (x3 + (1 : Int32)))) r11 k12) dL_law_256 (by decide) ⟨by show cs ≤ 600000; omega, by show sl ≤ 7302250; omega⟩ rfl rfl (Nat.le_of_ble_eq_true rfl) rfl [0, 18, 19] [1, 2, 3, 4, 5, 6, 7, 8, 9, 10, 11, 12, 13, 14, 15, 16, 17, 20, 21, 22, 23, 24, 25, 26, 27, 28, 29, 30, 31, 32, 33, 34, 35, 36, 37, 38, 39, 40, 41] [39, 0, 1, 2, 3, 4, 5, 6, 7, 8, 9, 10, 11, 12, 13, 14, 15, 16, 40, 41, 17, 18, 19, 20, 21, 22, 23, 24, 25, 26, 27, 28, 29, 30, 31, 32, 33, 34, 35, 36, 37, 38] rfl rfl (by decide) rfl ?_
        refine go_aload_n C dL_law_259 2 rfl ?_
        refine go_aload_n C dL_law_260 0 rfl ?_
        refine go_iload_n C dL_law_261 3 rfl ?_
        refine go_iconst (v := 1) C dL_law_262 rfl ?_
        refine go_iadd C dL_law_263 ?_
        refine go_sldG C hX hbl hbA h dL_law_264 (fun h => ?_)
        obtain ⟨r13, k14, h⟩ := tbd_e h
        refine go_callVT (q0 := 28) (wr := u9 G X0 X_brigade0 X_pad0 X_act0 X_fire0 X_routes0 X_posts0 X_trails0 X_feet0 X_images0 () ++ (u0 G X_act0 X_act ++ (u1 G X_brigade0 X_brigade1 X_brigade2 X_brigade3 X_brigade4 X_brigade5 X_brigade ++ (u3 G X_feet0 X_feet1 X_feet ++ (u4 G X_fire0 X_fire_after0 X_fire_act0 X_fire ++ (u0 G X_fire_act0 X_fire_act ++ (u1 G X_fire_after0 X_fire_after1 X_fire_after2 X_fire_after3 X_fire_after4 X_fire_after5 X_fire_after ++ (u5 G X_pad0 X_pad1 r11.2 ++ (u6 G X_posts0 X_posts1 X_posts2 X_posts ++ (u7 G X_routes0 X_routes1 X_routes ++ (u8 G X_trails0 X_trails1 X_trails2 X_trails ++ (imC G X_images0 x0 x1 I0 I1)))))))))))) (w' := u9 G X0 X_brigade0 X_pad0 X_act0 X_fire0 X_routes0 X_posts0 X_trails0 X_feet0 X_images0 () ++ (u0 G X_act0 X_act ++ (u1 G X_brigade0 X_brigade1 X_brigade2 X_brigade3 X_brigade4 X_brigade5 X_brigade ++ (u3 G X_feet0 X_feet1 X_feet ++ (u4 G X_fire0 X_fire_after0 X_fire_act0 X_fire ++ (u0 G X_fire_act0 X_fire_act ++ (u1 G X_fire_after0 X_fire_after1 X_fire_after2 X_fire_after3 X_fire_after4 X_fire_after5 X_fire_after ++ (u5 G X_pad0 X_pad1 r11.2 ++ (u6 G X_posts0 X_posts1 X_posts2 X_posts ++ (u7 G X_routes0 X_routes1 X_routes ++ (u8 G X_trails0 X_trails1 X_trails2 X_trails ++ (u10 G M0 M1 M2 M3 M4 M5 M6 M7 M8 M9 M10 M11 M12 r13.2 ++ (imC G X_images0 x0 x1 I0 I1))))))))))))) C cfL_26 viL_26 (m10_say_k l G M0 M1 M2 M3 M4 M5 M6 M7 M8 M9 M10 M11 M12 M (xs (Int32.toNatClampNeg (x3 + (1 : Int32)))) r13 k14) dL_law_265 (by decide) ⟨by show cs ≤ 600000; omega, by show sl ≤ 7302250; omega⟩ rfl rfl (Nat.le_of_ble_eq_true rfl) rfl [28, 29, 30, 31, 32, 33, 34, 35, 36, 37, 38, 39, 40] [0, 1, 2, 3, 4, 5, 6, 7, 8, 9, 10, 11, 12, 13, 14, 15, 16, 17, 18, 19, 20, 21, 22, 23, 24, 25, 26, 27, 41] [0, 1, 2, 3, 4, 5, 6, 7, 8, 9, 10, 11, 12, 13, 14, 15, 16, 17, 18, 19, 20, 21, 22, 23, 24, 25, 26, 27, 29, 30, 31, 32, 33, 34, 35, 36, 37, 38, 39, 40, 41, 28] rfl rfl (by decide) rfl ?_
        refine go_icmp_eq (tgt := 843) C h dL_law_268 rfl (fun h => ?_) (fun h => ?_)
        · refine go_iincN (lf := fun v15 => [(3, .int v15), (0, .ref b), (1, .ref X0), (2, .ref M0)]) C h dL_law_843 3 rfl rfl (by decide) (fun _ => rfl) (fun v15 h => ?_)
          refine go_lv (lv' := [(0, .ref b), (1, .ref X0), (2, .ref M0), (3, .int v15)]) [1, 2, 3, 0] rfl ?_
          refine go_goto (tgt := 18) C dL_law_846 rfl ?_
          exact ih v15 X_act X_brigade X_feet X_fire X_fire_act X_fire_after r11.2 X_posts X_routes X_trails I0 I1 r13.2 x0 x1 cs sl (by omega) (by omega) h
        · refine go_iconst (v := 0) C dL_law_271 rfl ?_
          exact absurd h (by decide)
      refine go_ite h (fun q h => ?_) (fun q3 h => ?_)
      · refine go_tabIn (off := 241) (tgt := 273) C dL_law_32 q (by decide) (by decide) rfl ?_
        refine go_aload_n C dL_law_273 1 rfl ?_
        obtain ⟨r16, k17, h⟩ := tbd_e h
        refine go_callVT (q0 := 0) (wr := u0 G X_act0 X_act ++ (u1 G X_brigade0 X_brigade1 X_brigade2 X_brigade3 X_brigade4 X_brigade5 X_brigade ++ (u3 G X_feet0 X_feet1 X_feet ++ (u4 G X_fire0 X_fire_after0 X_fire_act0 X_fire ++ (u0 G X_fire_act0 X_fire_act ++ (u1 G X_fire_after0 X_fire_after1 X_fire_after2 X_fire_after3 X_fire_after4 X_fire_after5 X_fire_after ++ (u6 G X_posts0 X_posts1 X_posts2 X_posts ++ (u7 G X_routes0 X_routes1 X_routes ++ (u8 G X_trails0 X_trails1 X_trails2 X_trails ++ (u10 G M0 M1 M2 M3 M4 M5 M6 M7 M8 M9 M10 M11 M12 M ++ (imC G X_images0 x0 x1 I0 I1))))))))))) (w' := u9 G X0 X_brigade0 X_pad0 X_act0 X_fire0 X_routes0 X_posts0 X_trails0 X_feet0 X_images0 () ++ (u0 G X_act0 X_act ++ (u1 G X_brigade0 X_brigade1 X_brigade2 X_brigade3 X_brigade4 X_brigade5 X_brigade ++ (u3 G X_feet0 X_feet1 X_feet ++ (u4 G X_fire0 X_fire_after0 X_fire_act0 X_fire ++ (u0 G X_fire_act0 X_fire_act ++ (u1 G X_fire_after0 X_fire_after1 X_fire_after2 X_fire_after3 X_fire_after4 X_fire_after5 X_fire_after ++ (u5 G X_pad0 X_pad1 r16.2 ++ (u6 G X_posts0 X_posts1 X_posts2 X_posts ++ (u7 G X_routes0 X_routes1 X_routes ++ (u8 G X_trails0 X_trails1 X_trails2 X_trails ++ (u10 G M0 M1 M2 M3 M4 M5 M6 M7 M8 M9 M10 M11 M12 M ++ (imC G X_images0 x0 x1 I0 I1))))))))))))) C cfL_27 viL_27 (m9_wipe_k l G X0 X_brigade0 X_pad0 X_act0 X_fire0 X_routes0 X_posts0 X_trails0 X_feet0 X_images0 X_pad1 () X_pad r16 k17) dL_law_274 (by decide) ⟨by show cs ≤ 600000; omega, by show sl ≤ 7302250; omega⟩ rfl rfl (Nat.le_of_ble_eq_true rfl) rfl [0, 18, 19] [1, 2, 3, 4, 5, 6, 7, 8, 9, 10, 11, 12, 13, 14, 15, 16, 17, 20, 21, 22, 23, 24, 25, 26, 27, 28, 29, 30, 31, 32, 33, 34, 35, 36, 37, 38, 39, 40, 41] [39, 0, 1, 2, 3, 4, 5, 6, 7, 8, 9, 10, 11, 12, 13, 14, 15, 16, 40, 41, 17, 18, 19, 20, 21, 22, 23, 24, 25, 26, 27, 28, 29, 30, 31, 32, 33, 34, 35, 36, 37, 38] rfl rfl (by decide) rfl ?_
        refine go_aload_n C dL_law_277 2 rfl ?_
        obtain ⟨r18, k19, h⟩ := tbd_e h
        refine go_callVT (q0 := 28) (wr := u9 G X0 X_brigade0 X_pad0 X_act0 X_fire0 X_routes0 X_posts0 X_trails0 X_feet0 X_images0 () ++ (u0 G X_act0 X_act ++ (u1 G X_brigade0 X_brigade1 X_brigade2 X_brigade3 X_brigade4 X_brigade5 X_brigade ++ (u3 G X_feet0 X_feet1 X_feet ++ (u4 G X_fire0 X_fire_after0 X_fire_act0 X_fire ++ (u0 G X_fire_act0 X_fire_act ++ (u1 G X_fire_after0 X_fire_after1 X_fire_after2 X_fire_after3 X_fire_after4 X_fire_after5 X_fire_after ++ (u5 G X_pad0 X_pad1 r16.2 ++ (u6 G X_posts0 X_posts1 X_posts2 X_posts ++ (u7 G X_routes0 X_routes1 X_routes ++ (u8 G X_trails0 X_trails1 X_trails2 X_trails ++ (imC G X_images0 x0 x1 I0 I1)))))))))))) (w' := u9 G X0 X_brigade0 X_pad0 X_act0 X_fire0 X_routes0 X_posts0 X_trails0 X_feet0 X_images0 () ++ (u0 G X_act0 X_act ++ (u1 G X_brigade0 X_brigade1 X_brigade2 X_brigade3 X_brigade4 X_brigade5 X_brigade ++ (u3 G X_feet0 X_feet1 X_feet ++ (u4 G X_fire0 X_fire_after0 X_fire_act0 X_fire ++ (u0 G X_fire_act0 X_fire_act ++ (u1 G X_fire_after0 X_fire_after1 X_fire_after2 X_fire_after3 X_fire_after4 X_fire_after5 X_fire_after ++ (u5 G X_pad0 X_pad1 r16.2 ++ (u6 G X_posts0 X_posts1 X_posts2 X_posts ++ (u7 G X_routes0 X_routes1 X_routes ++ (u8 G X_trails0 X_trails1 X_trails2 X_trails ++ (u10 G M0 M1 M2 M3 M4 M5 M6 M7 M8 M9 M10 M11 M12 r18.2 ++ (imC G X_images0 x0 x1 I0 I1))))))))))))) C cfL_31 viL_31 (m10_wipe_k l G M0 M1 M2 M3 M4 M5 M6 M7 M8 M9 M10 M11 M12 M r18 k19) dL_law_278 (by decide) ⟨by show cs ≤ 600000; omega, by show sl ≤ 7302250; omega⟩ rfl rfl (Nat.le_of_ble_eq_true rfl) rfl [28, 29, 30, 31, 32, 33, 34, 35, 36, 37, 38, 39, 40] [0, 1, 2, 3, 4, 5, 6, 7, 8, 9, 10, 11, 12, 13, 14, 15, 16, 17, 18, 19, 20, 21, 22, 23, 24, 25, 26, 27, 41] [0, 1, 2, 3, 4, 5, 6, 7, 8, 9, 10, 11, 12, 13, 14, 15, 16, 17, 18, 19, 20, 21, 22, 23, 24, 25, 26, 27, 29, 30, 31, 32, 33, 34, 35, 36, 37, 38, 39, 40, 41, 28] rfl rfl (by decide) rfl ?_
        refine go_icmp_eq (tgt := 843) C h dL_law_281 rfl (fun h => ?_) (fun h => ?_)
        · refine go_iincN (lf := fun v20 => [(3, .int v20), (0, .ref b), (1, .ref X0), (2, .ref M0)]) C h dL_law_843 3 rfl rfl (by decide) (fun _ => rfl) (fun v20 h => ?_)
          refine go_lv (lv' := [(0, .ref b), (1, .ref X0), (2, .ref M0), (3, .int v20)]) [1, 2, 3, 0] rfl ?_
          refine go_goto (tgt := 18) C dL_law_846 rfl ?_
          exact ih v20 X_act X_brigade X_feet X_fire X_fire_act X_fire_after r16.2 X_posts X_routes X_trails I0 I1 r18.2 x0 x1 cs sl (by omega) (by omega) h
        · refine go_iconst (v := 0) C dL_law_284 rfl ?_
          exact absurd h (by decide)
      refine go_ite h (fun q h => ?_) (fun q4 h => ?_)
      · refine go_tabIn (off := 254) (tgt := 286) C dL_law_32 q (by decide) (by decide) rfl ?_
        refine go_aload_n C dL_law_286 1 rfl ?_
        obtain ⟨r21, k22, h⟩ := tbd_e h
        refine go_callVT (q0 := 0) (wr := u0 G X_act0 X_act ++ (u1 G X_brigade0 X_brigade1 X_brigade2 X_brigade3 X_brigade4 X_brigade5 X_brigade ++ (u3 G X_feet0 X_feet1 X_feet ++ (u4 G X_fire0 X_fire_after0 X_fire_act0 X_fire ++ (u0 G X_fire_act0 X_fire_act ++ (u1 G X_fire_after0 X_fire_after1 X_fire_after2 X_fire_after3 X_fire_after4 X_fire_after5 X_fire_after ++ (u6 G X_posts0 X_posts1 X_posts2 X_posts ++ (u7 G X_routes0 X_routes1 X_routes ++ (u8 G X_trails0 X_trails1 X_trails2 X_trails ++ (u10 G M0 M1 M2 M3 M4 M5 M6 M7 M8 M9 M10 M11 M12 M ++ (imC G X_images0 x0 x1 I0 I1))))))))))) (w' := u9 G X0 X_brigade0 X_pad0 X_act0 X_fire0 X_routes0 X_posts0 X_trails0 X_feet0 X_images0 () ++ (u0 G X_act0 X_act ++ (u1 G X_brigade0 X_brigade1 X_brigade2 X_brigade3 X_brigade4 X_brigade5 X_brigade ++ (u3 G X_feet0 X_feet1 X_feet ++ (u4 G X_fire0 X_fire_after0 X_fire_act0 X_fire ++ (u0 G X_fire_act0 X_fire_act ++ (u1 G X_fire_after0 X_fire_after1 X_fire_after2 X_fire_after3 X_fire_after4 X_fire_after5 X_fire_after ++ (u5 G X_pad0 X_pad1 X_pad ++ (u6 G X_posts0 X_posts1 X_posts2 X_posts ++ (u7 G X_routes0 X_routes1 X_routes ++ (u8 G X_trails0 X_trails1 X_trails2 X_trails ++ (u10 G M0 M1 M2 M3 M4 M5 M6 M7 M8 M9 M10 M11 M12 M ++ (imC G X_images0 x0 x1 I0 I1))))))))))))) C cfL_32 viL_32 (m9_fault_k l G X0 X_brigade0 X_pad0 X_act0 X_fire0 X_routes0 X_posts0 X_trails0 X_feet0 X_images0 X_pad1 () X_pad r21 k22) dL_law_287 (by decide) ⟨by show cs ≤ 600000; omega, by show sl ≤ 7302250; omega⟩ rfl rfl (Nat.le_of_ble_eq_true rfl) rfl [0, 18, 19] [1, 2, 3, 4, 5, 6, 7, 8, 9, 10, 11, 12, 13, 14, 15, 16, 17, 20, 21, 22, 23, 24, 25, 26, 27, 28, 29, 30, 31, 32, 33, 34, 35, 36, 37, 38, 39, 40, 41] [39, 0, 1, 2, 3, 4, 5, 6, 7, 8, 9, 10, 11, 12, 13, 14, 15, 16, 40, 41, 17, 18, 19, 20, 21, 22, 23, 24, 25, 26, 27, 28, 29, 30, 31, 32, 33, 34, 35, 36, 37, 38] rfl rfl (by decide) rfl ?_
        refine go_aload_n C dL_law_290 2 rfl ?_
        obtain ⟨r23, k24, h⟩ := tbd_e h
        refine go_callVT (q0 := 28) (wr := u9 G X0 X_brigade0 X_pad0 X_act0 X_fire0 X_routes0 X_posts0 X_trails0 X_feet0 X_images0 () ++ (u0 G X_act0 X_act ++ (u1 G X_brigade0 X_brigade1 X_brigade2 X_brigade3 X_brigade4 X_brigade5 X_brigade ++ (u3 G X_feet0 X_feet1 X_feet ++ (u4 G X_fire0 X_fire_after0 X_fire_act0 X_fire ++ (u0 G X_fire_act0 X_fire_act ++ (u1 G X_fire_after0 X_fire_after1 X_fire_after2 X_fire_after3 X_fire_after4 X_fire_after5 X_fire_after ++ (u5 G X_pad0 X_pad1 X_pad ++ (u6 G X_posts0 X_posts1 X_posts2 X_posts ++ (u7 G X_routes0 X_routes1 X_routes ++ (u8 G X_trails0 X_trails1 X_trails2 X_trails ++ (imC G X_images0 x0 x1 I0 I1)))))))))))) (w' := u9 G X0 X_brigade0 X_pad0 X_act0 X_fire0 X_routes0 X_posts0 X_trails0 X_feet0 X_images0 () ++ (u0 G X_act0 X_act ++ (u1 G X_brigade0 X_brigade1 X_brigade2 X_brigade3 X_brigade4 X_brigade5 X_brigade ++ (u3 G X_feet0 X_feet1 X_feet ++ (u4 G X_fire0 X_fire_after0 X_fire_act0 X_fire ++ (u0 G X_fire_act0 X_fire_act ++ (u1 G X_fire_after0 X_fire_after1 X_fire_after2 X_fire_after3 X_fire_after4 X_fire_after5 X_fire_after ++ (u5 G X_pad0 X_pad1 X_pad ++ (u6 G X_posts0 X_posts1 X_posts2 X_posts ++ (u7 G X_routes0 X_routes1 X_routes ++ (u8 G X_trails0 X_trails1 X_trails2 X_trails ++ (u10 G M0 M1 M2 M3 M4 M5 M6 M7 M8 M9 M10 M11 M12 M ++ (imC G X_images0 x0 x1 I0 I1))))))))))))) C cfL_35 viL_35 (m10_fault_k l G M0 M1 M2 M3 M4 M5 M6 M7 M8 M9 M10 M11 M12 M r23 k24) dL_law_291 (by decide) ⟨by show cs ≤ 600000; omega, by show sl ≤ 7302250; omega⟩ rfl rfl (Nat.le_of_ble_eq_true rfl) rfl [28, 29, 30, 31, 32, 33, 34, 35, 36, 37, 38, 39, 40] [0, 1, 2, 3, 4, 5, 6, 7, 8, 9, 10, 11, 12, 13, 14, 15, 16, 17, 18, 19, 20, 21, 22, 23, 24, 25, 26, 27, 41] [0, 1, 2, 3, 4, 5, 6, 7, 8, 9, 10, 11, 12, 13, 14, 15, 16, 17, 18, 19, 20, 21, 22, 23, 24, 25, 26, 27, 29, 30, 31, 32, 33, 34, 35, 36, 37, 38, 39, 40, 41, 28] rfl rfl (by decide) rfl ?_
        refine go_icmp_eq (tgt := 843) C h dL_law_294 rfl (fun h => ?_) (fun h => ?_)
        · refine go_iincN (lf := fun v25 => [(3, .int v25), (0, .ref b), (1, .ref X0), (2, .ref M0)]) C h dL_law_843 3 rfl rfl (by decide) (fun _ => rfl) (fun v25 h => ?_)
          refine go_lv (lv' := [(0, .ref b), (1, .ref X0), (2, .ref M0), (3, .int v25)]) [1, 2, 3, 0] rfl ?_
          refine go_goto (tgt := 18) C dL_law_846 rfl ?_
          exact ih v25 X_act X_brigade X_feet X_fire X_fire_act X_fire_after X_pad X_posts X_routes X_trails I0 I1 M x0 x1 cs sl (by omega) (by omega) h
        · refine go_iconst (v := 0) C dL_law_297 rfl ?_
          exact absurd h (by decide)
      refine go_ite h (fun q h => ?_) (fun q5 h => ?_)
      · refine go_tabIn (off := 267) (tgt := 299) C dL_law_32 q (by decide) (by decide) rfl ?_
        refine go_aload_n C dL_law_299 1 rfl ?_
        refine go_aload_n C dL_law_300 0 rfl ?_
        refine go_iload_n C dL_law_301 3 rfl ?_
        refine go_iconst (v := 1) C dL_law_302 rfl ?_
        refine go_iadd C dL_law_303 ?_
        refine go_sldG C hX hbl hbA h dL_law_304 (fun h => ?_)
        obtain ⟨r26, k27, h⟩ := tbd_e h
        refine go_callVT (q0 := 0) (wr := u0 G X_act0 X_act ++ (u3 G X_feet0 X_feet1 X_feet ++ (u6 G X_posts0 X_posts1 X_posts2 X_posts ++ (u7 G X_routes0 X_routes1 X_routes ++ (u8 G X_trails0 X_trails1 X_trails2 X_trails ++ (u10 G M0 M1 M2 M3 M4 M5 M6 M7 M8 M9 M10 M11 M12 M ++ (imC G X_images0 x0 x1 I0 I1))))))) (w' := u9 G X0 X_brigade0 X_pad0 X_act0 X_fire0 X_routes0 X_posts0 X_trails0 X_feet0 X_images0 () ++ (u0 G X_act0 X_act ++ (u1 G X_brigade0 X_brigade1 X_brigade2 X_brigade3 X_brigade4 X_brigade5 X_brigade ++ (u3 G X_feet0 X_feet1 X_feet ++ (u4 G X_fire0 X_fire_after0 X_fire_act0 r26.2.1 ++ (u0 G X_fire_act0 r26.2.2.1 ++ (u1 G X_fire_after0 X_fire_after1 X_fire_after2 X_fire_after3 X_fire_after4 X_fire_after5 r26.2.2.2 ++ (u5 G X_pad0 X_pad1 X_pad ++ (u6 G X_posts0 X_posts1 X_posts2 X_posts ++ (u7 G X_routes0 X_routes1 X_routes ++ (u8 G X_trails0 X_trails1 X_trails2 X_trails ++ (u10 G M0 M1 M2 M3 M4 M5 M6 M7 M8 M9 M10 M11 M12 M ++ (imC G X_images0 x0 x1 I0 I1))))))))))))) C cfL_36 viL_36 (m9_judge_k l G X0 X_brigade0 X_pad0 X_act0 X_fire0 X_routes0 X_posts0 X_trails0 X_feet0 X_images0 X_brigade1 X_brigade2 X_brigade3 X_brigade4 X_brigade5 X_fire_after0 X_fire_act0 X_fire_after1 X_fire_after2 X_fire_after3 X_fire_after4 X_fire_after5 X_pad1 () X_brigade X_fire X_fire_act X_fire_after X_pad (xs (Int32.toNatClampNeg (x3 + (1 : Int32)))) r26 k27) dL_law_305 (by decide) ⟨by show cs ≤ 600000; omega, by show sl ≤ 7302250; omega⟩ rfl rfl (Nat.le_of_ble_eq_true rfl) rfl [0, 2, 3, 4, 5, 6, 7, 10, 11, 12, 13, 14, 15, 16, 17, 18, 19] [1, 8, 9, 20, 21, 22, 23, 24, 25, 26, 27, 28, 29, 30, 31, 32, 33, 34, 35, 36, 37, 38, 39, 40, 41] [25, 0, 26, 27, 28, 29, 30, 31, 1, 2, 32, 33, 34, 35, 36, 37, 38, 39, 40, 41, 3, 4, 5, 6, 7, 8, 9, 10, 11, 12, 13, 14, 15, 16, 17, 18, 19, 20, 21, 22, 23, 24] rfl rfl (by decide) rfl ?_
        refine go_aload_n C dL_law_308 2 rfl ?_
        refine go_aload_n C dL_law_309 0 rfl ?_
        refine go_iload_n C dL_law_310 3 rfl ?_
        refine go_iconst (v := 1) C dL_law_311 rfl ?_
        refine go_iadd C dL_law_312 ?_
        refine go_sldG C hX hbl hbA h dL_law_313 (fun h => ?_)
        obtain ⟨r28, k29, h⟩ := tbd_e h
        refine go_callVT (q0 := 28) (wr := u9 G X0 X_brigade0 X_pad0 X_act0 X_fire0 X_routes0 X_posts0 X_trails0 X_feet0 X_images0 () ++ (u0 G X_act0 X_act ++ (u1 G X_brigade0 X_brigade1 X_brigade2 X_brigade3 X_brigade4 X_brigade5 X_brigade ++ (u3 G X_feet0 X_feet1 X_feet ++ (u4 G X_fire0 X_fire_after0 X_fire_act0 r26.2.1 ++ (u0 G X_fire_act0 r26.2.2.1 ++ (u1 G X_fire_after0 X_fire_after1 X_fire_after2 X_fire_after3 X_fire_after4 X_fire_after5 r26.2.2.2 ++ (u5 G X_pad0 X_pad1 X_pad ++ (u6 G X_posts0 X_posts1 X_posts2 X_posts ++ (u7 G X_routes0 X_routes1 X_routes ++ (u8 G X_trails0 X_trails1 X_trails2 X_trails ++ (imC G X_images0 x0 x1 I0 I1)))))))))))) (w' := u9 G X0 X_brigade0 X_pad0 X_act0 X_fire0 X_routes0 X_posts0 X_trails0 X_feet0 X_images0 () ++ (u0 G X_act0 X_act ++ (u1 G X_brigade0 X_brigade1 X_brigade2 X_brigade3 X_brigade4 X_brigade5 X_brigade ++ (u3 G X_feet0 X_feet1 X_feet ++ (u4 G X_fire0 X_fire_after0 X_fire_act0 r26.2.1 ++ (u0 G X_fire_act0 r26.2.2.1 ++ (u1 G X_fire_after0 X_fire_after1 X_fire_after2 X_fire_after3 X_fire_after4 X_fire_after5 r26.2.2.2 ++ (u5 G X_pad0 X_pad1 X_pad ++ (u6 G X_posts0 X_posts1 X_posts2 X_posts ++ (u7 G X_routes0 X_routes1 X_routes ++ (u8 G X_trails0 X_trails1 X_trails2 X_trails ++ (u10 G M0 M1 M2 M3 M4 M5 M6 M7 M8 M9 M10 M11 M12 r28.2 ++ (imC G X_images0 x0 x1 I0 I1))))))))))))) C cfL_39 viL_39 (m10_judge_k l G M0 M1 M2 M3 M4 M5 M6 M7 M8 M9 M10 M11 M12 M (xs (Int32.toNatClampNeg (x3 + (1 : Int32)))) r28 k29) dL_law_314 (by decide) ⟨by show cs ≤ 600000; omega, by show sl ≤ 7302250; omega⟩ rfl rfl (Nat.le_of_ble_eq_true rfl) rfl [28, 29, 30, 31, 32, 33, 34, 35, 36, 37, 38, 39, 40] [0, 1, 2, 3, 4, 5, 6, 7, 8, 9, 10, 11, 12, 13, 14, 15, 16, 17, 18, 19, 20, 21, 22, 23, 24, 25, 26, 27, 41] [0, 1, 2, 3, 4, 5, 6, 7, 8, 9, 10, 11, 12, 13, 14, 15, 16, 17, 18, 19, 20, 21, 22, 23, 24, 25, 26, 27, 29, 30, 31, 32, 33, 34, 35, 36, 37, 38, 39, 40, 41, 28] rfl rfl (by decide) rfl ?_
        refine go_icmp_eq (tgt := 843) C h dL_law_317 rfl (fun h => ?_) (fun h => ?_)
        · refine go_iincN (lf := fun v30 => [(3, .int v30), (0, .ref b), (1, .ref X0), (2, .ref M0)]) C h dL_law_843 3 rfl rfl (by decide) (fun _ => rfl) (fun v30 h => ?_)
          refine go_lv (lv' := [(0, .ref b), (1, .ref X0), (2, .ref M0), (3, .int v30)]) [1, 2, 3, 0] rfl ?_
          refine go_goto (tgt := 18) C dL_law_846 rfl ?_
          exact ih v30 X_act X_brigade X_feet r26.2.1 r26.2.2.1 r26.2.2.2 X_pad X_posts X_routes X_trails I0 I1 r28.2 x0 x1 cs sl (by omega) (by omega) h
        · refine go_iconst (v := 0) C dL_law_320 rfl ?_
          exact absurd h (by decide)
      refine go_ite h (fun q h => ?_) (fun q6 h => ?_)
      · refine go_tabIn (off := 290) (tgt := 322) C dL_law_32 q (by decide) (by decide) rfl ?_
        refine go_aload_n C dL_law_322 1 rfl ?_
        obtain ⟨r31, k32, h⟩ := tbd_e h
        refine go_callVT (q0 := 0) (wr := u0 G X_act0 X_act ++ (u3 G X_feet0 X_feet1 X_feet ++ (u6 G X_posts0 X_posts1 X_posts2 X_posts ++ (u7 G X_routes0 X_routes1 X_routes ++ (u8 G X_trails0 X_trails1 X_trails2 X_trails ++ (u10 G M0 M1 M2 M3 M4 M5 M6 M7 M8 M9 M10 M11 M12 M ++ (imC G X_images0 x0 x1 I0 I1))))))) (w' := u9 G X0 X_brigade0 X_pad0 X_act0 X_fire0 X_routes0 X_posts0 X_trails0 X_feet0 X_images0 () ++ (u0 G X_act0 X_act ++ (u1 G X_brigade0 X_brigade1 X_brigade2 X_brigade3 X_brigade4 X_brigade5 r31.2.1 ++ (u3 G X_feet0 X_feet1 X_feet ++ (u4 G X_fire0 X_fire_after0 X_fire_act0 r31.2.2.1 ++ (u0 G X_fire_act0 r31.2.2.2.1 ++ (u1 G X_fire_after0 X_fire_after1 X_fire_after2 X_fire_after3 X_fire_after4 X_fire_after5 r31.2.2.2.2.1 ++ (u5 G X_pad0 X_pad1 r31.2.2.2.2.2 ++ (u6 G X_posts0 X_posts1 X_posts2 X_posts ++ (u7 G X_routes0 X_routes1 X_routes ++ (u8 G X_trails0 X_trails1 X_trails2 X_trails ++ (u10 G M0 M1 M2 M3 M4 M5 M6 M7 M8 M9 M10 M11 M12 M ++ (imC G X_images0 x0 x1 I0 I1))))))))))))) C cfL_40 viL_40 (m9_done_k l G X0 X_brigade0 X_pad0 X_act0 X_fire0 X_routes0 X_posts0 X_trails0 X_feet0 X_images0 X_brigade1 X_brigade2 X_brigade3 X_brigade4 X_brigade5 X_fire_after0 X_fire_act0 X_fire_after1 X_fire_after2 X_fire_after3 X_fire_after4 X_fire_after5 X_pad1 () X_brigade X_fire X_fire_act X_fire_after X_pad r31 k32) dL_law_323 (by decide) ⟨by show cs ≤ 600000; omega, by show sl ≤ 7302250; omega⟩ rfl rfl (Nat.le_of_ble_eq_true rfl) rfl [0, 2, 3, 4, 5, 6, 7, 10, 11, 12, 13, 14, 15, 16, 17, 18, 19] [1, 8, 9, 20, 21, 22, 23, 24, 25, 26, 27, 28, 29, 30, 31, 32, 33, 34, 35, 36, 37, 38, 39, 40, 41] [25, 0, 26, 27, 28, 29, 30, 31, 1, 2, 32, 33, 34, 35, 36, 37, 38, 39, 40, 41, 3, 4, 5, 6, 7, 8, 9, 10, 11, 12, 13, 14, 15, 16, 17, 18, 19, 20, 21, 22, 23, 24] rfl rfl (by decide) rfl ?_
        refine go_aload_n C dL_law_326 2 rfl ?_
        obtain ⟨r33, k34, h⟩ := tbd_e h
        refine go_callVT (q0 := 28) (wr := u9 G X0 X_brigade0 X_pad0 X_act0 X_fire0 X_routes0 X_posts0 X_trails0 X_feet0 X_images0 () ++ (u0 G X_act0 X_act ++ (u1 G X_brigade0 X_brigade1 X_brigade2 X_brigade3 X_brigade4 X_brigade5 r31.2.1 ++ (u3 G X_feet0 X_feet1 X_feet ++ (u4 G X_fire0 X_fire_after0 X_fire_act0 r31.2.2.1 ++ (u0 G X_fire_act0 r31.2.2.2.1 ++ (u1 G X_fire_after0 X_fire_after1 X_fire_after2 X_fire_after3 X_fire_after4 X_fire_after5 r31.2.2.2.2.1 ++ (u5 G X_pad0 X_pad1 r31.2.2.2.2.2 ++ (u6 G X_posts0 X_posts1 X_posts2 X_posts ++ (u7 G X_routes0 X_routes1 X_routes ++ (u8 G X_trails0 X_trails1 X_trails2 X_trails ++ (imC G X_images0 x0 x1 I0 I1)))))))))))) (w' := u9 G X0 X_brigade0 X_pad0 X_act0 X_fire0 X_routes0 X_posts0 X_trails0 X_feet0 X_images0 () ++ (u0 G X_act0 X_act ++ (u1 G X_brigade0 X_brigade1 X_brigade2 X_brigade3 X_brigade4 X_brigade5 r31.2.1 ++ (u3 G X_feet0 X_feet1 X_feet ++ (u4 G X_fire0 X_fire_after0 X_fire_act0 r31.2.2.1 ++ (u0 G X_fire_act0 r31.2.2.2.1 ++ (u1 G X_fire_after0 X_fire_after1 X_fire_after2 X_fire_after3 X_fire_after4 X_fire_after5 r31.2.2.2.2.1 ++ (u5 G X_pad0 X_pad1 r31.2.2.2.2.2 ++ (u6 G X_posts0 X_posts1 X_posts2 X_posts ++ (u7 G X_routes0 X_routes1 X_routes ++ (u8 G X_trails0 X_trails1 X_trails2 X_trails ++ (u10 G M0 M1 M2 M3 M4 M5 M6 M7 M8 M9 M10 M11 M12 r33.2 ++ (imC G X_images0 x0 x1 I0 I1))))))))))))) C cfL_43 viL_43 (m10_done_k l G M0 M1 M2 M3 M4 M5 M6 M7 M8 M9 M10 M11 M12 M r33 k34) dL_law_327 (by decide) ⟨by show cs ≤ 600000; omega, by show sl ≤ 7302250; omega⟩ rfl rfl (Nat.le_of_ble_eq_true rfl) rfl [28, 29, 30, 31, 32, 33, 34, 35, 36, 37, 38, 39, 40] [0, 1, 2, 3, 4, 5, 6, 7, 8, 9, 10, 11, 12, 13, 14, 15, 16, 17, 18, 19, 20, 21, 22, 23, 24, 25, 26, 27, 41] [0, 1, 2, 3, 4, 5, 6, 7, 8, 9, 10, 11, 12, 13, 14, 15, 16, 17, 18, 19, 20, 21, 22, 23, 24, 25, 26, 27, 29, 30, 31, 32, 33, 34, 35, 36, 37, 38, 39, 40, 41, 28] rfl rfl (by decide) rfl ?_
        refine go_icmp_eq (tgt := 843) C h dL_law_330 rfl (fun h => ?_) (fun h => ?_)
        · refine go_iincN (lf := fun v35 => [(3, .int v35), (0, .ref b), (1, .ref X0), (2, .ref M0)]) C h dL_law_843 3 rfl rfl (by decide) (fun _ => rfl) (fun v35 h => ?_)
          refine go_lv (lv' := [(0, .ref b), (1, .ref X0), (2, .ref M0), (3, .int v35)]) [1, 2, 3, 0] rfl ?_
          refine go_goto (tgt := 18) C dL_law_846 rfl ?_
          exact ih v35 X_act r31.2.1 X_feet r31.2.2.1 r31.2.2.2.1 r31.2.2.2.2.1 r31.2.2.2.2.2 X_posts X_routes X_trails I0 I1 r33.2 x0 x1 cs sl (by omega) (by omega) h
        · refine go_iconst (v := 0) C dL_law_333 rfl ?_
          exact absurd h (by decide)
      refine go_ite h (fun q h => ?_) (fun q7 h => ?_)
      · refine go_tabIn (off := 303) (tgt := 335) C dL_law_32 q (by decide) (by decide) rfl ?_
        refine go_aload_n C dL_law_335 1 rfl ?_
        refine go_aload_n C dL_law_336 0 rfl ?_
        refine go_iload_n C dL_law_337 3 rfl ?_
        refine go_iconst (v := 1) C dL_law_338 rfl ?_
        refine go_iadd C dL_law_339 ?_
        refine go_sldG C hX hbl hbA h dL_law_340 (fun h => ?_)
        refine go_aload_n C dL_law_341 0 rfl ?_
        refine go_iload_n C dL_law_342 3 rfl ?_
        refine go_iconst (v := 2) C dL_law_343 rfl ?_
        refine go_iadd C dL_law_344 ?_
        refine go_sldG C hX hbl hbA h dL_law_345 (fun h => ?_)
        obtain ⟨r36, k37, h⟩ := tbd_e h
        refine go_callVT (q0 := 0) (wr := u0 G X_act0 X_act ++ (u3 G X_feet0 X_feet1 X_feet ++ (u6 G X_posts0 X_posts1 X_posts2 X_posts ++ (u7 G X_routes0 X_routes1 X_routes ++ (u8 G X_trails0 X_trails1 X_trails2 X_trails ++ (u10 G M0 M1 M2 M3 M4 M5 M6 M7 M8 M9 M10 M11 M12 M ++ (imC G X_images0 x0 x1 I0 I1))))))) (w' := u9 G X0 X_brigade0 X_pad0 X_act0 X_fire0 X_routes0 X_posts0 X_trails0 X_feet0 X_images0 () ++ (u0 G X_act0 X_act ++ (u1 G X_brigade0 X_brigade1 X_brigade2 X_brigade3 X_brigade4 X_brigade5 X_brigade ++ (u3 G X_feet0 X_feet1 X_feet ++ (u4 G X_fire0 X_fire_after0 X_fire_act0 r36.2.1 ++ (u0 G X_fire_act0 r36.2.2.1 ++ (u1 G X_fire_after0 X_fire_after1 X_fire_after2 X_fire_after3 X_fire_after4 X_fire_after5 r36.2.2.2 ++ (u5 G X_pad0 X_pad1 X_pad ++ (u6 G X_posts0 X_posts1 X_posts2 X_posts ++ (u7 G X_routes0 X_routes1 X_routes ++ (u8 G X_trails0 X_trails1 X_trails2 X_trails ++ (u10 G M0 M1 M2 M3 M4 M5 M6 M7 M8 M9 M10 M11 M12 M ++ (imC G X_images0 x0 x1 I0 I1))))))))))))) C cfL_44 viL_44 (m9_behind_k l G X0 X_brigade0 X_pad0 X_act0 X_fire0 X_routes0 X_posts0 X_trails0 X_feet0 X_images0 X_brigade1 X_brigade2 X_brigade3 X_brigade4 X_brigade5 X_fire_after0 X_fire_act0 X_fire_after1 X_fire_after2 X_fire_after3 X_fire_after4 X_fire_after5 X_pad1 () X_brigade X_fire X_fire_act X_fire_after X_pad (xs (Int32.toNatClampNeg (x3 + (1 : Int32)))) (xs (Int32.toNatClampNeg (x3 + (2 : Int32)))) r36 k37) dL_law_346 (by decide) ⟨by show cs ≤ 600000; omega, by show sl ≤ 7302250; omega⟩ rfl rfl (Nat.le_of_ble_eq_true rfl) rfl [0, 2, 3, 4, 5, 6, 7, 10, 11, 12, 13, 14, 15, 16, 17, 18, 19] [1, 8, 9, 20, 21, 22, 23, 24, 25, 26, 27, 28, 29, 30, 31, 32, 33, 34, 35, 36, 37, 38, 39, 40, 41] [25, 0, 26, 27, 28, 29, 30, 31, 1, 2, 32, 33, 34, 35, 36, 37, 38, 39, 40, 41, 3, 4, 5, 6, 7, 8, 9, 10, 11, 12, 13, 14, 15, 16, 17, 18, 19, 20, 21, 22, 23, 24] rfl rfl (by decide) rfl ?_
        refine go_aload_n C dL_law_349 2 rfl ?_
        refine go_aload_n C dL_law_350 0 rfl ?_
        refine go_iload_n C dL_law_351 3 rfl ?_
        refine go_iconst (v := 1) C dL_law_352 rfl ?_
        refine go_iadd C dL_law_353 ?_
        refine go_sldG C hX hbl hbA h dL_law_354 (fun h => ?_)
        refine go_aload_n C dL_law_355 0 rfl ?_
        refine go_iload_n C dL_law_356 3 rfl ?_
        refine go_iconst (v := 2) C dL_law_357 rfl ?_
        refine go_iadd C dL_law_358 ?_
        refine go_sldG C hX hbl hbA h dL_law_359 (fun h => ?_)
        obtain ⟨r38, k39, h⟩ := tbd_e h
        refine go_callVT (q0 := 28) (wr := u9 G X0 X_brigade0 X_pad0 X_act0 X_fire0 X_routes0 X_posts0 X_trails0 X_feet0 X_images0 () ++ (u0 G X_act0 X_act ++ (u1 G X_brigade0 X_brigade1 X_brigade2 X_brigade3 X_brigade4 X_brigade5 X_brigade ++ (u3 G X_feet0 X_feet1 X_feet ++ (u4 G X_fire0 X_fire_after0 X_fire_act0 r36.2.1 ++ (u0 G X_fire_act0 r36.2.2.1 ++ (u1 G X_fire_after0 X_fire_after1 X_fire_after2 X_fire_after3 X_fire_after4 X_fire_after5 r36.2.2.2 ++ (u5 G X_pad0 X_pad1 X_pad ++ (u6 G X_posts0 X_posts1 X_posts2 X_posts ++ (u7 G X_routes0 X_routes1 X_routes ++ (u8 G X_trails0 X_trails1 X_trails2 X_trails ++ (imC G X_images0 x0 x1 I0 I1)))))))))))) (w' := u9 G X0 X_brigade0 X_pad0 X_act0 X_fire0 X_routes0 X_posts0 X_trails0 X_feet0 X_images0 () ++ (u0 G X_act0 X_act ++ (u1 G X_brigade0 X_brigade1 X_brigade2 X_brigade3 X_brigade4 X_brigade5 X_brigade ++ (u3 G X_feet0 X_feet1 X_feet ++ (u4 G X_fire0 X_fire_after0 X_fire_act0 r36.2.1 ++ (u0 G X_fire_act0 r36.2.2.1 ++ (u1 G X_fire_after0 X_fire_after1 X_fire_after2 X_fire_after3 X_fire_after4 X_fire_after5 r36.2.2.2 ++ (u5 G X_pad0 X_pad1 X_pad ++ (u6 G X_posts0 X_posts1 X_posts2 X_posts ++ (u7 G X_routes0 X_routes1 X_routes ++ (u8 G X_trails0 X_trails1 X_trails2 X_trails ++ (u10 G M0 M1 M2 M3 M4 M5 M6 M7 M8 M9 M10 M11 M12 r38.2 ++ (imC G X_images0 x0 x1 I0 I1))))))))))))) C cfL_48 viL_48 (m10_behind_k l G M0 M1 M2 M3 M4 M5 M6 M7 M8 M9 M10 M11 M12 M (xs (Int32.toNatClampNeg (x3 + (1 : Int32)))) (xs (Int32.toNatClampNeg (x3 + (2 : Int32)))) r38 k39) dL_law_360 (by decide) ⟨by show cs ≤ 600000; omega, by show sl ≤ 7302250; omega⟩ rfl rfl (Nat.le_of_ble_eq_true rfl) rfl [28, 29, 30, 31, 32, 33, 34, 35, 36, 37, 38, 39, 40] [0, 1, 2, 3, 4, 5, 6, 7, 8, 9, 10, 11, 12, 13, 14, 15, 16, 17, 18, 19, 20, 21, 22, 23, 24, 25, 26, 27, 41] [0, 1, 2, 3, 4, 5, 6, 7, 8, 9, 10, 11, 12, 13, 14, 15, 16, 17, 18, 19, 20, 21, 22, 23, 24, 25, 26, 27, 29, 30, 31, 32, 33, 34, 35, 36, 37, 38, 39, 40, 41, 28] rfl rfl (by decide) rfl ?_
        refine go_icmp_eq (tgt := 843) C h dL_law_363 rfl (fun h => ?_) (fun h => ?_)
        · refine go_iincN (lf := fun v40 => [(3, .int v40), (0, .ref b), (1, .ref X0), (2, .ref M0)]) C h dL_law_843 3 rfl rfl (by decide) (fun _ => rfl) (fun v40 h => ?_)
          refine go_lv (lv' := [(0, .ref b), (1, .ref X0), (2, .ref M0), (3, .int v40)]) [1, 2, 3, 0] rfl ?_
          refine go_goto (tgt := 18) C dL_law_846 rfl ?_
          exact ih v40 X_act X_brigade X_feet r36.2.1 r36.2.2.1 r36.2.2.2 X_pad X_posts X_routes X_trails I0 I1 r38.2 x0 x1 cs sl (by omega) (by omega) h
        · refine go_iconst (v := 0) C dL_law_366 rfl ?_
          exact absurd h (by decide)
      refine go_ite h (fun q h => ?_) (fun q8 h => ?_)
      · refine go_tabIn (off := 336) (tgt := 368) C dL_law_32 q (by decide) (by decide) rfl ?_
        refine go_aload_n C dL_law_368 1 rfl ?_
        refine go_aload_n C dL_law_369 0 rfl ?_
        refine go_iload_n C dL_law_370 3 rfl ?_
        refine go_iconst (v := 1) C dL_law_371 rfl ?_
        refine go_iadd C dL_law_372 ?_
        refine go_sldG C hX hbl hbA h dL_law_373 (fun h => ?_)
        refine go_aload_n C dL_law_374 0 rfl ?_
        refine go_iload_n C dL_law_375 3 rfl ?_
        refine go_iconst (v := 2) C dL_law_376 rfl ?_
        refine go_iadd C dL_law_377 ?_
        refine go_sldG C hX hbl hbA h dL_law_378 (fun h => ?_)
        obtain ⟨r41, k42, h⟩ := tbd_e h
        refine go_callVT (q0 := 0) (wr := u0 G X_act0 X_act ++ (u3 G X_feet0 X_feet1 X_feet ++ (u6 G X_posts0 X_posts1 X_posts2 X_posts ++ (u7 G X_routes0 X_routes1 X_routes ++ (u8 G X_trails0 X_trails1 X_trails2 X_trails ++ (u10 G M0 M1 M2 M3 M4 M5 M6 M7 M8 M9 M10 M11 M12 M ++ (imC G X_images0 x0 x1 I0 I1))))))) (w' := u9 G X0 X_brigade0 X_pad0 X_act0 X_fire0 X_routes0 X_posts0 X_trails0 X_feet0 X_images0 () ++ (u0 G X_act0 X_act ++ (u1 G X_brigade0 X_brigade1 X_brigade2 X_brigade3 X_brigade4 X_brigade5 X_brigade ++ (u3 G X_feet0 X_feet1 X_feet ++ (u4 G X_fire0 X_fire_after0 X_fire_act0 r41.2.1 ++ (u0 G X_fire_act0 r41.2.2.1 ++ (u1 G X_fire_after0 X_fire_after1 X_fire_after2 X_fire_after3 X_fire_after4 X_fire_after5 r41.2.2.2 ++ (u5 G X_pad0 X_pad1 X_pad ++ (u6 G X_posts0 X_posts1 X_posts2 X_posts ++ (u7 G X_routes0 X_routes1 X_routes ++ (u8 G X_trails0 X_trails1 X_trails2 X_trails ++ (u10 G M0 M1 M2 M3 M4 M5 M6 M7 M8 M9 M10 M11 M12 M ++ (imC G X_images0 x0 x1 I0 I1))))))))))))) C cfL_49 viL_49 (m9_bears_k l G X0 X_brigade0 X_pad0 X_act0 X_fire0 X_routes0 X_posts0 X_trails0 X_feet0 X_images0 X_brigade1 X_brigade2 X_brigade3 X_brigade4 X_brigade5 X_fire_after0 X_fire_act0 X_fire_after1 X_fire_after2 X_fire_after3 X_fire_after4 X_fire_after5 X_pad1 () X_brigade X_fire X_fire_act X_fire_after X_pad (xs (Int32.toNatClampNeg (x3 + (1 : Int32)))) (xs (Int32.toNatClampNeg (x3 + (2 : Int32)))) r41 k42) dL_law_379 (by decide) ⟨by show cs ≤ 600000; omega, by show sl ≤ 7302250; omega⟩ rfl rfl (Nat.le_of_ble_eq_true rfl) rfl [0, 2, 3, 4, 5, 6, 7, 10, 11, 12, 13, 14, 15, 16, 17, 18, 19] [1, 8, 9, 20, 21, 22, 23, 24, 25, 26, 27, 28, 29, 30, 31, 32, 33, 34, 35, 36, 37, 38, 39, 40, 41] [25, 0, 26, 27, 28, 29, 30, 31, 1, 2, 32, 33, 34, 35, 36, 37, 38, 39, 40, 41, 3, 4, 5, 6, 7, 8, 9, 10, 11, 12, 13, 14, 15, 16, 17, 18, 19, 20, 21, 22, 23, 24] rfl rfl (by decide) rfl ?_
        refine go_aload_n C dL_law_382 2 rfl ?_
        refine go_aload_n C dL_law_383 0 rfl ?_
        refine go_iload_n C dL_law_384 3 rfl ?_
        refine go_iconst (v := 1) C dL_law_385 rfl ?_
        refine go_iadd C dL_law_386 ?_
        refine go_sldG C hX hbl hbA h dL_law_387 (fun h => ?_)
        refine go_aload_n C dL_law_388 0 rfl ?_
        refine go_iload_n C dL_law_389 3 rfl ?_
        refine go_iconst (v := 2) C dL_law_390 rfl ?_
        refine go_iadd C dL_law_391 ?_
        refine go_sldG C hX hbl hbA h dL_law_392 (fun h => ?_)
        obtain ⟨r43, k44, h⟩ := tbd_e h
        refine go_callVT (q0 := 28) (wr := u9 G X0 X_brigade0 X_pad0 X_act0 X_fire0 X_routes0 X_posts0 X_trails0 X_feet0 X_images0 () ++ (u0 G X_act0 X_act ++ (u1 G X_brigade0 X_brigade1 X_brigade2 X_brigade3 X_brigade4 X_brigade5 X_brigade ++ (u3 G X_feet0 X_feet1 X_feet ++ (u4 G X_fire0 X_fire_after0 X_fire_act0 r41.2.1 ++ (u0 G X_fire_act0 r41.2.2.1 ++ (u1 G X_fire_after0 X_fire_after1 X_fire_after2 X_fire_after3 X_fire_after4 X_fire_after5 r41.2.2.2 ++ (u5 G X_pad0 X_pad1 X_pad ++ (u6 G X_posts0 X_posts1 X_posts2 X_posts ++ (u7 G X_routes0 X_routes1 X_routes ++ (u8 G X_trails0 X_trails1 X_trails2 X_trails ++ (imC G X_images0 x0 x1 I0 I1)))))))))))) (w' := u9 G X0 X_brigade0 X_pad0 X_act0 X_fire0 X_routes0 X_posts0 X_trails0 X_feet0 X_images0 () ++ (u0 G X_act0 X_act ++ (u1 G X_brigade0 X_brigade1 X_brigade2 X_brigade3 X_brigade4 X_brigade5 X_brigade ++ (u3 G X_feet0 X_feet1 X_feet ++ (u4 G X_fire0 X_fire_after0 X_fire_act0 r41.2.1 ++ (u0 G X_fire_act0 r41.2.2.1 ++ (u1 G X_fire_after0 X_fire_after1 X_fire_after2 X_fire_after3 X_fire_after4 X_fire_after5 r41.2.2.2 ++ (u5 G X_pad0 X_pad1 X_pad ++ (u6 G X_posts0 X_posts1 X_posts2 X_posts ++ (u7 G X_routes0 X_routes1 X_routes ++ (u8 G X_trails0 X_trails1 X_trails2 X_trails ++ (u10 G M0 M1 M2 M3 M4 M5 M6 M7 M8 M9 M10 M11 M12 r43.2 ++ (imC G X_images0 x0 x1 I0 I1))))))))))))) C cfL_52 viL_52 (m10_bears_k l G M0 M1 M2 M3 M4 M5 M6 M7 M8 M9 M10 M11 M12 M (xs (Int32.toNatClampNeg (x3 + (1 : Int32)))) (xs (Int32.toNatClampNeg (x3 + (2 : Int32)))) r43 k44) dL_law_393 (by decide) ⟨by show cs ≤ 600000; omega, by show sl ≤ 7302250; omega⟩ rfl rfl (Nat.le_of_ble_eq_true rfl) rfl [28, 29, 30, 31, 32, 33, 34, 35, 36, 37, 38, 39, 40] [0, 1, 2, 3, 4, 5, 6, 7, 8, 9, 10, 11, 12, 13, 14, 15, 16, 17, 18, 19, 20, 21, 22, 23, 24, 25, 26, 27, 41] [0, 1, 2, 3, 4, 5, 6, 7, 8, 9, 10, 11, 12, 13, 14, 15, 16, 17, 18, 19, 20, 21, 22, 23, 24, 25, 26, 27, 29, 30, 31, 32, 33, 34, 35, 36, 37, 38, 39, 40, 41, 28] rfl rfl (by decide) rfl ?_
        refine go_icmp_eq (tgt := 843) C h dL_law_396 rfl (fun h => ?_) (fun h => ?_)
        · refine go_iincN (lf := fun v45 => [(3, .int v45), (0, .ref b), (1, .ref X0), (2, .ref M0)]) C h dL_law_843 3 rfl rfl (by decide) (fun _ => rfl) (fun v45 h => ?_)
          refine go_lv (lv' := [(0, .ref b), (1, .ref X0), (2, .ref M0), (3, .int v45)]) [1, 2, 3, 0] rfl ?_
          refine go_goto (tgt := 18) C dL_law_846 rfl ?_
          exact ih v45 X_act X_brigade X_feet r41.2.1 r41.2.2.1 r41.2.2.2 X_pad X_posts X_routes X_trails I0 I1 r43.2 x0 x1 cs sl (by omega) (by omega) h
        · refine go_iconst (v := 0) C dL_law_399 rfl ?_
          exact absurd h (by decide)
      refine go_ite h (fun q h => ?_) (fun q9 h => ?_)
      · refine go_tabIn (off := 369) (tgt := 401) C dL_law_32 q (by decide) (by decide) rfl ?_
        refine go_aload_n C dL_law_401 1 rfl ?_
        refine go_aload_n C dL_law_402 0 rfl ?_
        refine go_iload_n C dL_law_403 3 rfl ?_
        refine go_iconst (v := 1) C dL_law_404 rfl ?_
        refine go_iadd C dL_law_405 ?_
        refine go_sldG C hX hbl hbA h dL_law_406 (fun h => ?_)
        obtain ⟨r46, k47, h⟩ := tbd_e h
        refine go_callVT (q0 := 0) (wr := u0 G X_act0 X_act ++ (u3 G X_feet0 X_feet1 X_feet ++ (u6 G X_posts0 X_posts1 X_posts2 X_posts ++ (u7 G X_routes0 X_routes1 X_routes ++ (u8 G X_trails0 X_trails1 X_trails2 X_trails ++ (u10 G M0 M1 M2 M3 M4 M5 M6 M7 M8 M9 M10 M11 M12 M ++ (imC G X_images0 x0 x1 I0 I1))))))) (w' := u9 G X0 X_brigade0 X_pad0 X_act0 X_fire0 X_routes0 X_posts0 X_trails0 X_feet0 X_images0 () ++ (u0 G X_act0 X_act ++ (u1 G X_brigade0 X_brigade1 X_brigade2 X_brigade3 X_brigade4 X_brigade5 X_brigade ++ (u3 G X_feet0 X_feet1 X_feet ++ (u4 G X_fire0 X_fire_after0 X_fire_act0 r46.2.1 ++ (u0 G X_fire_act0 r46.2.2.1 ++ (u1 G X_fire_after0 X_fire_after1 X_fire_after2 X_fire_after3 X_fire_after4 X_fire_after5 r46.2.2.2 ++ (u5 G X_pad0 X_pad1 X_pad ++ (u6 G X_posts0 X_posts1 X_posts2 X_posts ++ (u7 G X_routes0 X_routes1 X_routes ++ (u8 G X_trails0 X_trails1 X_trails2 X_trails ++ (u10 G M0 M1 M2 M3 M4 M5 M6 M7 M8 M9 M10 M11 M12 M ++ (imC G X_images0 x0 x1 I0 I1))))))))))))) C cfL_53 viL_53 (m9_then_k l G X0 X_brigade0 X_pad0 X_act0 X_fire0 X_routes0 X_posts0 X_trails0 X_feet0 X_images0 X_brigade1 X_brigade2 X_brigade3 X_brigade4 X_brigade5 X_fire_after0 X_fire_act0 X_fire_after1 X_fire_after2 X_fire_after3 X_fire_after4 X_fire_after5 X_pad1 () X_brigade X_fire X_fire_act X_fire_after X_pad (xs (Int32.toNatClampNeg (x3 + (1 : Int32)))) r46 k47) dL_law_407 (by decide) ⟨by show cs ≤ 600000; omega, by show sl ≤ 7302250; omega⟩ rfl rfl (Nat.le_of_ble_eq_true rfl) rfl [0, 2, 3, 4, 5, 6, 7, 10, 11, 12, 13, 14, 15, 16, 17, 18, 19] [1, 8, 9, 20, 21, 22, 23, 24, 25, 26, 27, 28, 29, 30, 31, 32, 33, 34, 35, 36, 37, 38, 39, 40, 41] [25, 0, 26, 27, 28, 29, 30, 31, 1, 2, 32, 33, 34, 35, 36, 37, 38, 39, 40, 41, 3, 4, 5, 6, 7, 8, 9, 10, 11, 12, 13, 14, 15, 16, 17, 18, 19, 20, 21, 22, 23, 24] rfl rfl (by decide) rfl ?_
        refine go_aload_n C dL_law_410 2 rfl ?_
        refine go_aload_n C dL_law_411 0 rfl ?_
        refine go_iload_n C dL_law_412 3 rfl ?_
        refine go_iconst (v := 1) C dL_law_413 rfl ?_
        refine go_iadd C dL_law_414 ?_
        refine go_sldG C hX hbl hbA h dL_law_415 (fun h => ?_)
        obtain ⟨r48, k49, h⟩ := tbd_e h
        refine go_callVT (q0 := 28) (wr := u9 G X0 X_brigade0 X_pad0 X_act0 X_fire0 X_routes0 X_posts0 X_trails0 X_feet0 X_images0 () ++ (u0 G X_act0 X_act ++ (u1 G X_brigade0 X_brigade1 X_brigade2 X_brigade3 X_brigade4 X_brigade5 X_brigade ++ (u3 G X_feet0 X_feet1 X_feet ++ (u4 G X_fire0 X_fire_after0 X_fire_act0 r46.2.1 ++ (u0 G X_fire_act0 r46.2.2.1 ++ (u1 G X_fire_after0 X_fire_after1 X_fire_after2 X_fire_after3 X_fire_after4 X_fire_after5 r46.2.2.2 ++ (u5 G X_pad0 X_pad1 X_pad ++ (u6 G X_posts0 X_posts1 X_posts2 X_posts ++ (u7 G X_routes0 X_routes1 X_routes ++ (u8 G X_trails0 X_trails1 X_trails2 X_trails ++ (imC G X_images0 x0 x1 I0 I1)))))))))))) (w' := u9 G X0 X_brigade0 X_pad0 X_act0 X_fire0 X_routes0 X_posts0 X_trails0 X_feet0 X_images0 () ++ (u0 G X_act0 X_act ++ (u1 G X_brigade0 X_brigade1 X_brigade2 X_brigade3 X_brigade4 X_brigade5 X_brigade ++ (u3 G X_feet0 X_feet1 X_feet ++ (u4 G X_fire0 X_fire_after0 X_fire_act0 r46.2.1 ++ (u0 G X_fire_act0 r46.2.2.1 ++ (u1 G X_fire_after0 X_fire_after1 X_fire_after2 X_fire_after3 X_fire_after4 X_fire_after5 r46.2.2.2 ++ (u5 G X_pad0 X_pad1 X_pad ++ (u6 G X_posts0 X_posts1 X_posts2 X_posts ++ (u7 G X_routes0 X_routes1 X_routes ++ (u8 G X_trails0 X_trails1 X_trails2 X_trails ++ (u10 G M0 M1 M2 M3 M4 M5 M6 M7 M8 M9 M10 M11 M12 r48.2 ++ (imC G X_images0 x0 x1 I0 I1))))))))))))) C cfL_56 viL_56 (m10_then_k l G M0 M1 M2 M3 M4 M5 M6 M7 M8 M9 M10 M11 M12 M (xs (Int32.toNatClampNeg (x3 + (1 : Int32)))) r48 k49) dL_law_416 (by decide) ⟨by show cs ≤ 600000; omega, by show sl ≤ 7302250; omega⟩ rfl rfl (Nat.le_of_ble_eq_true rfl) rfl [28, 29, 30, 31, 32, 33, 34, 35, 36, 37, 38, 39, 40] [0, 1, 2, 3, 4, 5, 6, 7, 8, 9, 10, 11, 12, 13, 14, 15, 16, 17, 18, 19, 20, 21, 22, 23, 24, 25, 26, 27, 41] [0, 1, 2, 3, 4, 5, 6, 7, 8, 9, 10, 11, 12, 13, 14, 15, 16, 17, 18, 19, 20, 21, 22, 23, 24, 25, 26, 27, 29, 30, 31, 32, 33, 34, 35, 36, 37, 38, 39, 40, 41, 28] rfl rfl (by decide) rfl ?_
        refine go_icmp_eq (tgt := 843) C h dL_law_419 rfl (fun h => ?_) (fun h => ?_)
        · refine go_iincN (lf := fun v50 => [(3, .int v50), (0, .ref b), (1, .ref X0), (2, .ref M0)]) C h dL_law_843 3 rfl rfl (by decide) (fun _ => rfl) (fun v50 h => ?_)
          refine go_lv (lv' := [(0, .ref b), (1, .ref X0), (2, .ref M0), (3, .int v50)]) [1, 2, 3, 0] rfl ?_
          refine go_goto (tgt := 18) C dL_law_846 rfl ?_
          exact ih v50 X_act X_brigade X_feet r46.2.1 r46.2.2.1 r46.2.2.2 X_pad X_posts X_routes X_trails I0 I1 r48.2 x0 x1 cs sl (by omega) (by omega) h
        · refine go_iconst (v := 0) C dL_law_422 rfl ?_
          exact absurd h (by decide)
      refine go_ite h (fun q h => ?_) (fun q10 h => ?_)
      · refine go_tabIn (off := 392) (tgt := 424) C dL_law_32 q (by decide) (by decide) rfl ?_
        refine go_aload_n C dL_law_424 1 rfl ?_
        refine go_aload_n C dL_law_425 0 rfl ?_
        refine go_iload_n C dL_law_426 3 rfl ?_
        refine go_iconst (v := 1) C dL_law_427 rfl ?_
        refine go_iadd C dL_law_428 ?_
        refine go_sldG C hX hbl hbA h dL_law_429 (fun h => ?_)
        refine go_aload_n C dL_law_430 0 rfl ?_
        refine go_iload_n C dL_law_431 3 rfl ?_
        refine go_iconst (v := 2) C dL_law_432 rfl ?_
        refine go_iadd C dL_law_433 ?_
        refine go_sldG C hX hbl hbA h dL_law_434 (fun h => ?_)
        obtain ⟨r51, k52, h⟩ := tbd_e h
        refine go_callVT (q0 := 0) (wr := u0 G X_act0 X_act ++ (u3 G X_feet0 X_feet1 X_feet ++ (u4 G X_fire0 X_fire_after0 X_fire_act0 X_fire ++ (u0 G X_fire_act0 X_fire_act ++ (u1 G X_fire_after0 X_fire_after1 X_fire_after2 X_fire_after3 X_fire_after4 X_fire_after5 X_fire_after ++ (u5 G X_pad0 X_pad1 X_pad ++ (u6 G X_posts0 X_posts1 X_posts2 X_posts ++ (u8 G X_trails0 X_trails1 X_trails2 X_trails ++ (u10 G M0 M1 M2 M3 M4 M5 M6 M7 M8 M9 M10 M11 M12 M ++ (imC G X_images0 x0 x1 I0 I1)))))))))) (w' := u9 G X0 X_brigade0 X_pad0 X_act0 X_fire0 X_routes0 X_posts0 X_trails0 X_feet0 X_images0 () ++ (u0 G X_act0 X_act ++ (u1 G X_brigade0 X_brigade1 X_brigade2 X_brigade3 X_brigade4 X_brigade5 X_brigade ++ (u3 G X_feet0 X_feet1 X_feet ++ (u4 G X_fire0 X_fire_after0 X_fire_act0 X_fire ++ (u0 G X_fire_act0 X_fire_act ++ (u1 G X_fire_after0 X_fire_after1 X_fire_after2 X_fire_after3 X_fire_after4 X_fire_after5 X_fire_after ++ (u5 G X_pad0 X_pad1 X_pad ++ (u6 G X_posts0 X_posts1 X_posts2 X_posts ++ (u7 G X_routes0 X_routes1 r51.2 ++ (u8 G X_trails0 X_trails1 X_trails2 X_trails ++ (u10 G M0 M1 M2 M3 M4 M5 M6 M7 M8 M9 M10 M11 M12 M ++ (imC G X_images0 x0 x1 I0 I1))))))))))))) C cfL_57 viL_57 (m9_climb_k l G X0 X_brigade0 X_pad0 X_act0 X_fire0 X_routes0 X_posts0 X_trails0 X_feet0 X_images0 X_brigade1 X_brigade2 X_brigade3 X_brigade4 X_brigade5 X_routes1 () X_brigade X_routes (xs (Int32.toNatClampNeg (x3 + (1 : Int32)))) (xs (Int32.toNatClampNeg (x3 + (2 : Int32)))) r51 k52) dL_law_435 (by decide) ⟨by show cs ≤ 600000; omega, by show sl ≤ 7302250; omega⟩ rfl rfl (Nat.le_of_ble_eq_true rfl) rfl [0, 2, 3, 4, 5, 6, 7, 23, 24] [1, 8, 9, 10, 11, 12, 13, 14, 15, 16, 17, 18, 19, 20, 21, 22, 25, 26, 27, 28, 29, 30, 31, 32, 33, 34, 35, 36, 37, 38, 39, 40, 41] [33, 0, 34, 35, 36, 37, 38, 39, 1, 2, 3, 4, 5, 6, 7, 8, 9, 10, 11, 12, 13, 14, 15, 40, 41, 16, 17, 18, 19, 20, 21, 22, 23, 24, 25, 26, 27, 28, 29, 30, 31, 32] rfl rfl (by decide) rfl ?_
        refine go_aload_n C dL_law_438 2 rfl ?_
        refine go_aload_n C dL_law_439 0 rfl ?_
        refine go_iload_n C dL_law_440 3 rfl ?_
        refine go_iconst (v := 1) C dL_law_441 rfl ?_
        refine go_iadd C dL_law_442 ?_
        refine go_sldG C hX hbl hbA h dL_law_443 (fun h => ?_)
        refine go_aload_n C dL_law_444 0 rfl ?_
        refine go_iload_n C dL_law_445 3 rfl ?_
        refine go_iconst (v := 2) C dL_law_446 rfl ?_
        refine go_iadd C dL_law_447 ?_
        refine go_sldG C hX hbl hbA h dL_law_448 (fun h => ?_)
        obtain ⟨r53, k54, h⟩ := tbd_e h
        refine go_callVT (q0 := 28) (wr := u9 G X0 X_brigade0 X_pad0 X_act0 X_fire0 X_routes0 X_posts0 X_trails0 X_feet0 X_images0 () ++ (u0 G X_act0 X_act ++ (u1 G X_brigade0 X_brigade1 X_brigade2 X_brigade3 X_brigade4 X_brigade5 X_brigade ++ (u3 G X_feet0 X_feet1 X_feet ++ (u4 G X_fire0 X_fire_after0 X_fire_act0 X_fire ++ (u0 G X_fire_act0 X_fire_act ++ (u1 G X_fire_after0 X_fire_after1 X_fire_after2 X_fire_after3 X_fire_after4 X_fire_after5 X_fire_after ++ (u5 G X_pad0 X_pad1 X_pad ++ (u6 G X_posts0 X_posts1 X_posts2 X_posts ++ (u7 G X_routes0 X_routes1 r51.2 ++ (u8 G X_trails0 X_trails1 X_trails2 X_trails ++ (imC G X_images0 x0 x1 I0 I1)))))))))))) (w' := u9 G X0 X_brigade0 X_pad0 X_act0 X_fire0 X_routes0 X_posts0 X_trails0 X_feet0 X_images0 () ++ (u0 G X_act0 X_act ++ (u1 G X_brigade0 X_brigade1 X_brigade2 X_brigade3 X_brigade4 X_brigade5 X_brigade ++ (u3 G X_feet0 X_feet1 X_feet ++ (u4 G X_fire0 X_fire_after0 X_fire_act0 X_fire ++ (u0 G X_fire_act0 X_fire_act ++ (u1 G X_fire_after0 X_fire_after1 X_fire_after2 X_fire_after3 X_fire_after4 X_fire_after5 X_fire_after ++ (u5 G X_pad0 X_pad1 X_pad ++ (u6 G X_posts0 X_posts1 X_posts2 X_posts ++ (u7 G X_routes0 X_routes1 r51.2 ++ (u8 G X_trails0 X_trails1 X_trails2 X_trails ++ (u10 G M0 M1 M2 M3 M4 M5 M6 M7 M8 M9 M10 M11 M12 r53.2 ++ (imC G X_images0 x0 x1 I0 I1))))))))))))) C cfL_60 viL_60 (m10_climb_k l G M0 M1 M2 M3 M4 M5 M6 M7 M8 M9 M10 M11 M12 M (xs (Int32.toNatClampNeg (x3 + (1 : Int32)))) (xs (Int32.toNatClampNeg (x3 + (2 : Int32)))) r53 k54) dL_law_449 (by decide) ⟨by show cs ≤ 600000; omega, by show sl ≤ 7302250; omega⟩ rfl rfl (Nat.le_of_ble_eq_true rfl) rfl [28, 29, 30, 31, 32, 33, 34, 35, 36, 37, 38, 39, 40] [0, 1, 2, 3, 4, 5, 6, 7, 8, 9, 10, 11, 12, 13, 14, 15, 16, 17, 18, 19, 20, 21, 22, 23, 24, 25, 26, 27, 41] [0, 1, 2, 3, 4, 5, 6, 7, 8, 9, 10, 11, 12, 13, 14, 15, 16, 17, 18, 19, 20, 21, 22, 23, 24, 25, 26, 27, 29, 30, 31, 32, 33, 34, 35, 36, 37, 38, 39, 40, 41, 28] rfl rfl (by decide) rfl ?_
        refine go_icmp_eq (tgt := 843) C h dL_law_452 rfl (fun h => ?_) (fun h => ?_)
        · refine go_iincN (lf := fun v55 => [(3, .int v55), (0, .ref b), (1, .ref X0), (2, .ref M0)]) C h dL_law_843 3 rfl rfl (by decide) (fun _ => rfl) (fun v55 h => ?_)
          refine go_lv (lv' := [(0, .ref b), (1, .ref X0), (2, .ref M0), (3, .int v55)]) [1, 2, 3, 0] rfl ?_
          refine go_goto (tgt := 18) C dL_law_846 rfl ?_
          exact ih v55 X_act X_brigade X_feet X_fire X_fire_act X_fire_after X_pad X_posts r51.2 X_trails I0 I1 r53.2 x0 x1 cs sl (by omega) (by omega) h
        · refine go_iconst (v := 0) C dL_law_455 rfl ?_
          exact absurd h (by decide)
      refine go_ite h (fun q h => ?_) (fun q11 h => ?_)
      · refine go_tabIn (off := 425) (tgt := 457) C dL_law_32 q (by decide) (by decide) rfl ?_
        refine go_aload_n C dL_law_457 1 rfl ?_
        refine go_aload_n C dL_law_458 0 rfl ?_
        refine go_iload_n C dL_law_459 3 rfl ?_
        refine go_iconst (v := 1) C dL_law_460 rfl ?_
        refine go_iadd C dL_law_461 ?_
        refine go_sldG C hX hbl hbA h dL_law_462 (fun h => ?_)
        obtain ⟨r56, k57, h⟩ := tbd_e h
        refine go_callVT (q0 := 0) (wr := u0 G X_act0 X_act ++ (u3 G X_feet0 X_feet1 X_feet ++ (u4 G X_fire0 X_fire_after0 X_fire_act0 X_fire ++ (u0 G X_fire_act0 X_fire_act ++ (u1 G X_fire_after0 X_fire_after1 X_fire_after2 X_fire_after3 X_fire_after4 X_fire_after5 X_fire_after ++ (u5 G X_pad0 X_pad1 X_pad ++ (u6 G X_posts0 X_posts1 X_posts2 X_posts ++ (u8 G X_trails0 X_trails1 X_trails2 X_trails ++ (u10 G M0 M1 M2 M3 M4 M5 M6 M7 M8 M9 M10 M11 M12 M ++ (imC G X_images0 x0 x1 I0 I1)))))))))) (w' := u9 G X0 X_brigade0 X_pad0 X_act0 X_fire0 X_routes0 X_posts0 X_trails0 X_feet0 X_images0 () ++ (u0 G X_act0 X_act ++ (u1 G X_brigade0 X_brigade1 X_brigade2 X_brigade3 X_brigade4 X_brigade5 X_brigade ++ (u3 G X_feet0 X_feet1 X_feet ++ (u4 G X_fire0 X_fire_after0 X_fire_act0 X_fire ++ (u0 G X_fire_act0 X_fire_act ++ (u1 G X_fire_after0 X_fire_after1 X_fire_after2 X_fire_after3 X_fire_after4 X_fire_after5 X_fire_after ++ (u5 G X_pad0 X_pad1 X_pad ++ (u6 G X_posts0 X_posts1 X_posts2 X_posts ++ (u7 G X_routes0 X_routes1 r56.2 ++ (u8 G X_trails0 X_trails1 X_trails2 X_trails ++ (u10 G M0 M1 M2 M3 M4 M5 M6 M7 M8 M9 M10 M11 M12 M ++ (imC G X_images0 x0 x1 I0 I1))))))))))))) C cfL_61 viL_61 (m9_ways_k l G X0 X_brigade0 X_pad0 X_act0 X_fire0 X_routes0 X_posts0 X_trails0 X_feet0 X_images0 X_brigade1 X_brigade2 X_brigade3 X_brigade4 X_brigade5 X_routes1 () X_brigade X_routes (xs (Int32.toNatClampNeg (x3 + (1 : Int32)))) r56 k57) dL_law_463 (by decide) ⟨by show cs ≤ 600000; omega, by show sl ≤ 7302250; omega⟩ rfl rfl (Nat.le_of_ble_eq_true rfl) rfl [0, 2, 3, 4, 5, 6, 7, 23, 24] [1, 8, 9, 10, 11, 12, 13, 14, 15, 16, 17, 18, 19, 20, 21, 22, 25, 26, 27, 28, 29, 30, 31, 32, 33, 34, 35, 36, 37, 38, 39, 40, 41] [33, 0, 34, 35, 36, 37, 38, 39, 1, 2, 3, 4, 5, 6, 7, 8, 9, 10, 11, 12, 13, 14, 15, 40, 41, 16, 17, 18, 19, 20, 21, 22, 23, 24, 25, 26, 27, 28, 29, 30, 31, 32] rfl rfl (by decide) rfl ?_
        refine go_aload_n C dL_law_466 2 rfl ?_
        refine go_aload_n C dL_law_467 0 rfl ?_
        refine go_iload_n C dL_law_468 3 rfl ?_
        refine go_iconst (v := 1) C dL_law_469 rfl ?_
        refine go_iadd C dL_law_470 ?_
        refine go_sldG C hX hbl hbA h dL_law_471 (fun h => ?_)
        obtain ⟨r58, k59, h⟩ := tbd_e h
        refine go_callVT (q0 := 28) (wr := u9 G X0 X_brigade0 X_pad0 X_act0 X_fire0 X_routes0 X_posts0 X_trails0 X_feet0 X_images0 () ++ (u0 G X_act0 X_act ++ (u1 G X_brigade0 X_brigade1 X_brigade2 X_brigade3 X_brigade4 X_brigade5 X_brigade ++ (u3 G X_feet0 X_feet1 X_feet ++ (u4 G X_fire0 X_fire_after0 X_fire_act0 X_fire ++ (u0 G X_fire_act0 X_fire_act ++ (u1 G X_fire_after0 X_fire_after1 X_fire_after2 X_fire_after3 X_fire_after4 X_fire_after5 X_fire_after ++ (u5 G X_pad0 X_pad1 X_pad ++ (u6 G X_posts0 X_posts1 X_posts2 X_posts ++ (u7 G X_routes0 X_routes1 r56.2 ++ (u8 G X_trails0 X_trails1 X_trails2 X_trails ++ (imC G X_images0 x0 x1 I0 I1)))))))))))) (w' := u9 G X0 X_brigade0 X_pad0 X_act0 X_fire0 X_routes0 X_posts0 X_trails0 X_feet0 X_images0 () ++ (u0 G X_act0 X_act ++ (u1 G X_brigade0 X_brigade1 X_brigade2 X_brigade3 X_brigade4 X_brigade5 X_brigade ++ (u3 G X_feet0 X_feet1 X_feet ++ (u4 G X_fire0 X_fire_after0 X_fire_act0 X_fire ++ (u0 G X_fire_act0 X_fire_act ++ (u1 G X_fire_after0 X_fire_after1 X_fire_after2 X_fire_after3 X_fire_after4 X_fire_after5 X_fire_after ++ (u5 G X_pad0 X_pad1 X_pad ++ (u6 G X_posts0 X_posts1 X_posts2 X_posts ++ (u7 G X_routes0 X_routes1 r56.2 ++ (u8 G X_trails0 X_trails1 X_trails2 X_trails ++ (u10 G M0 M1 M2 M3 M4 M5 M6 M7 M8 M9 M10 M11 M12 r58.2 ++ (imC G X_images0 x0 x1 I0 I1))))))))))))) C cfL_64 viL_64 (m10_ways_k l G M0 M1 M2 M3 M4 M5 M6 M7 M8 M9 M10 M11 M12 M (xs (Int32.toNatClampNeg (x3 + (1 : Int32)))) r58 k59) dL_law_472 (by decide) ⟨by show cs ≤ 600000; omega, by show sl ≤ 7302250; omega⟩ rfl rfl (Nat.le_of_ble_eq_true rfl) rfl [28, 29, 30, 31, 32, 33, 34, 35, 36, 37, 38, 39, 40] [0, 1, 2, 3, 4, 5, 6, 7, 8, 9, 10, 11, 12, 13, 14, 15, 16, 17, 18, 19, 20, 21, 22, 23, 24, 25, 26, 27, 41] [0, 1, 2, 3, 4, 5, 6, 7, 8, 9, 10, 11, 12, 13, 14, 15, 16, 17, 18, 19, 20, 21, 22, 23, 24, 25, 26, 27, 29, 30, 31, 32, 33, 34, 35, 36, 37, 38, 39, 40, 41, 28] rfl rfl (by decide) rfl ?_
        refine go_icmp_eq (tgt := 843) C h dL_law_475 rfl (fun h => ?_) (fun h => ?_)
        · refine go_iincN (lf := fun v60 => [(3, .int v60), (0, .ref b), (1, .ref X0), (2, .ref M0)]) C h dL_law_843 3 rfl rfl (by decide) (fun _ => rfl) (fun v60 h => ?_)
          refine go_lv (lv' := [(0, .ref b), (1, .ref X0), (2, .ref M0), (3, .int v60)]) [1, 2, 3, 0] rfl ?_
          refine go_goto (tgt := 18) C dL_law_846 rfl ?_
          exact ih v60 X_act X_brigade X_feet X_fire X_fire_act X_fire_after X_pad X_posts r56.2 X_trails I0 I1 r58.2 x0 x1 cs sl (by omega) (by omega) h
        · refine go_iconst (v := 0) C dL_law_478 rfl ?_
          exact absurd h (by decide)
      refine go_ite h (fun q h => ?_) (fun q12 h => ?_)
      · refine go_tabIn (off := 448) (tgt := 480) C dL_law_32 q (by decide) (by decide) rfl ?_
        refine go_aload_n C dL_law_480 1 rfl ?_
        refine go_aload_n C dL_law_481 0 rfl ?_
        refine go_iload_n C dL_law_482 3 rfl ?_
        refine go_iconst (v := 1) C dL_law_483 rfl ?_
        refine go_iadd C dL_law_484 ?_
        refine go_sldG C hX hbl hbA h dL_law_485 (fun h => ?_)
        refine go_aload_n C dL_law_486 0 rfl ?_
        refine go_iload_n C dL_law_487 3 rfl ?_
        refine go_iconst (v := 2) C dL_law_488 rfl ?_
        refine go_iadd C dL_law_489 ?_
        refine go_sldG C hX hbl hbA h dL_law_490 (fun h => ?_)
        obtain ⟨r61, k62, h⟩ := tbd_e h
        refine go_callVT (q0 := 0) (wr := u0 G X_act0 X_act ++ (u3 G X_feet0 X_feet1 X_feet ++ (u4 G X_fire0 X_fire_after0 X_fire_act0 X_fire ++ (u0 G X_fire_act0 X_fire_act ++ (u1 G X_fire_after0 X_fire_after1 X_fire_after2 X_fire_after3 X_fire_after4 X_fire_after5 X_fire_after ++ (u5 G X_pad0 X_pad1 X_pad ++ (u6 G X_posts0 X_posts1 X_posts2 X_posts ++ (u8 G X_trails0 X_trails1 X_trails2 X_trails ++ (u10 G M0 M1 M2 M3 M4 M5 M6 M7 M8 M9 M10 M11 M12 M ++ (imC G X_images0 x0 x1 I0 I1)))))))))) (w' := u9 G X0 X_brigade0 X_pad0 X_act0 X_fire0 X_routes0 X_posts0 X_trails0 X_feet0 X_images0 () ++ (u0 G X_act0 X_act ++ (u1 G X_brigade0 X_brigade1 X_brigade2 X_brigade3 X_brigade4 X_brigade5 X_brigade ++ (u3 G X_feet0 X_feet1 X_feet ++ (u4 G X_fire0 X_fire_after0 X_fire_act0 X_fire ++ (u0 G X_fire_act0 X_fire_act ++ (u1 G X_fire_after0 X_fire_after1 X_fire_after2 X_fire_after3 X_fire_after4 X_fire_after5 X_fire_after ++ (u5 G X_pad0 X_pad1 X_pad ++ (u6 G X_posts0 X_posts1 X_posts2 X_posts ++ (u7 G X_routes0 X_routes1 r61.2 ++ (u8 G X_trails0 X_trails1 X_trails2 X_trails ++ (u10 G M0 M1 M2 M3 M4 M5 M6 M7 M8 M9 M10 M11 M12 M ++ (imC G X_images0 x0 x1 I0 I1))))))))))))) C cfL_65 viL_65 (m9_leases_k l G X0 X_brigade0 X_pad0 X_act0 X_fire0 X_routes0 X_posts0 X_trails0 X_feet0 X_images0 X_brigade1 X_brigade2 X_brigade3 X_brigade4 X_brigade5 X_routes1 () X_brigade X_routes (xs (Int32.toNatClampNeg (x3 + (1 : Int32)))) (xs (Int32.toNatClampNeg (x3 + (2 : Int32)))) r61 k62) dL_law_491 (by decide) ⟨by show cs ≤ 600000; omega, by show sl ≤ 7302250; omega⟩ rfl rfl (Nat.le_of_ble_eq_true rfl) rfl [0, 2, 3, 4, 5, 6, 7, 23, 24] [1, 8, 9, 10, 11, 12, 13, 14, 15, 16, 17, 18, 19, 20, 21, 22, 25, 26, 27, 28, 29, 30, 31, 32, 33, 34, 35, 36, 37, 38, 39, 40, 41] [33, 0, 34, 35, 36, 37, 38, 39, 1, 2, 3, 4, 5, 6, 7, 8, 9, 10, 11, 12, 13, 14, 15, 40, 41, 16, 17, 18, 19, 20, 21, 22, 23, 24, 25, 26, 27, 28, 29, 30, 31, 32] rfl rfl (by decide) rfl ?_
        refine go_aload_n C dL_law_494 2 rfl ?_
        refine go_aload_n C dL_law_495 0 rfl ?_
        refine go_iload_n C dL_law_496 3 rfl ?_
        refine go_iconst (v := 1) C dL_law_497 rfl ?_
        refine go_iadd C dL_law_498 ?_
        refine go_sldG C hX hbl hbA h dL_law_499 (fun h => ?_)
        refine go_aload_n C dL_law_500 0 rfl ?_
        refine go_iload_n C dL_law_501 3 rfl ?_
        refine go_iconst (v := 2) C dL_law_502 rfl ?_
        refine go_iadd C dL_law_503 ?_
        refine go_sldG C hX hbl hbA h dL_law_504 (fun h => ?_)
        obtain ⟨r63, k64, h⟩ := tbd_e h
        refine go_callVT (q0 := 28) (wr := u9 G X0 X_brigade0 X_pad0 X_act0 X_fire0 X_routes0 X_posts0 X_trails0 X_feet0 X_images0 () ++ (u0 G X_act0 X_act ++ (u1 G X_brigade0 X_brigade1 X_brigade2 X_brigade3 X_brigade4 X_brigade5 X_brigade ++ (u3 G X_feet0 X_feet1 X_feet ++ (u4 G X_fire0 X_fire_after0 X_fire_act0 X_fire ++ (u0 G X_fire_act0 X_fire_act ++ (u1 G X_fire_after0 X_fire_after1 X_fire_after2 X_fire_after3 X_fire_after4 X_fire_after5 X_fire_after ++ (u5 G X_pad0 X_pad1 X_pad ++ (u6 G X_posts0 X_posts1 X_posts2 X_posts ++ (u7 G X_routes0 X_routes1 r61.2 ++ (u8 G X_trails0 X_trails1 X_trails2 X_trails ++ (imC G X_images0 x0 x1 I0 I1)))))))))))) (w' := u9 G X0 X_brigade0 X_pad0 X_act0 X_fire0 X_routes0 X_posts0 X_trails0 X_feet0 X_images0 () ++ (u0 G X_act0 X_act ++ (u1 G X_brigade0 X_brigade1 X_brigade2 X_brigade3 X_brigade4 X_brigade5 X_brigade ++ (u3 G X_feet0 X_feet1 X_feet ++ (u4 G X_fire0 X_fire_after0 X_fire_act0 X_fire ++ (u0 G X_fire_act0 X_fire_act ++ (u1 G X_fire_after0 X_fire_after1 X_fire_after2 X_fire_after3 X_fire_after4 X_fire_after5 X_fire_after ++ (u5 G X_pad0 X_pad1 X_pad ++ (u6 G X_posts0 X_posts1 X_posts2 X_posts ++ (u7 G X_routes0 X_routes1 r61.2 ++ (u8 G X_trails0 X_trails1 X_trails2 X_trails ++ (u10 G M0 M1 M2 M3 M4 M5 M6 M7 M8 M9 M10 M11 M12 r63.2 ++ (imC G X_images0 x0 x1 I0 I1))))))))))))) C cfL_68 viL_68 (m10_leases_k l G M0 M1 M2 M3 M4 M5 M6 M7 M8 M9 M10 M11 M12 M (xs (Int32.toNatClampNeg (x3 + (1 : Int32)))) (xs (Int32.toNatClampNeg (x3 + (2 : Int32)))) r63 k64) dL_law_505 (by decide) ⟨by show cs ≤ 600000; omega, by show sl ≤ 7302250; omega⟩ rfl rfl (Nat.le_of_ble_eq_true rfl) rfl [28, 29, 30, 31, 32, 33, 34, 35, 36, 37, 38, 39, 40] [0, 1, 2, 3, 4, 5, 6, 7, 8, 9, 10, 11, 12, 13, 14, 15, 16, 17, 18, 19, 20, 21, 22, 23, 24, 25, 26, 27, 41] [0, 1, 2, 3, 4, 5, 6, 7, 8, 9, 10, 11, 12, 13, 14, 15, 16, 17, 18, 19, 20, 21, 22, 23, 24, 25, 26, 27, 29, 30, 31, 32, 33, 34, 35, 36, 37, 38, 39, 40, 41, 28] rfl rfl (by decide) rfl ?_
        refine go_icmp_eq (tgt := 843) C h dL_law_508 rfl (fun h => ?_) (fun h => ?_)
        · refine go_iincN (lf := fun v65 => [(3, .int v65), (0, .ref b), (1, .ref X0), (2, .ref M0)]) C h dL_law_843 3 rfl rfl (by decide) (fun _ => rfl) (fun v65 h => ?_)
          refine go_lv (lv' := [(0, .ref b), (1, .ref X0), (2, .ref M0), (3, .int v65)]) [1, 2, 3, 0] rfl ?_
          refine go_goto (tgt := 18) C dL_law_846 rfl ?_
          exact ih v65 X_act X_brigade X_feet X_fire X_fire_act X_fire_after X_pad X_posts r61.2 X_trails I0 I1 r63.2 x0 x1 cs sl (by omega) (by omega) h
        · refine go_iconst (v := 0) C dL_law_511 rfl ?_
          exact absurd h (by decide)
      refine go_ite h (fun q h => ?_) (fun q13 h => ?_)
      · refine go_tabIn (off := 481) (tgt := 513) C dL_law_32 q (by decide) (by decide) rfl ?_
        refine go_aload_n C dL_law_513 1 rfl ?_
        refine go_aload_n C dL_law_514 0 rfl ?_
        refine go_iload_n C dL_law_515 3 rfl ?_
        refine go_iconst (v := 1) C dL_law_516 rfl ?_
        refine go_iadd C dL_law_517 ?_
        refine go_sldG C hX hbl hbA h dL_law_518 (fun h => ?_)
        obtain ⟨r66, k67, h⟩ := tbd_e h
        refine go_callVT (q0 := 0) (wr := u0 G X_act0 X_act ++ (u3 G X_feet0 X_feet1 X_feet ++ (u4 G X_fire0 X_fire_after0 X_fire_act0 X_fire ++ (u0 G X_fire_act0 X_fire_act ++ (u1 G X_fire_after0 X_fire_after1 X_fire_after2 X_fire_after3 X_fire_after4 X_fire_after5 X_fire_after ++ (u5 G X_pad0 X_pad1 X_pad ++ (u7 G X_routes0 X_routes1 X_routes ++ (u8 G X_trails0 X_trails1 X_trails2 X_trails ++ (u10 G M0 M1 M2 M3 M4 M5 M6 M7 M8 M9 M10 M11 M12 M ++ (imC G X_images0 x0 x1 I0 I1)))))))))) (w' := u9 G X0 X_brigade0 X_pad0 X_act0 X_fire0 X_routes0 X_posts0 X_trails0 X_feet0 X_images0 () ++ (u0 G X_act0 X_act ++ (u1 G X_brigade0 X_brigade1 X_brigade2 X_brigade3 X_brigade4 X_brigade5 X_brigade ++ (u3 G X_feet0 X_feet1 X_feet ++ (u4 G X_fire0 X_fire_after0 X_fire_act0 X_fire ++ (u0 G X_fire_act0 X_fire_act ++ (u1 G X_fire_after0 X_fire_after1 X_fire_after2 X_fire_after3 X_fire_after4 X_fire_after5 X_fire_after ++ (u5 G X_pad0 X_pad1 X_pad ++ (u6 G X_posts0 X_posts1 X_posts2 r66.2 ++ (u7 G X_routes0 X_routes1 X_routes ++ (u8 G X_trails0 X_trails1 X_trails2 X_trails ++ (u10 G M0 M1 M2 M3 M4 M5 M6 M7 M8 M9 M10 M11 M12 M ++ (imC G X_images0 x0 x1 I0 I1))))))))))))) C cfL_69 viL_69 (m9_stand_k l G X0 X_brigade0 X_pad0 X_act0 X_fire0 X_routes0 X_posts0 X_trails0 X_feet0 X_images0 X_brigade1 X_brigade2 X_brigade3 X_brigade4 X_brigade5 X_posts1 X_posts2 () X_brigade X_posts (xs (Int32.toNatClampNeg (x3 + (1 : Int32)))) r66 k67) dL_law_519 (by decide) ⟨by show cs ≤ 600000; omega, by show sl ≤ 7302250; omega⟩ rfl rfl (Nat.le_of_ble_eq_true rfl) rfl [0, 2, 3, 4, 5, 6, 7, 20, 21, 22] [1, 8, 9, 10, 11, 12, 13, 14, 15, 16, 17, 18, 19, 23, 24, 25, 26, 27, 28, 29, 30, 31, 32, 33, 34, 35, 36, 37, 38, 39, 40, 41] [32, 0, 33, 34, 35, 36, 37, 38, 1, 2, 3, 4, 5, 6, 7, 8, 9, 10, 11, 12, 39, 40, 41, 13, 14, 15, 16, 17, 18, 19, 20, 21, 22, 23, 24, 25, 26, 27, 28, 29, 30, 31] rfl rfl (by decide) rfl ?_
        refine go_aload_n C dL_law_522 2 rfl ?_
        refine go_aload_n C dL_law_523 0 rfl ?_
        refine go_iload_n C dL_law_524 3 rfl ?_
        refine go_iconst (v := 1) C dL_law_525 rfl ?_
        refine go_iadd C dL_law_526 ?_
        refine go_sldG C hX hbl hbA h dL_law_527 (fun h => ?_)
        obtain ⟨r68, k69, h⟩ := tbd_e h
        refine go_callVT (q0 := 28) (wr := u9 G X0 X_brigade0 X_pad0 X_act0 X_fire0 X_routes0 X_posts0 X_trails0 X_feet0 X_images0 () ++ (u0 G X_act0 X_act ++ (u1 G X_brigade0 X_brigade1 X_brigade2 X_brigade3 X_brigade4 X_brigade5 X_brigade ++ (u3 G X_feet0 X_feet1 X_feet ++ (u4 G X_fire0 X_fire_after0 X_fire_act0 X_fire ++ (u0 G X_fire_act0 X_fire_act ++ (u1 G X_fire_after0 X_fire_after1 X_fire_after2 X_fire_after3 X_fire_after4 X_fire_after5 X_fire_after ++ (u5 G X_pad0 X_pad1 X_pad ++ (u6 G X_posts0 X_posts1 X_posts2 r66.2 ++ (u7 G X_routes0 X_routes1 X_routes ++ (u8 G X_trails0 X_trails1 X_trails2 X_trails ++ (imC G X_images0 x0 x1 I0 I1)))))))))))) (w' := u9 G X0 X_brigade0 X_pad0 X_act0 X_fire0 X_routes0 X_posts0 X_trails0 X_feet0 X_images0 () ++ (u0 G X_act0 X_act ++ (u1 G X_brigade0 X_brigade1 X_brigade2 X_brigade3 X_brigade4 X_brigade5 X_brigade ++ (u3 G X_feet0 X_feet1 X_feet ++ (u4 G X_fire0 X_fire_after0 X_fire_act0 X_fire ++ (u0 G X_fire_act0 X_fire_act ++ (u1 G X_fire_after0 X_fire_after1 X_fire_after2 X_fire_after3 X_fire_after4 X_fire_after5 X_fire_after ++ (u5 G X_pad0 X_pad1 X_pad ++ (u6 G X_posts0 X_posts1 X_posts2 r66.2 ++ (u7 G X_routes0 X_routes1 X_routes ++ (u8 G X_trails0 X_trails1 X_trails2 X_trails ++ (u10 G M0 M1 M2 M3 M4 M5 M6 M7 M8 M9 M10 M11 M12 r68.2 ++ (imC G X_images0 x0 x1 I0 I1))))))))))))) C cfL_72 viL_72 (m10_stand_k l G M0 M1 M2 M3 M4 M5 M6 M7 M8 M9 M10 M11 M12 M (xs (Int32.toNatClampNeg (x3 + (1 : Int32)))) r68 k69) dL_law_528 (by decide) ⟨by show cs ≤ 600000; omega, by show sl ≤ 7302250; omega⟩ rfl rfl (Nat.le_of_ble_eq_true rfl) rfl [28, 29, 30, 31, 32, 33, 34, 35, 36, 37, 38, 39, 40] [0, 1, 2, 3, 4, 5, 6, 7, 8, 9, 10, 11, 12, 13, 14, 15, 16, 17, 18, 19, 20, 21, 22, 23, 24, 25, 26, 27, 41] [0, 1, 2, 3, 4, 5, 6, 7, 8, 9, 10, 11, 12, 13, 14, 15, 16, 17, 18, 19, 20, 21, 22, 23, 24, 25, 26, 27, 29, 30, 31, 32, 33, 34, 35, 36, 37, 38, 39, 40, 41, 28] rfl rfl (by decide) rfl ?_
        refine go_icmp_eq (tgt := 843) C h dL_law_531 rfl (fun h => ?_) (fun h => ?_)
        · refine go_iincN (lf := fun v70 => [(3, .int v70), (0, .ref b), (1, .ref X0), (2, .ref M0)]) C h dL_law_843 3 rfl rfl (by decide) (fun _ => rfl) (fun v70 h => ?_)
          refine go_lv (lv' := [(0, .ref b), (1, .ref X0), (2, .ref M0), (3, .int v70)]) [1, 2, 3, 0] rfl ?_
          refine go_goto (tgt := 18) C dL_law_846 rfl ?_
          exact ih v70 X_act X_brigade X_feet X_fire X_fire_act X_fire_after X_pad r66.2 X_routes X_trails I0 I1 r68.2 x0 x1 cs sl (by omega) (by omega) h
        · refine go_iconst (v := 0) C dL_law_534 rfl ?_
          exact absurd h (by decide)
      refine go_ite h (fun q h => ?_) (fun q14 h => ?_)
      · refine go_tabIn (off := 504) (tgt := 536) C dL_law_32 q (by decide) (by decide) rfl ?_
        refine go_aload_n C dL_law_536 1 rfl ?_
        refine go_aload_n C dL_law_537 0 rfl ?_
        refine go_iload_n C dL_law_538 3 rfl ?_
        refine go_iconst (v := 1) C dL_law_539 rfl ?_
        refine go_iadd C dL_law_540 ?_
        refine go_sldG C hX hbl hbA h dL_law_541 (fun h => ?_)
        refine go_aload_n C dL_law_542 0 rfl ?_
        refine go_iload_n C dL_law_543 3 rfl ?_
        refine go_iconst (v := 2) C dL_law_544 rfl ?_
        refine go_iadd C dL_law_545 ?_
        refine go_sldG C hX hbl hbA h dL_law_546 (fun h => ?_)
        refine go_if_eq (tgt := 554) C h dL_law_547 rfl (fun h => ?_) (fun h => ?_)
        · refine go_iconst (v := 0) C dL_law_554 rfl ?_
          obtain ⟨r71, k72, h⟩ := tbd_e h
          refine go_callVT (q0 := 0) (wr := u0 G X_act0 X_act ++ (u3 G X_feet0 X_feet1 X_feet ++ (u4 G X_fire0 X_fire_after0 X_fire_act0 X_fire ++ (u0 G X_fire_act0 X_fire_act ++ (u1 G X_fire_after0 X_fire_after1 X_fire_after2 X_fire_after3 X_fire_after4 X_fire_after5 X_fire_after ++ (u5 G X_pad0 X_pad1 X_pad ++ (u6 G X_posts0 X_posts1 X_posts2 X_posts ++ (u7 G X_routes0 X_routes1 X_routes ++ (u8 G X_trails0 X_trails1 X_trails2 X_trails ++ (u10 G M0 M1 M2 M3 M4 M5 M6 M7 M8 M9 M10 M11 M12 M ++ (imC G X_images0 x0 x1 I0 I1))))))))))) (w' := u9 G X0 X_brigade0 X_pad0 X_act0 X_fire0 X_routes0 X_posts0 X_trails0 X_feet0 X_images0 () ++ (u0 G X_act0 X_act ++ (u1 G X_brigade0 X_brigade1 X_brigade2 X_brigade3 X_brigade4 X_brigade5 r71.2 ++ (u3 G X_feet0 X_feet1 X_feet ++ (u4 G X_fire0 X_fire_after0 X_fire_act0 X_fire ++ (u0 G X_fire_act0 X_fire_act ++ (u1 G X_fire_after0 X_fire_after1 X_fire_after2 X_fire_after3 X_fire_after4 X_fire_after5 X_fire_after ++ (u5 G X_pad0 X_pad1 X_pad ++ (u6 G X_posts0 X_posts1 X_posts2 X_posts ++ (u7 G X_routes0 X_routes1 X_routes ++ (u8 G X_trails0 X_trails1 X_trails2 X_trails ++ (u10 G M0 M1 M2 M3 M4 M5 M6 M7 M8 M9 M10 M11 M12 M ++ (imC G X_images0 x0 x1 I0 I1))))))))))))) C cfL_73 viL_73 (m9_felt_k l G X0 X_brigade0 X_pad0 X_act0 X_fire0 X_routes0 X_posts0 X_trails0 X_feet0 X_images0 X_brigade1 X_brigade2 X_brigade3 X_brigade4 X_brigade5 () X_brigade (xs (Int32.toNatClampNeg (x3 + (1 : Int32)))) (0 : Int32) r71 k72) dL_law_555 (by decide) ⟨by show cs ≤ 600000; omega, by show sl ≤ 7302250; omega⟩ rfl rfl (Nat.le_of_ble_eq_true rfl) rfl [0, 2, 3, 4, 5, 6, 7] [1, 8, 9, 10, 11, 12, 13, 14, 15, 16, 17, 18, 19, 20, 21, 22, 23, 24, 25, 26, 27, 28, 29, 30, 31, 32, 33, 34, 35, 36, 37, 38, 39, 40, 41] [35, 0, 36, 37, 38, 39, 40, 41, 1, 2, 3, 4, 5, 6, 7, 8, 9, 10, 11, 12, 13, 14, 15, 16, 17, 18, 19, 20, 21, 22, 23, 24, 25, 26, 27, 28, 29, 30, 31, 32, 33, 34] rfl rfl (by decide) rfl ?_
          refine go_aload_n C dL_law_558 2 rfl ?_
          refine go_aload_n C dL_law_559 0 rfl ?_
          refine go_iload_n C dL_law_560 3 rfl ?_
          refine go_iconst (v := 1) C dL_law_561 rfl ?_
          refine go_iadd C dL_law_562 ?_
          refine go_sldG C hX hbl hbA h dL_law_563 (fun h => ?_)
          refine go_aload_n C dL_law_564 0 rfl ?_
          refine go_iload_n C dL_law_565 3 rfl ?_
          refine go_iconst (v := 2) C dL_law_566 rfl ?_
          refine go_iadd C dL_law_567 ?_
          refine go_sldG C hX hbl hbA h dL_law_568 (fun h => ?_)
          refine go_if_eq (tgt := 576) C h dL_law_569 rfl (fun h => ?_) (fun h => ?_)
          · refine go_iconst (v := 0) C dL_law_576 rfl ?_
            obtain ⟨r73, k74, h⟩ := tbd_e h
            refine go_callVT (q0 := 28) (wr := u9 G X0 X_brigade0 X_pad0 X_act0 X_fire0 X_routes0 X_posts0 X_trails0 X_feet0 X_images0 () ++ (u0 G X_act0 X_act ++ (u1 G X_brigade0 X_brigade1 X_brigade2 X_brigade3 X_brigade4 X_brigade5 r71.2 ++ (u3 G X_feet0 X_feet1 X_feet ++ (u4 G X_fire0 X_fire_after0 X_fire_act0 X_fire ++ (u0 G X_fire_act0 X_fire_act ++ (u1 G X_fire_after0 X_fire_after1 X_fire_after2 X_fire_after3 X_fire_after4 X_fire_after5 X_fire_after ++ (u5 G X_pad0 X_pad1 X_pad ++ (u6 G X_posts0 X_posts1 X_posts2 X_posts ++ (u7 G X_routes0 X_routes1 X_routes ++ (u8 G X_trails0 X_trails1 X_trails2 X_trails ++ (imC G X_images0 x0 x1 I0 I1)))))))))))) (w' := u9 G X0 X_brigade0 X_pad0 X_act0 X_fire0 X_routes0 X_posts0 X_trails0 X_feet0 X_images0 () ++ (u0 G X_act0 X_act ++ (u1 G X_brigade0 X_brigade1 X_brigade2 X_brigade3 X_brigade4 X_brigade5 r71.2 ++ (u3 G X_feet0 X_feet1 X_feet ++ (u4 G X_fire0 X_fire_after0 X_fire_act0 X_fire ++ (u0 G X_fire_act0 X_fire_act ++ (u1 G X_fire_after0 X_fire_after1 X_fire_after2 X_fire_after3 X_fire_after4 X_fire_after5 X_fire_after ++ (u5 G X_pad0 X_pad1 X_pad ++ (u6 G X_posts0 X_posts1 X_posts2 X_posts ++ (u7 G X_routes0 X_routes1 X_routes ++ (u8 G X_trails0 X_trails1 X_trails2 X_trails ++ (u10 G M0 M1 M2 M3 M4 M5 M6 M7 M8 M9 M10 M11 M12 r73.2 ++ (imC G X_images0 x0 x1 I0 I1))))))))))))) C cfL_77 viL_77 (m10_felt_k l G M0 M1 M2 M3 M4 M5 M6 M7 M8 M9 M10 M11 M12 M (xs (Int32.toNatClampNeg (x3 + (1 : Int32)))) (0 : Int32) r73 k74) dL_law_577 (by decide) ⟨by show cs ≤ 600000; omega, by show sl ≤ 7302250; omega⟩ rfl rfl (Nat.le_of_ble_eq_true rfl) rfl [28, 29, 30, 31, 32, 33, 34, 35, 36, 37, 38, 39, 40] [0, 1, 2, 3, 4, 5, 6, 7, 8, 9, 10, 11, 12, 13, 14, 15, 16, 17, 18, 19, 20, 21, 22, 23, 24, 25, 26, 27, 41] [0, 1, 2, 3, 4, 5, 6, 7, 8, 9, 10, 11, 12, 13, 14, 15, 16, 17, 18, 19, 20, 21, 22, 23, 24, 25, 26, 27, 29, 30, 31, 32, 33, 34, 35, 36, 37, 38, 39, 40, 41, 28] rfl rfl (by decide) rfl ?_
            refine go_icmp_eq (tgt := 843) C h dL_law_580 rfl (fun h => ?_) (fun h => ?_)
            · refine go_iincN (lf := fun v75 => [(3, .int v75), (0, .ref b), (1, .ref X0), (2, .ref M0)]) C h dL_law_843 3 rfl rfl (by decide) (fun _ => rfl) (fun v75 h => ?_)
              refine go_lv (lv' := [(0, .ref b), (1, .ref X0), (2, .ref M0), (3, .int v75)]) [1, 2, 3, 0] rfl ?_
              refine go_goto (tgt := 18) C dL_law_846 rfl ?_
              exact ih v75 X_act r71.2 X_feet X_fire X_fire_act X_fire_after X_pad X_posts X_routes X_trails I0 I1 r73.2 x0 x1 cs sl (by omega) (by omega) h
            · refine go_iconst (v := 0) C dL_law_583 rfl ?_
              exact absurd h (by decide)
          · refine go_iconst (v := 1) C dL_law_572 rfl ?_
            refine go_goto (tgt := 577) C dL_law_573 rfl ?_
            obtain ⟨r76, k77, h⟩ := tbd_e h
            refine go_callVT (q0 := 28) (wr := u9 G X0 X_brigade0 X_pad0 X_act0 X_fire0 X_routes0 X_posts0 X_trails0 X_feet0 X_images0 () ++ (u0 G X_act0 X_act ++ (u1 G X_brigade0 X_brigade1 X_brigade2 X_brigade3 X_brigade4 X_brigade5 r71.2 ++ (u3 G X_feet0 X_feet1 X_feet ++ (u4 G X_fire0 X_fire_after0 X_fire_act0 X_fire ++ (u0 G X_fire_act0 X_fire_act ++ (u1 G X_fire_after0 X_fire_after1 X_fire_after2 X_fire_after3 X_fire_after4 X_fire_after5 X_fire_after ++ (u5 G X_pad0 X_pad1 X_pad ++ (u6 G X_posts0 X_posts1 X_posts2 X_posts ++ (u7 G X_routes0 X_routes1 X_routes ++ (u8 G X_trails0 X_trails1 X_trails2 X_trails ++ (imC G X_images0 x0 x1 I0 I1)))))))))))) (w' := u9 G X0 X_brigade0 X_pad0 X_act0 X_fire0 X_routes0 X_posts0 X_trails0 X_feet0 X_images0 () ++ (u0 G X_act0 X_act ++ (u1 G X_brigade0 X_brigade1 X_brigade2 X_brigade3 X_brigade4 X_brigade5 r71.2 ++ (u3 G X_feet0 X_feet1 X_feet ++ (u4 G X_fire0 X_fire_after0 X_fire_act0 X_fire ++ (u0 G X_fire_act0 X_fire_act ++ (u1 G X_fire_after0 X_fire_after1 X_fire_after2 X_fire_after3 X_fire_after4 X_fire_after5 X_fire_after ++ (u5 G X_pad0 X_pad1 X_pad ++ (u6 G X_posts0 X_posts1 X_posts2 X_posts ++ (u7 G X_routes0 X_routes1 X_routes ++ (u8 G X_trails0 X_trails1 X_trails2 X_trails ++ (u10 G M0 M1 M2 M3 M4 M5 M6 M7 M8 M9 M10 M11 M12 r76.2 ++ (imC G X_images0 x0 x1 I0 I1))))))))))))) C cfL_77 viL_77 (m10_felt_k l G M0 M1 M2 M3 M4 M5 M6 M7 M8 M9 M10 M11 M12 M (xs (Int32.toNatClampNeg (x3 + (1 : Int32)))) (1 : Int32) r76 k77) dL_law_577 (by decide) ⟨by show cs ≤ 600000; omega, by show sl ≤ 7302250; omega⟩ rfl rfl (Nat.le_of_ble_eq_true rfl) rfl [28, 29, 30, 31, 32, 33, 34, 35, 36, 37, 38, 39, 40] [0, 1, 2, 3, 4, 5, 6, 7, 8, 9, 10, 11, 12, 13, 14, 15, 16, 17, 18, 19, 20, 21, 22, 23, 24, 25, 26, 27, 41] [0, 1, 2, 3, 4, 5, 6, 7, 8, 9, 10, 11, 12, 13, 14, 15, 16, 17, 18, 19, 20, 21, 22, 23, 24, 25, 26, 27, 29, 30, 31, 32, 33, 34, 35, 36, 37, 38, 39, 40, 41, 28] rfl rfl (by decide) rfl ?_
            refine go_icmp_eq (tgt := 843) C h dL_law_580 rfl (fun h => ?_) (fun h => ?_)
            · refine go_iincN (lf := fun v78 => [(3, .int v78), (0, .ref b), (1, .ref X0), (2, .ref M0)]) C h dL_law_843 3 rfl rfl (by decide) (fun _ => rfl) (fun v78 h => ?_)
              refine go_lv (lv' := [(0, .ref b), (1, .ref X0), (2, .ref M0), (3, .int v78)]) [1, 2, 3, 0] rfl ?_
              refine go_goto (tgt := 18) C dL_law_846 rfl ?_
              exact ih v78 X_act r71.2 X_feet X_fire X_fire_act X_fire_after X_pad X_posts X_routes X_trails I0 I1 r76.2 x0 x1 cs sl (by omega) (by omega) h
            · refine go_iconst (v := 0) C dL_law_583 rfl ?_
              exact absurd h (by decide)
        · refine go_iconst (v := 1) C dL_law_550 rfl ?_
          refine go_goto (tgt := 555) C dL_law_551 rfl ?_
          obtain ⟨r79, k80, h⟩ := tbd_e h
          refine go_callVT (q0 := 0) (wr := u0 G X_act0 X_act ++ (u3 G X_feet0 X_feet1 X_feet ++ (u4 G X_fire0 X_fire_after0 X_fire_act0 X_fire ++ (u0 G X_fire_act0 X_fire_act ++ (u1 G X_fire_after0 X_fire_after1 X_fire_after2 X_fire_after3 X_fire_after4 X_fire_after5 X_fire_after ++ (u5 G X_pad0 X_pad1 X_pad ++ (u6 G X_posts0 X_posts1 X_posts2 X_posts ++ (u7 G X_routes0 X_routes1 X_routes ++ (u8 G X_trails0 X_trails1 X_trails2 X_trails ++ (u10 G M0 M1 M2 M3 M4 M5 M6 M7 M8 M9 M10 M11 M12 M ++ (imC G X_images0 x0 x1 I0 I1))))))))))) (w' := u9 G X0 X_brigade0 X_pad0 X_act0 X_fire0 X_routes0 X_posts0 X_trails0 X_feet0 X_images0 () ++ (u0 G X_act0 X_act ++ (u1 G X_brigade0 X_brigade1 X_brigade2 X_brigade3 X_brigade4 X_brigade5 r79.2 ++ (u3 G X_feet0 X_feet1 X_feet ++ (u4 G X_fire0 X_fire_after0 X_fire_act0 X_fire ++ (u0 G X_fire_act0 X_fire_act ++ (u1 G X_fire_after0 X_fire_after1 X_fire_after2 X_fire_after3 X_fire_after4 X_fire_after5 X_fire_after ++ (u5 G X_pad0 X_pad1 X_pad ++ (u6 G X_posts0 X_posts1 X_posts2 X_posts ++ (u7 G X_routes0 X_routes1 X_routes ++ (u8 G X_trails0 X_trails1 X_trails2 X_trails ++ (u10 G M0 M1 M2 M3 M4 M5 M6 M7 M8 M9 M10 M11 M12 M ++ (imC G X_images0 x0 x1 I0 I1))))))))))))) C cfL_73 viL_73 (m9_felt_k l G X0 X_brigade0 X_pad0 X_act0 X_fire0 X_routes0 X_posts0 X_trails0 X_feet0 X_images0 X_brigade1 X_brigade2 X_brigade3 X_brigade4 X_brigade5 () X_brigade (xs (Int32.toNatClampNeg (x3 + (1 : Int32)))) (1 : Int32) r79 k80) dL_law_555 (by decide) ⟨by show cs ≤ 600000; omega, by show sl ≤ 7302250; omega⟩ rfl rfl (Nat.le_of_ble_eq_true rfl) rfl [0, 2, 3, 4, 5, 6, 7] [1, 8, 9, 10, 11, 12, 13, 14, 15, 16, 17, 18, 19, 20, 21, 22, 23, 24, 25, 26, 27, 28, 29, 30, 31, 32, 33, 34, 35, 36, 37, 38, 39, 40, 41] [35, 0, 36, 37, 38, 39, 40, 41, 1, 2, 3, 4, 5, 6, 7, 8, 9, 10, 11, 12, 13, 14, 15, 16, 17, 18, 19, 20, 21, 22, 23, 24, 25, 26, 27, 28, 29, 30, 31, 32, 33, 34] rfl rfl (by decide) rfl ?_
          refine go_aload_n C dL_law_558 2 rfl ?_
          refine go_aload_n C dL_law_559 0 rfl ?_
          refine go_iload_n C dL_law_560 3 rfl ?_
          refine go_iconst (v := 1) C dL_law_561 rfl ?_
          refine go_iadd C dL_law_562 ?_
          refine go_sldG C hX hbl hbA h dL_law_563 (fun h => ?_)
          refine go_aload_n C dL_law_564 0 rfl ?_
          refine go_iload_n C dL_law_565 3 rfl ?_
          refine go_iconst (v := 2) C dL_law_566 rfl ?_
          refine go_iadd C dL_law_567 ?_
          refine go_sldG C hX hbl hbA h dL_law_568 (fun h => ?_)
          refine go_if_eq (tgt := 576) C h dL_law_569 rfl (fun h => ?_) (fun h => ?_)
          · refine go_iconst (v := 0) C dL_law_576 rfl ?_
            obtain ⟨r81, k82, h⟩ := tbd_e h
            refine go_callVT (q0 := 28) (wr := u9 G X0 X_brigade0 X_pad0 X_act0 X_fire0 X_routes0 X_posts0 X_trails0 X_feet0 X_images0 () ++ (u0 G X_act0 X_act ++ (u1 G X_brigade0 X_brigade1 X_brigade2 X_brigade3 X_brigade4 X_brigade5 r79.2 ++ (u3 G X_feet0 X_feet1 X_feet ++ (u4 G X_fire0 X_fire_after0 X_fire_act0 X_fire ++ (u0 G X_fire_act0 X_fire_act ++ (u1 G X_fire_after0 X_fire_after1 X_fire_after2 X_fire_after3 X_fire_after4 X_fire_after5 X_fire_after ++ (u5 G X_pad0 X_pad1 X_pad ++ (u6 G X_posts0 X_posts1 X_posts2 X_posts ++ (u7 G X_routes0 X_routes1 X_routes ++ (u8 G X_trails0 X_trails1 X_trails2 X_trails ++ (imC G X_images0 x0 x1 I0 I1)))))))))))) (w' := u9 G X0 X_brigade0 X_pad0 X_act0 X_fire0 X_routes0 X_posts0 X_trails0 X_feet0 X_images0 () ++ (u0 G X_act0 X_act ++ (u1 G X_brigade0 X_brigade1 X_brigade2 X_brigade3 X_brigade4 X_brigade5 r79.2 ++ (u3 G X_feet0 X_feet1 X_feet ++ (u4 G X_fire0 X_fire_after0 X_fire_act0 X_fire ++ (u0 G X_fire_act0 X_fire_act ++ (u1 G X_fire_after0 X_fire_after1 X_fire_after2 X_fire_after3 X_fire_after4 X_fire_after5 X_fire_after ++ (u5 G X_pad0 X_pad1 X_pad ++ (u6 G X_posts0 X_posts1 X_posts2 X_posts ++ (u7 G X_routes0 X_routes1 X_routes ++ (u8 G X_trails0 X_trails1 X_trails2 X_trails ++ (u10 G M0 M1 M2 M3 M4 M5 M6 M7 M8 M9 M10 M11 M12 r81.2 ++ (imC G X_images0 x0 x1 I0 I1))))))))))))) C cfL_77 viL_77 (m10_felt_k l G M0 M1 M2 M3 M4 M5 M6 M7 M8 M9 M10 M11 M12 M (xs (Int32.toNatClampNeg (x3 + (1 : Int32)))) (0 : Int32) r81 k82) dL_law_577 (by decide) ⟨by show cs ≤ 600000; omega, by show sl ≤ 7302250; omega⟩ rfl rfl (Nat.le_of_ble_eq_true rfl) rfl [28, 29, 30, 31, 32, 33, 34, 35, 36, 37, 38, 39, 40] [0, 1, 2, 3, 4, 5, 6, 7, 8, 9, 10, 11, 12, 13, 14, 15, 16, 17, 18, 19, 20, 21, 22, 23, 24, 25, 26, 27, 41] [0, 1, 2, 3, 4, 5, 6, 7, 8, 9, 10, 11, 12, 13, 14, 15, 16, 17, 18, 19, 20, 21, 22, 23, 24, 25, 26, 27, 29, 30, 31, 32, 33, 34, 35, 36, 37, 38, 39, 40, 41, 28] rfl rfl (by decide) rfl ?_
            refine go_icmp_eq (tgt := 843) C h dL_law_580 rfl (fun h => ?_) (fun h => ?_)
            · refine go_iincN (lf := fun v83 => [(3, .int v83), (0, .ref b), (1, .ref X0), (2, .ref M0)]) C h dL_law_843 3 rfl rfl (by decide) (fun _ => rfl) (fun v83 h => ?_)
              refine go_lv (lv' := [(0, .ref b), (1, .ref X0), (2, .ref M0), (3, .int v83)]) [1, 2, 3, 0] rfl ?_
              refine go_goto (tgt := 18) C dL_law_846 rfl ?_
              exact ih v83 X_act r79.2 X_feet X_fire X_fire_act X_fire_after X_pad X_posts X_routes X_trails I0 I1 r81.2 x0 x1 cs sl (by omega) (by omega) h
            · refine go_iconst (v := 0) C dL_law_583 rfl ?_
              exact absurd h (by decide)
          · refine go_iconst (v := 1) C dL_law_572 rfl ?_
            refine go_goto (tgt := 577) C dL_law_573 rfl ?_
            obtain ⟨r84, k85, h⟩ := tbd_e h
            refine go_callVT (q0 := 28) (wr := u9 G X0 X_brigade0 X_pad0 X_act0 X_fire0 X_routes0 X_posts0 X_trails0 X_feet0 X_images0 () ++ (u0 G X_act0 X_act ++ (u1 G X_brigade0 X_brigade1 X_brigade2 X_brigade3 X_brigade4 X_brigade5 r79.2 ++ (u3 G X_feet0 X_feet1 X_feet ++ (u4 G X_fire0 X_fire_after0 X_fire_act0 X_fire ++ (u0 G X_fire_act0 X_fire_act ++ (u1 G X_fire_after0 X_fire_after1 X_fire_after2 X_fire_after3 X_fire_after4 X_fire_after5 X_fire_after ++ (u5 G X_pad0 X_pad1 X_pad ++ (u6 G X_posts0 X_posts1 X_posts2 X_posts ++ (u7 G X_routes0 X_routes1 X_routes ++ (u8 G X_trails0 X_trails1 X_trails2 X_trails ++ (imC G X_images0 x0 x1 I0 I1)))))))))))) (w' := u9 G X0 X_brigade0 X_pad0 X_act0 X_fire0 X_routes0 X_posts0 X_trails0 X_feet0 X_images0 () ++ (u0 G X_act0 X_act ++ (u1 G X_brigade0 X_brigade1 X_brigade2 X_brigade3 X_brigade4 X_brigade5 r79.2 ++ (u3 G X_feet0 X_feet1 X_feet ++ (u4 G X_fire0 X_fire_after0 X_fire_act0 X_fire ++ (u0 G X_fire_act0 X_fire_act ++ (u1 G X_fire_after0 X_fire_after1 X_fire_after2 X_fire_after3 X_fire_after4 X_fire_after5 X_fire_after ++ (u5 G X_pad0 X_pad1 X_pad ++ (u6 G X_posts0 X_posts1 X_posts2 X_posts ++ (u7 G X_routes0 X_routes1 X_routes ++ (u8 G X_trails0 X_trails1 X_trails2 X_trails ++ (u10 G M0 M1 M2 M3 M4 M5 M6 M7 M8 M9 M10 M11 M12 r84.2 ++ (imC G X_images0 x0 x1 I0 I1))))))))))))) C cfL_77 viL_77 (m10_felt_k l G M0 M1 M2 M3 M4 M5 M6 M7 M8 M9 M10 M11 M12 M (xs (Int32.toNatClampNeg (x3 + (1 : Int32)))) (1 : Int32) r84 k85) dL_law_577 (by decide) ⟨by show cs ≤ 600000; omega, by show sl ≤ 7302250; omega⟩ rfl rfl (Nat.le_of_ble_eq_true rfl) rfl [28, 29, 30, 31, 32, 33, 34, 35, 36, 37, 38, 39, 40] [0, 1, 2, 3, 4, 5, 6, 7, 8, 9, 10, 11, 12, 13, 14, 15, 16, 17, 18, 19, 20, 21, 22, 23, 24, 25, 26, 27, 41] [0, 1, 2, 3, 4, 5, 6, 7, 8, 9, 10, 11, 12, 13, 14, 15, 16, 17, 18, 19, 20, 21, 22, 23, 24, 25, 26, 27, 29, 30, 31, 32, 33, 34, 35, 36, 37, 38, 39, 40, 41, 28] rfl rfl (by decide) rfl ?_
            refine go_icmp_eq (tgt := 843) C h dL_law_580 rfl (fun h => ?_) (fun h => ?_)
            · refine go_iincN (lf := fun v86 => [(3, .int v86), (0, .ref b), (1, .ref X0), (2, .ref M0)]) C h dL_law_843 3 rfl rfl (by decide) (fun _ => rfl) (fun v86 h => ?_)
              refine go_lv (lv' := [(0, .ref b), (1, .ref X0), (2, .ref M0), (3, .int v86)]) [1, 2, 3, 0] rfl ?_
              refine go_goto (tgt := 18) C dL_law_846 rfl ?_
              exact ih v86 X_act r79.2 X_feet X_fire X_fire_act X_fire_after X_pad X_posts X_routes X_trails I0 I1 r84.2 x0 x1 cs sl (by omega) (by omega) h
            · refine go_iconst (v := 0) C dL_law_583 rfl ?_
              exact absurd h (by decide)
      refine go_ite h (fun q h => ?_) (fun q15 h => ?_)
      · refine go_tabIn (off := 553) (tgt := 585) C dL_law_32 q (by decide) (by decide) rfl ?_
        refine go_aload_n C dL_law_585 1 rfl ?_
        obtain ⟨r87, k88, h⟩ := tbd_e h
        refine go_callVT (q0 := 0) (wr := u0 G X_act0 X_act ++ (u3 G X_feet0 X_feet1 X_feet ++ (u4 G X_fire0 X_fire_after0 X_fire_act0 X_fire ++ (u0 G X_fire_act0 X_fire_act ++ (u1 G X_fire_after0 X_fire_after1 X_fire_after2 X_fire_after3 X_fire_after4 X_fire_after5 X_fire_after ++ (u5 G X_pad0 X_pad1 X_pad ++ (u6 G X_posts0 X_posts1 X_posts2 X_posts ++ (u7 G X_routes0 X_routes1 X_routes ++ (u8 G X_trails0 X_trails1 X_trails2 X_trails ++ (u10 G M0 M1 M2 M3 M4 M5 M6 M7 M8 M9 M10 M11 M12 M ++ (imC G X_images0 x0 x1 I0 I1))))))))))) (w' := u9 G X0 X_brigade0 X_pad0 X_act0 X_fire0 X_routes0 X_posts0 X_trails0 X_feet0 X_images0 () ++ (u0 G X_act0 X_act ++ (u1 G X_brigade0 X_brigade1 X_brigade2 X_brigade3 X_brigade4 X_brigade5 r87.2 ++ (u3 G X_feet0 X_feet1 X_feet ++ (u4 G X_fire0 X_fire_after0 X_fire_act0 X_fire ++ (u0 G X_fire_act0 X_fire_act ++ (u1 G X_fire_after0 X_fire_after1 X_fire_after2 X_fire_after3 X_fire_after4 X_fire_after5 X_fire_after ++ (u5 G X_pad0 X_pad1 X_pad ++ (u6 G X_posts0 X_posts1 X_posts2 X_posts ++ (u7 G X_routes0 X_routes1 X_routes ++ (u8 G X_trails0 X_trails1 X_trails2 X_trails ++ (u10 G M0 M1 M2 M3 M4 M5 M6 M7 M8 M9 M10 M11 M12 M ++ (imC G X_images0 x0 x1 I0 I1))))))))))))) C cfL_78 viL_78 (m9_forget_k l G X0 X_brigade0 X_pad0 X_act0 X_fire0 X_routes0 X_posts0 X_trails0 X_feet0 X_images0 X_brigade1 X_brigade2 X_brigade3 X_brigade4 X_brigade5 () X_brigade r87 k88) dL_law_586 (by decide) ⟨by show cs ≤ 600000; omega, by show sl ≤ 7302250; omega⟩ rfl rfl (Nat.le_of_ble_eq_true rfl) rfl [0, 2, 3, 4, 5, 6, 7] [1, 8, 9, 10, 11, 12, 13, 14, 15, 16, 17, 18, 19, 20, 21, 22, 23, 24, 25, 26, 27, 28, 29, 30, 31, 32, 33, 34, 35, 36, 37, 38, 39, 40, 41] [35, 0, 36, 37, 38, 39, 40, 41, 1, 2, 3, 4, 5, 6, 7, 8, 9, 10, 11, 12, 13, 14, 15, 16, 17, 18, 19, 20, 21, 22, 23, 24, 25, 26, 27, 28, 29, 30, 31, 32, 33, 34] rfl rfl (by decide) rfl ?_
        refine go_aload_n C dL_law_589 2 rfl ?_
        obtain ⟨r89, k90, h⟩ := tbd_e h
        refine go_callVT (q0 := 28) (wr := u9 G X0 X_brigade0 X_pad0 X_act0 X_fire0 X_routes0 X_posts0 X_trails0 X_feet0 X_images0 () ++ (u0 G X_act0 X_act ++ (u1 G X_brigade0 X_brigade1 X_brigade2 X_brigade3 X_brigade4 X_brigade5 r87.2 ++ (u3 G X_feet0 X_feet1 X_feet ++ (u4 G X_fire0 X_fire_after0 X_fire_act0 X_fire ++ (u0 G X_fire_act0 X_fire_act ++ (u1 G X_fire_after0 X_fire_after1 X_fire_after2 X_fire_after3 X_fire_after4 X_fire_after5 X_fire_after ++ (u5 G X_pad0 X_pad1 X_pad ++ (u6 G X_posts0 X_posts1 X_posts2 X_posts ++ (u7 G X_routes0 X_routes1 X_routes ++ (u8 G X_trails0 X_trails1 X_trails2 X_trails ++ (imC G X_images0 x0 x1 I0 I1)))))))))))) (w' := u9 G X0 X_brigade0 X_pad0 X_act0 X_fire0 X_routes0 X_posts0 X_trails0 X_feet0 X_images0 () ++ (u0 G X_act0 X_act ++ (u1 G X_brigade0 X_brigade1 X_brigade2 X_brigade3 X_brigade4 X_brigade5 r87.2 ++ (u3 G X_feet0 X_feet1 X_feet ++ (u4 G X_fire0 X_fire_after0 X_fire_act0 X_fire ++ (u0 G X_fire_act0 X_fire_act ++ (u1 G X_fire_after0 X_fire_after1 X_fire_after2 X_fire_after3 X_fire_after4 X_fire_after5 X_fire_after ++ (u5 G X_pad0 X_pad1 X_pad ++ (u6 G X_posts0 X_posts1 X_posts2 X_posts ++ (u7 G X_routes0 X_routes1 X_routes ++ (u8 G X_trails0 X_trails1 X_trails2 X_trails ++ (u10 G M0 M1 M2 M3 M4 M5 M6 M7 M8 M9 M10 M11 M12 r89.2 ++ (imC G X_images0 x0 x1 I0 I1))))))))))))) C cfL_81 viL_81 (m10_forget_k l G M0 M1 M2 M3 M4 M5 M6 M7 M8 M9 M10 M11 M12 M r89 k90) dL_law_590 (by decide) ⟨by show cs ≤ 600000; omega, by show sl ≤ 7302250; omega⟩ rfl rfl (Nat.le_of_ble_eq_true rfl) rfl [28, 29, 30, 31, 32, 33, 34, 35, 36, 37, 38, 39, 40] [0, 1, 2, 3, 4, 5, 6, 7, 8, 9, 10, 11, 12, 13, 14, 15, 16, 17, 18, 19, 20, 21, 22, 23, 24, 25, 26, 27, 41] [0, 1, 2, 3, 4, 5, 6, 7, 8, 9, 10, 11, 12, 13, 14, 15, 16, 17, 18, 19, 20, 21, 22, 23, 24, 25, 26, 27, 29, 30, 31, 32, 33, 34, 35, 36, 37, 38, 39, 40, 41, 28] rfl rfl (by decide) rfl ?_
        refine go_icmp_eq (tgt := 843) C h dL_law_593 rfl (fun h => ?_) (fun h => ?_)
        · refine go_iincN (lf := fun v91 => [(3, .int v91), (0, .ref b), (1, .ref X0), (2, .ref M0)]) C h dL_law_843 3 rfl rfl (by decide) (fun _ => rfl) (fun v91 h => ?_)
          refine go_lv (lv' := [(0, .ref b), (1, .ref X0), (2, .ref M0), (3, .int v91)]) [1, 2, 3, 0] rfl ?_
          refine go_goto (tgt := 18) C dL_law_846 rfl ?_
          exact ih v91 X_act r87.2 X_feet X_fire X_fire_act X_fire_after X_pad X_posts X_routes X_trails I0 I1 r89.2 x0 x1 cs sl (by omega) (by omega) h
        · refine go_iconst (v := 0) C dL_law_596 rfl ?_
          exact absurd h (by decide)
      refine go_ite h (fun q h => ?_) (fun q16 h => ?_)
      · refine go_tabIn (off := 566) (tgt := 598) C dL_law_32 q (by decide) (by decide) rfl ?_
        refine go_aload_n C dL_law_598 1 rfl ?_
        refine go_aload_n C dL_law_599 0 rfl ?_
        refine go_iload_n C dL_law_600 3 rfl ?_
        refine go_iconst (v := 1) C dL_law_601 rfl ?_
        refine go_iadd C dL_law_602 ?_
        refine go_sldG C hX hbl hbA h dL_law_603 (fun h => ?_)
        obtain ⟨r92, k93, h⟩ := tbd_e h
        refine go_callVT (q0 := 0) (wr := u0 G X_act0 X_act ++ (u3 G X_feet0 X_feet1 X_feet ++ (u4 G X_fire0 X_fire_after0 X_fire_act0 X_fire ++ (u0 G X_fire_act0 X_fire_act ++ (u1 G X_fire_after0 X_fire_after1 X_fire_after2 X_fire_after3 X_fire_after4 X_fire_after5 X_fire_after ++ (u5 G X_pad0 X_pad1 X_pad ++ (u6 G X_posts0 X_posts1 X_posts2 X_posts ++ (u7 G X_routes0 X_routes1 X_routes ++ (u10 G M0 M1 M2 M3 M4 M5 M6 M7 M8 M9 M10 M11 M12 M ++ (imC G X_images0 x0 x1 I0 I1)))))))))) (w' := u9 G X0 X_brigade0 X_pad0 X_act0 X_fire0 X_routes0 X_posts0 X_trails0 X_feet0 X_images0 () ++ (u0 G X_act0 X_act ++ (u1 G X_brigade0 X_brigade1 X_brigade2 X_brigade3 X_brigade4 X_brigade5 X_brigade ++ (u3 G X_feet0 X_feet1 X_feet ++ (u4 G X_fire0 X_fire_after0 X_fire_act0 X_fire ++ (u0 G X_fire_act0 X_fire_act ++ (u1 G X_fire_after0 X_fire_after1 X_fire_after2 X_fire_after3 X_fire_after4 X_fire_after5 X_fire_after ++ (u5 G X_pad0 X_pad1 X_pad ++ (u6 G X_posts0 X_posts1 X_posts2 X_posts ++ (u7 G X_routes0 X_routes1 X_routes ++ (u8 G X_trails0 X_trails1 X_trails2 r92.2 ++ (u10 G M0 M1 M2 M3 M4 M5 M6 M7 M8 M9 M10 M11 M12 M ++ (imC G X_images0 x0 x1 I0 I1))))))))))))) C cfL_82 viL_82 (m9_ups_k l G X0 X_brigade0 X_pad0 X_act0 X_fire0 X_routes0 X_posts0 X_trails0 X_feet0 X_images0 X_brigade1 X_brigade2 X_brigade3 X_brigade4 X_brigade5 X_trails1 X_trails2 () X_brigade X_trails (xs (Int32.toNatClampNeg (x3 + (1 : Int32)))) r92 k93) dL_law_604 (by decide) ⟨by show cs ≤ 600000; omega, by show sl ≤ 7302250; omega⟩ rfl rfl (Nat.le_of_ble_eq_true rfl) rfl [0, 2, 3, 4, 5, 6, 7, 25, 26, 27] [1, 8, 9, 10, 11, 12, 13, 14, 15, 16, 17, 18, 19, 20, 21, 22, 23, 24, 28, 29, 30, 31, 32, 33, 34, 35, 36, 37, 38, 39, 40, 41] [32, 0, 33, 34, 35, 36, 37, 38, 1, 2, 3, 4, 5, 6, 7, 8, 9, 10, 11, 12, 13, 14, 15, 16, 17, 39, 40, 41, 18, 19, 20, 21, 22, 23, 24, 25, 26, 27, 28, 29, 30, 31] rfl rfl (by decide) rfl ?_
        refine go_aload_n C dL_law_607 2 rfl ?_
        refine go_aload_n C dL_law_608 0 rfl ?_
        refine go_iload_n C dL_law_609 3 rfl ?_
        refine go_iconst (v := 1) C dL_law_610 rfl ?_
        refine go_iadd C dL_law_611 ?_
        refine go_sldG C hX hbl hbA h dL_law_612 (fun h => ?_)
        obtain ⟨r94, k95, h⟩ := tbd_e h
        refine go_callVT (q0 := 28) (wr := u9 G X0 X_brigade0 X_pad0 X_act0 X_fire0 X_routes0 X_posts0 X_trails0 X_feet0 X_images0 () ++ (u0 G X_act0 X_act ++ (u1 G X_brigade0 X_brigade1 X_brigade2 X_brigade3 X_brigade4 X_brigade5 X_brigade ++ (u3 G X_feet0 X_feet1 X_feet ++ (u4 G X_fire0 X_fire_after0 X_fire_act0 X_fire ++ (u0 G X_fire_act0 X_fire_act ++ (u1 G X_fire_after0 X_fire_after1 X_fire_after2 X_fire_after3 X_fire_after4 X_fire_after5 X_fire_after ++ (u5 G X_pad0 X_pad1 X_pad ++ (u6 G X_posts0 X_posts1 X_posts2 X_posts ++ (u7 G X_routes0 X_routes1 X_routes ++ (u8 G X_trails0 X_trails1 X_trails2 r92.2 ++ (imC G X_images0 x0 x1 I0 I1)))))))))))) (w' := u9 G X0 X_brigade0 X_pad0 X_act0 X_fire0 X_routes0 X_posts0 X_trails0 X_feet0 X_images0 () ++ (u0 G X_act0 X_act ++ (u1 G X_brigade0 X_brigade1 X_brigade2 X_brigade3 X_brigade4 X_brigade5 X_brigade ++ (u3 G X_feet0 X_feet1 X_feet ++ (u4 G X_fire0 X_fire_after0 X_fire_act0 X_fire ++ (u0 G X_fire_act0 X_fire_act ++ (u1 G X_fire_after0 X_fire_after1 X_fire_after2 X_fire_after3 X_fire_after4 X_fire_after5 X_fire_after ++ (u5 G X_pad0 X_pad1 X_pad ++ (u6 G X_posts0 X_posts1 X_posts2 X_posts ++ (u7 G X_routes0 X_routes1 X_routes ++ (u8 G X_trails0 X_trails1 X_trails2 r92.2 ++ (u10 G M0 M1 M2 M3 M4 M5 M6 M7 M8 M9 M10 M11 M12 r94.2 ++ (imC G X_images0 x0 x1 I0 I1))))))))))))) C cfL_85 viL_85 (m10_ups_k l G M0 M1 M2 M3 M4 M5 M6 M7 M8 M9 M10 M11 M12 M (xs (Int32.toNatClampNeg (x3 + (1 : Int32)))) r94 k95) dL_law_613 (by decide) ⟨by show cs ≤ 600000; omega, by show sl ≤ 7302250; omega⟩ rfl rfl (Nat.le_of_ble_eq_true rfl) rfl [28, 29, 30, 31, 32, 33, 34, 35, 36, 37, 38, 39, 40] [0, 1, 2, 3, 4, 5, 6, 7, 8, 9, 10, 11, 12, 13, 14, 15, 16, 17, 18, 19, 20, 21, 22, 23, 24, 25, 26, 27, 41] [0, 1, 2, 3, 4, 5, 6, 7, 8, 9, 10, 11, 12, 13, 14, 15, 16, 17, 18, 19, 20, 21, 22, 23, 24, 25, 26, 27, 29, 30, 31, 32, 33, 34, 35, 36, 37, 38, 39, 40, 41, 28] rfl rfl (by decide) rfl ?_
        refine go_icmp_eq (tgt := 843) C h dL_law_616 rfl (fun h => ?_) (fun h => ?_)
        · refine go_iincN (lf := fun v96 => [(3, .int v96), (0, .ref b), (1, .ref X0), (2, .ref M0)]) C h dL_law_843 3 rfl rfl (by decide) (fun _ => rfl) (fun v96 h => ?_)
          refine go_lv (lv' := [(0, .ref b), (1, .ref X0), (2, .ref M0), (3, .int v96)]) [1, 2, 3, 0] rfl ?_
          refine go_goto (tgt := 18) C dL_law_846 rfl ?_
          exact ih v96 X_act X_brigade X_feet X_fire X_fire_act X_fire_after X_pad X_posts X_routes r92.2 I0 I1 r94.2 x0 x1 cs sl (by omega) (by omega) h
        · refine go_iconst (v := 0) C dL_law_619 rfl ?_
          exact absurd h (by decide)
      refine go_ite h (fun q h => ?_) (fun q17 h => ?_)
      · refine go_tabIn (off := 589) (tgt := 621) C dL_law_32 q (by decide) (by decide) rfl ?_
        refine go_aload_n C dL_law_621 1 rfl ?_
        refine go_aload_n C dL_law_622 0 rfl ?_
        refine go_iload_n C dL_law_623 3 rfl ?_
        refine go_iconst (v := 1) C dL_law_624 rfl ?_
        refine go_iadd C dL_law_625 ?_
        refine go_sldG C hX hbl hbA h dL_law_626 (fun h => ?_)
        obtain ⟨r97, k98, h⟩ := tbd_e h
        refine go_callVT (q0 := 0) (wr := u0 G X_act0 X_act ++ (u3 G X_feet0 X_feet1 X_feet ++ (u4 G X_fire0 X_fire_after0 X_fire_act0 X_fire ++ (u0 G X_fire_act0 X_fire_act ++ (u1 G X_fire_after0 X_fire_after1 X_fire_after2 X_fire_after3 X_fire_after4 X_fire_after5 X_fire_after ++ (u5 G X_pad0 X_pad1 X_pad ++ (u6 G X_posts0 X_posts1 X_posts2 X_posts ++ (u7 G X_routes0 X_routes1 X_routes ++ (u10 G M0 M1 M2 M3 M4 M5 M6 M7 M8 M9 M10 M11 M12 M ++ (imC G X_images0 x0 x1 I0 I1)))))))))) (w' := u9 G X0 X_brigade0 X_pad0 X_act0 X_fire0 X_routes0 X_posts0 X_trails0 X_feet0 X_images0 () ++ (u0 G X_act0 X_act ++ (u1 G X_brigade0 X_brigade1 X_brigade2 X_brigade3 X_brigade4 X_brigade5 X_brigade ++ (u3 G X_feet0 X_feet1 X_feet ++ (u4 G X_fire0 X_fire_after0 X_fire_act0 X_fire ++ (u0 G X_fire_act0 X_fire_act ++ (u1 G X_fire_after0 X_fire_after1 X_fire_after2 X_fire_after3 X_fire_after4 X_fire_after5 X_fire_after ++ (u5 G X_pad0 X_pad1 X_pad ++ (u6 G X_posts0 X_posts1 X_posts2 X_posts ++ (u7 G X_routes0 X_routes1 X_routes ++ (u8 G X_trails0 X_trails1 X_trails2 r97.2 ++ (u10 G M0 M1 M2 M3 M4 M5 M6 M7 M8 M9 M10 M11 M12 M ++ (imC G X_images0 x0 x1 I0 I1))))))))))))) C cfL_86 viL_86 (m9_ask_k l G X0 X_brigade0 X_pad0 X_act0 X_fire0 X_routes0 X_posts0 X_trails0 X_feet0 X_images0 X_brigade1 X_brigade2 X_brigade3 X_brigade4 X_brigade5 X_trails1 X_trails2 () X_brigade X_trails (xs (Int32.toNatClampNeg (x3 + (1 : Int32)))) r97 k98) dL_law_627 (by decide) ⟨by show cs ≤ 600000; omega, by show sl ≤ 7302250; omega⟩ rfl rfl (Nat.le_of_ble_eq_true rfl) rfl [0, 2, 3, 4, 5, 6, 7, 25, 26, 27] [1, 8, 9, 10, 11, 12, 13, 14, 15, 16, 17, 18, 19, 20, 21, 22, 23, 24, 28, 29, 30, 31, 32, 33, 34, 35, 36, 37, 38, 39, 40, 41] [32, 0, 33, 34, 35, 36, 37, 38, 1, 2, 3, 4, 5, 6, 7, 8, 9, 10, 11, 12, 13, 14, 15, 16, 17, 39, 40, 41, 18, 19, 20, 21, 22, 23, 24, 25, 26, 27, 28, 29, 30, 31] rfl rfl (by decide) rfl ?_
        refine go_aload_n C dL_law_630 2 rfl ?_
        refine go_aload_n C dL_law_631 0 rfl ?_
        refine go_iload_n C dL_law_632 3 rfl ?_
        refine go_iconst (v := 1) C dL_law_633 rfl ?_
        refine go_iadd C dL_law_634 ?_
        refine go_sldG C hX hbl hbA h dL_law_635 (fun h => ?_)
        obtain ⟨r99, k100, h⟩ := tbd_e h
        refine go_callVT (q0 := 28) (wr := u9 G X0 X_brigade0 X_pad0 X_act0 X_fire0 X_routes0 X_posts0 X_trails0 X_feet0 X_images0 () ++ (u0 G X_act0 X_act ++ (u1 G X_brigade0 X_brigade1 X_brigade2 X_brigade3 X_brigade4 X_brigade5 X_brigade ++ (u3 G X_feet0 X_feet1 X_feet ++ (u4 G X_fire0 X_fire_after0 X_fire_act0 X_fire ++ (u0 G X_fire_act0 X_fire_act ++ (u1 G X_fire_after0 X_fire_after1 X_fire_after2 X_fire_after3 X_fire_after4 X_fire_after5 X_fire_after ++ (u5 G X_pad0 X_pad1 X_pad ++ (u6 G X_posts0 X_posts1 X_posts2 X_posts ++ (u7 G X_routes0 X_routes1 X_routes ++ (u8 G X_trails0 X_trails1 X_trails2 r97.2 ++ (imC G X_images0 x0 x1 I0 I1)))))))))))) (w' := u9 G X0 X_brigade0 X_pad0 X_act0 X_fire0 X_routes0 X_posts0 X_trails0 X_feet0 X_images0 () ++ (u0 G X_act0 X_act ++ (u1 G X_brigade0 X_brigade1 X_brigade2 X_brigade3 X_brigade4 X_brigade5 X_brigade ++ (u3 G X_feet0 X_feet1 X_feet ++ (u4 G X_fire0 X_fire_after0 X_fire_act0 X_fire ++ (u0 G X_fire_act0 X_fire_act ++ (u1 G X_fire_after0 X_fire_after1 X_fire_after2 X_fire_after3 X_fire_after4 X_fire_after5 X_fire_after ++ (u5 G X_pad0 X_pad1 X_pad ++ (u6 G X_posts0 X_posts1 X_posts2 X_posts ++ (u7 G X_routes0 X_routes1 X_routes ++ (u8 G X_trails0 X_trails1 X_trails2 r97.2 ++ (u10 G M0 M1 M2 M3 M4 M5 M6 M7 M8 M9 M10 M11 M12 r99.2 ++ (imC G X_images0 x0 x1 I0 I1))))))))))))) C cfL_89 viL_89 (m10_ask_k l G M0 M1 M2 M3 M4 M5 M6 M7 M8 M9 M10 M11 M12 M (xs (Int32.toNatClampNeg (x3 + (1 : Int32)))) r99 k100) dL_law_636 (by decide) ⟨by show cs ≤ 600000; omega, by show sl ≤ 7302250; omega⟩ rfl rfl (Nat.le_of_ble_eq_true rfl) rfl [28, 29, 30, 31, 32, 33, 34, 35, 36, 37, 38, 39, 40] [0, 1, 2, 3, 4, 5, 6, 7, 8, 9, 10, 11, 12, 13, 14, 15, 16, 17, 18, 19, 20, 21, 22, 23, 24, 25, 26, 27, 41] [0, 1, 2, 3, 4, 5, 6, 7, 8, 9, 10, 11, 12, 13, 14, 15, 16, 17, 18, 19, 20, 21, 22, 23, 24, 25, 26, 27, 29, 30, 31, 32, 33, 34, 35, 36, 37, 38, 39, 40, 41, 28] rfl rfl (by decide) rfl ?_
        refine go_icmp_eq (tgt := 843) C h dL_law_639 rfl (fun h => ?_) (fun h => ?_)
        · refine go_iincN (lf := fun v101 => [(3, .int v101), (0, .ref b), (1, .ref X0), (2, .ref M0)]) C h dL_law_843 3 rfl rfl (by decide) (fun _ => rfl) (fun v101 h => ?_)
          refine go_lv (lv' := [(0, .ref b), (1, .ref X0), (2, .ref M0), (3, .int v101)]) [1, 2, 3, 0] rfl ?_
          refine go_goto (tgt := 18) C dL_law_846 rfl ?_
          exact ih v101 X_act X_brigade X_feet X_fire X_fire_act X_fire_after X_pad X_posts X_routes r97.2 I0 I1 r99.2 x0 x1 cs sl (by omega) (by omega) h
        · refine go_iconst (v := 0) C dL_law_642 rfl ?_
          exact absurd h (by decide)
      refine go_ite h (fun q h => ?_) (fun q18 h => ?_)
      · refine go_tabIn (off := 612) (tgt := 644) C dL_law_32 q (by decide) (by decide) rfl ?_
        refine go_aload_n C dL_law_644 1 rfl ?_
        refine go_aload_n C dL_law_645 0 rfl ?_
        refine go_iload_n C dL_law_646 3 rfl ?_
        refine go_iconst (v := 1) C dL_law_647 rfl ?_
        refine go_iadd C dL_law_648 ?_
        refine go_sldG C hX hbl hbA h dL_law_649 (fun h => ?_)
        refine go_aload_n C dL_law_650 0 rfl ?_
        refine go_iload_n C dL_law_651 3 rfl ?_
        refine go_iconst (v := 2) C dL_law_652 rfl ?_
        refine go_iadd C dL_law_653 ?_
        refine go_sldG C hX hbl hbA h dL_law_654 (fun h => ?_)
        obtain ⟨r102, k103, h⟩ := tbd_e h
        refine go_callVT (q0 := 0) (wr := u9 G X0 X_brigade0 X_pad0 X_act0 X_fire0 X_routes0 X_posts0 X_trails0 X_feet0 X_images0 () ++ (u0 G X_act0 X_act ++ (u1 G X_brigade0 X_brigade1 X_brigade2 X_brigade3 X_brigade4 X_brigade5 X_brigade ++ (u3 G X_feet0 X_feet1 X_feet ++ (u4 G X_fire0 X_fire_after0 X_fire_act0 X_fire ++ (u0 G X_fire_act0 X_fire_act ++ (u1 G X_fire_after0 X_fire_after1 X_fire_after2 X_fire_after3 X_fire_after4 X_fire_after5 X_fire_after ++ (u5 G X_pad0 X_pad1 X_pad ++ (u6 G X_posts0 X_posts1 X_posts2 X_posts ++ (u7 G X_routes0 X_routes1 X_routes ++ (u8 G X_trails0 X_trails1 X_trails2 X_trails ++ (u10 G M0 M1 M2 M3 M4 M5 M6 M7 M8 M9 M10 M11 M12 M ++ (imC G X_images0 x0 x1 I0 I1))))))))))))) (w' := u9 G X0 X_brigade0 X_pad0 X_act0 X_fire0 X_routes0 X_posts0 X_trails0 X_feet0 X_images0 () ++ (u0 G X_act0 X_act ++ (u1 G X_brigade0 X_brigade1 X_brigade2 X_brigade3 X_brigade4 X_brigade5 X_brigade ++ (u3 G X_feet0 X_feet1 X_feet ++ (u4 G X_fire0 X_fire_after0 X_fire_act0 X_fire ++ (u0 G X_fire_act0 X_fire_act ++ (u1 G X_fire_after0 X_fire_after1 X_fire_after2 X_fire_after3 X_fire_after4 X_fire_after5 X_fire_after ++ (u5 G X_pad0 X_pad1 X_pad ++ (u6 G X_posts0 X_posts1 X_posts2 X_posts ++ (u7 G X_routes0 X_routes1 X_routes ++ (u8 G X_trails0 X_trails1 X_trails2 X_trails ++ (u10 G M0 M1 M2 M3 M4 M5 M6 M7 M8 M9 M10 M11 M12 M ++ (imC G X_images0 x0 x1 I0 I1))))))))))))) C cfL_90 viL_90 (m9_down_k l G X0 (xs (Int32.toNatClampNeg (x3 + (1 : Int32)))) (xs (Int32.toNatClampNeg (x3 + (2 : Int32)))) r102 k103) dL_law_655 (by decide) ⟨by show cs ≤ 600000; omega, by show sl ≤ 7302250; omega⟩ rfl rfl (Nat.le_of_ble_eq_true rfl) rfl [] [0, 1, 2, 3, 4, 5, 6, 7, 8, 9, 10, 11, 12, 13, 14, 15, 16, 17, 18, 19, 20, 21, 22, 23, 24, 25, 26, 27, 28, 29, 30, 31, 32, 33, 34, 35, 36, 37, 38, 39, 40, 41] [0, 1, 2, 3, 4, 5, 6, 7, 8, 9, 10, 11, 12, 13, 14, 15, 16, 17, 18, 19, 20, 21, 22, 23, 24, 25, 26, 27, 28, 29, 30, 31, 32, 33, 34, 35, 36, 37, 38, 39, 40, 41] rfl rfl (by decide) rfl ?_
        refine go_aload_n C dL_law_658 2 rfl ?_
        refine go_aload_n C dL_law_659 0 rfl ?_
        refine go_iload_n C dL_law_660 3 rfl ?_
        refine go_iconst (v := 1) C dL_law_661 rfl ?_
        refine go_iadd C dL_law_662 ?_
        refine go_sldG C hX hbl hbA h dL_law_663 (fun h => ?_)
        refine go_aload_n C dL_law_664 0 rfl ?_
        refine go_iload_n C dL_law_665 3 rfl ?_
        refine go_iconst (v := 2) C dL_law_666 rfl ?_
        refine go_iadd C dL_law_667 ?_
        refine go_sldG C hX hbl hbA h dL_law_668 (fun h => ?_)
        obtain ⟨r104, k105, h⟩ := tbd_e h
        refine go_callVT (q0 := 28) (wr := u9 G X0 X_brigade0 X_pad0 X_act0 X_fire0 X_routes0 X_posts0 X_trails0 X_feet0 X_images0 () ++ (u0 G X_act0 X_act ++ (u1 G X_brigade0 X_brigade1 X_brigade2 X_brigade3 X_brigade4 X_brigade5 X_brigade ++ (u3 G X_feet0 X_feet1 X_feet ++ (u4 G X_fire0 X_fire_after0 X_fire_act0 X_fire ++ (u0 G X_fire_act0 X_fire_act ++ (u1 G X_fire_after0 X_fire_after1 X_fire_after2 X_fire_after3 X_fire_after4 X_fire_after5 X_fire_after ++ (u5 G X_pad0 X_pad1 X_pad ++ (u6 G X_posts0 X_posts1 X_posts2 X_posts ++ (u7 G X_routes0 X_routes1 X_routes ++ (u8 G X_trails0 X_trails1 X_trails2 X_trails ++ (imC G X_images0 x0 x1 I0 I1)))))))))))) (w' := u9 G X0 X_brigade0 X_pad0 X_act0 X_fire0 X_routes0 X_posts0 X_trails0 X_feet0 X_images0 () ++ (u0 G X_act0 X_act ++ (u1 G X_brigade0 X_brigade1 X_brigade2 X_brigade3 X_brigade4 X_brigade5 X_brigade ++ (u3 G X_feet0 X_feet1 X_feet ++ (u4 G X_fire0 X_fire_after0 X_fire_act0 X_fire ++ (u0 G X_fire_act0 X_fire_act ++ (u1 G X_fire_after0 X_fire_after1 X_fire_after2 X_fire_after3 X_fire_after4 X_fire_after5 X_fire_after ++ (u5 G X_pad0 X_pad1 X_pad ++ (u6 G X_posts0 X_posts1 X_posts2 X_posts ++ (u7 G X_routes0 X_routes1 X_routes ++ (u8 G X_trails0 X_trails1 X_trails2 X_trails ++ (u10 G M0 M1 M2 M3 M4 M5 M6 M7 M8 M9 M10 M11 M12 r104.2 ++ (imC G X_images0 x0 x1 I0 I1))))))))))))) C cfL_93 viL_93 (m10_down_k l G M0 M1 M2 M3 M4 M5 M6 M7 M8 M9 M10 M11 M12 M (xs (Int32.toNatClampNeg (x3 + (1 : Int32)))) (xs (Int32.toNatClampNeg (x3 + (2 : Int32)))) r104 k105) dL_law_669 (by decide) ⟨by show cs ≤ 600000; omega, by show sl ≤ 7302250; omega⟩ rfl rfl (Nat.le_of_ble_eq_true rfl) rfl [28, 29, 30, 31, 32, 33, 34, 35, 36, 37, 38, 39, 40] [0, 1, 2, 3, 4, 5, 6, 7, 8, 9, 10, 11, 12, 13, 14, 15, 16, 17, 18, 19, 20, 21, 22, 23, 24, 25, 26, 27, 41] [0, 1, 2, 3, 4, 5, 6, 7, 8, 9, 10, 11, 12, 13, 14, 15, 16, 17, 18, 19, 20, 21, 22, 23, 24, 25, 26, 27, 29, 30, 31, 32, 33, 34, 35, 36, 37, 38, 39, 40, 41, 28] rfl rfl (by decide) rfl ?_
        refine go_icmp_eq (tgt := 843) C h dL_law_672 rfl (fun h => ?_) (fun h => ?_)
        · refine go_iincN (lf := fun v106 => [(3, .int v106), (0, .ref b), (1, .ref X0), (2, .ref M0)]) C h dL_law_843 3 rfl rfl (by decide) (fun _ => rfl) (fun v106 h => ?_)
          refine go_lv (lv' := [(0, .ref b), (1, .ref X0), (2, .ref M0), (3, .int v106)]) [1, 2, 3, 0] rfl ?_
          refine go_goto (tgt := 18) C dL_law_846 rfl ?_
          exact ih v106 X_act X_brigade X_feet X_fire X_fire_act X_fire_after X_pad X_posts X_routes X_trails I0 I1 r104.2 x0 x1 cs sl (by omega) (by omega) h
        · refine go_iconst (v := 0) C dL_law_675 rfl ?_
          exact absurd h (by decide)
      refine go_ite h (fun q h => ?_) (fun q19 h => ?_)
      · refine go_tabIn (off := 645) (tgt := 677) C dL_law_32 q (by decide) (by decide) rfl ?_
        refine go_aload_n C dL_law_677 1 rfl ?_
        refine go_aload_n C dL_law_678 0 rfl ?_
        refine go_iload_n C dL_law_679 3 rfl ?_
        refine go_iconst (v := 1) C dL_law_680 rfl ?_
        refine go_iadd C dL_law_681 ?_
        refine go_sldG C hX hbl hbA h dL_law_682 (fun h => ?_)
        refine go_aload_n C dL_law_683 0 rfl ?_
        refine go_iload_n C dL_law_684 3 rfl ?_
        refine go_iconst (v := 2) C dL_law_685 rfl ?_
        refine go_iadd C dL_law_686 ?_
        refine go_sldG C hX hbl hbA h dL_law_687 (fun h => ?_)
        refine go_aload_n C dL_law_688 0 rfl ?_
        refine go_iload_n C dL_law_689 3 rfl ?_
        refine go_iconst (v := 3) C dL_law_690 rfl ?_
        refine go_iadd C dL_law_691 ?_
        refine go_sldG C hX hbl hbA h dL_law_692 (fun h => ?_)
        refine go_aload_n C dL_law_693 0 rfl ?_
        refine go_iload_n C dL_law_694 3 rfl ?_
        refine go_iconst (v := 4) C dL_law_695 rfl ?_
        refine go_iadd C dL_law_696 ?_
        refine go_sldG C hX hbl hbA h dL_law_697 (fun h => ?_)
        obtain ⟨r107, k108, h⟩ := tbd_e h
        refine go_callVT (q0 := 0) (wr := u0 G X_act0 X_act ++ (u1 G X_brigade0 X_brigade1 X_brigade2 X_brigade3 X_brigade4 X_brigade5 X_brigade ++ (u4 G X_fire0 X_fire_after0 X_fire_act0 X_fire ++ (u0 G X_fire_act0 X_fire_act ++ (u1 G X_fire_after0 X_fire_after1 X_fire_after2 X_fire_after3 X_fire_after4 X_fire_after5 X_fire_after ++ (u5 G X_pad0 X_pad1 X_pad ++ (u6 G X_posts0 X_posts1 X_posts2 X_posts ++ (u7 G X_routes0 X_routes1 X_routes ++ (u8 G X_trails0 X_trails1 X_trails2 X_trails ++ (u10 G M0 M1 M2 M3 M4 M5 M6 M7 M8 M9 M10 M11 M12 M ++ (imC G X_images0 x0 x1 I0 I1))))))))))) (w' := u9 G X0 X_brigade0 X_pad0 X_act0 X_fire0 X_routes0 X_posts0 X_trails0 X_feet0 X_images0 () ++ (u0 G X_act0 X_act ++ (u1 G X_brigade0 X_brigade1 X_brigade2 X_brigade3 X_brigade4 X_brigade5 X_brigade ++ (u3 G X_feet0 X_feet1 r107.2 ++ (u4 G X_fire0 X_fire_after0 X_fire_act0 X_fire ++ (u0 G X_fire_act0 X_fire_act ++ (u1 G X_fire_after0 X_fire_after1 X_fire_after2 X_fire_after3 X_fire_after4 X_fire_after5 X_fire_after ++ (u5 G X_pad0 X_pad1 X_pad ++ (u6 G X_posts0 X_posts1 X_posts2 X_posts ++ (u7 G X_routes0 X_routes1 X_routes ++ (u8 G X_trails0 X_trails1 X_trails2 X_trails ++ (u10 G M0 M1 M2 M3 M4 M5 M6 M7 M8 M9 M10 M11 M12 M ++ (imC G X_images0 x0 x1 I0 I1))))))))))))) C cfL_94 viL_94 (m9_foot_k l G X0 X_brigade0 X_pad0 X_act0 X_fire0 X_routes0 X_posts0 X_trails0 X_feet0 X_images0 X_feet1 () X_feet (xs (Int32.toNatClampNeg (x3 + (1 : Int32)))) (xs (Int32.toNatClampNeg (x3 + (2 : Int32)))) (xs (Int32.toNatClampNeg (x3 + (3 : Int32)))) (xs (Int32.toNatClampNeg (x3 + (4 : Int32)))) r107 k108) dL_law_698 (by decide) ⟨by show cs ≤ 600000; omega, by show sl ≤ 7302250; omega⟩ rfl rfl (Nat.le_of_ble_eq_true rfl) rfl [0, 8, 9] [1, 2, 3, 4, 5, 6, 7, 10, 11, 12, 13, 14, 15, 16, 17, 18, 19, 20, 21, 22, 23, 24, 25, 26, 27, 28, 29, 30, 31, 32, 33, 34, 35, 36, 37, 38, 39, 40, 41] [39, 0, 1, 2, 3, 4, 5, 6, 40, 41, 7, 8, 9, 10, 11, 12, 13, 14, 15, 16, 17, 18, 19, 20, 21, 22, 23, 24, 25, 26, 27, 28, 29, 30, 31, 32, 33, 34, 35, 36, 37, 38] rfl rfl (by decide) rfl ?_
        refine go_aload_n C dL_law_701 2 rfl ?_
        refine go_aload_n C dL_law_702 0 rfl ?_
        refine go_iload_n C dL_law_703 3 rfl ?_
        refine go_iconst (v := 1) C dL_law_704 rfl ?_
        refine go_iadd C dL_law_705 ?_
        refine go_sldG C hX hbl hbA h dL_law_706 (fun h => ?_)
        refine go_aload_n C dL_law_707 0 rfl ?_
        refine go_iload_n C dL_law_708 3 rfl ?_
        refine go_iconst (v := 2) C dL_law_709 rfl ?_
        refine go_iadd C dL_law_710 ?_
        refine go_sldG C hX hbl hbA h dL_law_711 (fun h => ?_)
        refine go_aload_n C dL_law_712 0 rfl ?_
        refine go_iload_n C dL_law_713 3 rfl ?_
        refine go_iconst (v := 3) C dL_law_714 rfl ?_
        refine go_iadd C dL_law_715 ?_
        refine go_sldG C hX hbl hbA h dL_law_716 (fun h => ?_)
        refine go_aload_n C dL_law_717 0 rfl ?_
        refine go_iload_n C dL_law_718 3 rfl ?_
        refine go_iconst (v := 4) C dL_law_719 rfl ?_
        refine go_iadd C dL_law_720 ?_
        refine go_sldG C hX hbl hbA h dL_law_721 (fun h => ?_)
        obtain ⟨r109, k110, h⟩ := tbd_e h
        refine go_callVT (q0 := 28) (wr := u9 G X0 X_brigade0 X_pad0 X_act0 X_fire0 X_routes0 X_posts0 X_trails0 X_feet0 X_images0 () ++ (u0 G X_act0 X_act ++ (u1 G X_brigade0 X_brigade1 X_brigade2 X_brigade3 X_brigade4 X_brigade5 X_brigade ++ (u3 G X_feet0 X_feet1 r107.2 ++ (u4 G X_fire0 X_fire_after0 X_fire_act0 X_fire ++ (u0 G X_fire_act0 X_fire_act ++ (u1 G X_fire_after0 X_fire_after1 X_fire_after2 X_fire_after3 X_fire_after4 X_fire_after5 X_fire_after ++ (u5 G X_pad0 X_pad1 X_pad ++ (u6 G X_posts0 X_posts1 X_posts2 X_posts ++ (u7 G X_routes0 X_routes1 X_routes ++ (u8 G X_trails0 X_trails1 X_trails2 X_trails ++ (imC G X_images0 x0 x1 I0 I1)))))))))))) (w' := u9 G X0 X_brigade0 X_pad0 X_act0 X_fire0 X_routes0 X_posts0 X_trails0 X_feet0 X_images0 () ++ (u0 G X_act0 X_act ++ (u1 G X_brigade0 X_brigade1 X_brigade2 X_brigade3 X_brigade4 X_brigade5 X_brigade ++ (u3 G X_feet0 X_feet1 r107.2 ++ (u4 G X_fire0 X_fire_after0 X_fire_act0 X_fire ++ (u0 G X_fire_act0 X_fire_act ++ (u1 G X_fire_after0 X_fire_after1 X_fire_after2 X_fire_after3 X_fire_after4 X_fire_after5 X_fire_after ++ (u5 G X_pad0 X_pad1 X_pad ++ (u6 G X_posts0 X_posts1 X_posts2 X_posts ++ (u7 G X_routes0 X_routes1 X_routes ++ (u8 G X_trails0 X_trails1 X_trails2 X_trails ++ (u10 G M0 M1 M2 M3 M4 M5 M6 M7 M8 M9 M10 M11 M12 r109.2 ++ (imC G X_images0 x0 x1 I0 I1))))))))))))) C cfL_98 viL_98 (m10_foot_k l G M0 M1 M2 M3 M4 M5 M6 M7 M8 M9 M10 M11 M12 M (xs (Int32.toNatClampNeg (x3 + (1 : Int32)))) (xs (Int32.toNatClampNeg (x3 + (2 : Int32)))) (xs (Int32.toNatClampNeg (x3 + (3 : Int32)))) (xs (Int32.toNatClampNeg (x3 + (4 : Int32)))) r109 k110) dL_law_722 (by decide) ⟨by show cs ≤ 600000; omega, by show sl ≤ 7302250; omega⟩ rfl rfl (Nat.le_of_ble_eq_true rfl) rfl [28, 29, 30, 31, 32, 33, 34, 35, 36, 37, 38, 39, 40] [0, 1, 2, 3, 4, 5, 6, 7, 8, 9, 10, 11, 12, 13, 14, 15, 16, 17, 18, 19, 20, 21, 22, 23, 24, 25, 26, 27, 41] [0, 1, 2, 3, 4, 5, 6, 7, 8, 9, 10, 11, 12, 13, 14, 15, 16, 17, 18, 19, 20, 21, 22, 23, 24, 25, 26, 27, 29, 30, 31, 32, 33, 34, 35, 36, 37, 38, 39, 40, 41, 28] rfl rfl (by decide) rfl ?_
        refine go_lcmp C dL_law_725 ?_
        refine go_if_eq (tgt := 843) C h dL_law_726 rfl (fun h => ?_) (fun h => ?_)
        · refine go_iincN (lf := fun v111 => [(3, .int v111), (0, .ref b), (1, .ref X0), (2, .ref M0)]) C h dL_law_843 3 rfl rfl (by decide) (fun _ => rfl) (fun v111 h => ?_)
          refine go_lv (lv' := [(0, .ref b), (1, .ref X0), (2, .ref M0), (3, .int v111)]) [1, 2, 3, 0] rfl ?_
          refine go_goto (tgt := 18) C dL_law_846 rfl ?_
          exact ih v111 X_act X_brigade r107.2 X_fire X_fire_act X_fire_after X_pad X_posts X_routes X_trails I0 I1 r109.2 x0 x1 cs sl (by omega) (by omega) h
        · refine go_iconst (v := 0) C dL_law_729 rfl ?_
          exact absurd h (by decide)
      refine go_ite h (fun q h => ?_) (fun q20 h => ?_)
      · refine go_tabIn (off := 699) (tgt := 731) C dL_law_32 q (by decide) (by decide) rfl ?_
        refine go_aload_n C dL_law_731 1 rfl ?_
        refine go_aload_n C dL_law_732 0 rfl ?_
        refine go_iload_n C dL_law_733 3 rfl ?_
        refine go_iconst (v := 1) C dL_law_734 rfl ?_
        refine go_iadd C dL_law_735 ?_
        refine go_sldG C hX hbl hbA h dL_law_736 (fun h => ?_)
        refine go_aload_n C dL_law_737 0 rfl ?_
        refine go_iload_n C dL_law_738 3 rfl ?_
        refine go_iconst (v := 2) C dL_law_739 rfl ?_
        refine go_iadd C dL_law_740 ?_
        refine go_sldG C hX hbl hbA h dL_law_741 (fun h => ?_)
        refine go_aload_n C dL_law_742 0 rfl ?_
        refine go_iload_n C dL_law_743 3 rfl ?_
        refine go_iconst (v := 3) C dL_law_744 rfl ?_
        refine go_iadd C dL_law_745 ?_
        refine go_sldG C hX hbl hbA h dL_law_746 (fun h => ?_)
        obtain ⟨r112, k113, h⟩ := tbd_e h
        refine go_callVT (q0 := 0) (wr := u3 G X_feet0 X_feet1 X_feet ++ (u0 G X_fire_act0 X_fire_act ++ (u5 G X_pad0 X_pad1 X_pad ++ (u6 G X_posts0 X_posts1 X_posts2 X_posts ++ (u7 G X_routes0 X_routes1 X_routes ++ (u8 G X_trails0 X_trails1 X_trails2 X_trails ++ (u10 G M0 M1 M2 M3 M4 M5 M6 M7 M8 M9 M10 M11 M12 M ++ (imC G X_images0 x0 x1 I0 I1)))))))) (w' := u9 G X0 X_brigade0 X_pad0 X_act0 X_fire0 X_routes0 X_posts0 X_trails0 X_feet0 X_images0 () ++ (u0 G X_act0 r112.2.1 ++ (u1 G X_brigade0 X_brigade1 X_brigade2 X_brigade3 X_brigade4 X_brigade5 X_brigade ++ (u3 G X_feet0 X_feet1 X_feet ++ (u4 G X_fire0 X_fire_after0 X_fire_act0 r112.2.2.1 ++ (u0 G X_fire_act0 X_fire_act ++ (u1 G X_fire_after0 X_fire_after1 X_fire_after2 X_fire_after3 X_fire_after4 X_fire_after5 r112.2.2.2 ++ (u5 G X_pad0 X_pad1 X_pad ++ (u6 G X_posts0 X_posts1 X_posts2 X_posts ++ (u7 G X_routes0 X_routes1 X_routes ++ (u8 G X_trails0 X_trails1 X_trails2 X_trails ++ (u10 G M0 M1 M2 M3 M4 M5 M6 M7 M8 M9 M10 M11 M12 M ++ (imC G X_images0 x0 x1 I0 I1))))))))))))) C cfL_99 viL_99 (m9_year_k l G X0 X_brigade0 X_pad0 X_act0 X_fire0 X_routes0 X_posts0 X_trails0 X_feet0 X_images0 X_brigade1 X_brigade2 X_brigade3 X_brigade4 X_brigade5 X_fire_after0 X_fire_act0 X_fire_after1 X_fire_after2 X_fire_after3 X_fire_after4 X_fire_after5 () X_act X_brigade X_fire X_fire_after (xs (Int32.toNatClampNeg (x3 + (1 : Int32)))) (xs (Int32.toNatClampNeg (x3 + (2 : Int32)))) (xs (Int32.toNatClampNeg (x3 + (3 : Int32)))) r112 k113) dL_law_747 (by decide) ⟨by show cs ≤ 600000; omega, by show sl ≤ 7302250; omega⟩ rfl rfl (Nat.le_of_ble_eq_true rfl) rfl [0, 1, 2, 3, 4, 5, 6, 7, 10, 12, 13, 14, 15, 16, 17] [8, 9, 11, 18, 19, 20, 21, 22, 23, 24, 25, 26, 27, 28, 29, 30, 31, 32, 33, 34, 35, 36, 37, 38, 39, 40, 41] [27, 28, 29, 30, 31, 32, 33, 34, 0, 1, 35, 2, 36, 37, 38, 39, 40, 41, 3, 4, 5, 6, 7, 8, 9, 10, 11, 12, 13, 14, 15, 16, 17, 18, 19, 20, 21, 22, 23, 24, 25, 26] rfl rfl (by decide) rfl ?_
        refine go_aload_n C dL_law_750 2 rfl ?_
        refine go_aload_n C dL_law_751 0 rfl ?_
        refine go_iload_n C dL_law_752 3 rfl ?_
        refine go_iconst (v := 1) C dL_law_753 rfl ?_
        refine go_iadd C dL_law_754 ?_
        refine go_sldG C hX hbl hbA h dL_law_755 (fun h => ?_)
        refine go_aload_n C dL_law_756 0 rfl ?_
        refine go_iload_n C dL_law_757 3 rfl ?_
        refine go_iconst (v := 2) C dL_law_758 rfl ?_
        refine go_iadd C dL_law_759 ?_
        refine go_sldG C hX hbl hbA h dL_law_760 (fun h => ?_)
        refine go_aload_n C dL_law_761 0 rfl ?_
        refine go_iload_n C dL_law_762 3 rfl ?_
        refine go_iconst (v := 3) C dL_law_763 rfl ?_
        refine go_iadd C dL_law_764 ?_
        refine go_sldG C hX hbl hbA h dL_law_765 (fun h => ?_)
        obtain ⟨r114, k115, h⟩ := tbd_e h
        refine go_callVT (q0 := 28) (wr := u9 G X0 X_brigade0 X_pad0 X_act0 X_fire0 X_routes0 X_posts0 X_trails0 X_feet0 X_images0 () ++ (u0 G X_act0 r112.2.1 ++ (u1 G X_brigade0 X_brigade1 X_brigade2 X_brigade3 X_brigade4 X_brigade5 X_brigade ++ (u3 G X_feet0 X_feet1 X_feet ++ (u4 G X_fire0 X_fire_after0 X_fire_act0 r112.2.2.1 ++ (u0 G X_fire_act0 X_fire_act ++ (u1 G X_fire_after0 X_fire_after1 X_fire_after2 X_fire_after3 X_fire_after4 X_fire_after5 r112.2.2.2 ++ (u5 G X_pad0 X_pad1 X_pad ++ (u6 G X_posts0 X_posts1 X_posts2 X_posts ++ (u7 G X_routes0 X_routes1 X_routes ++ (u8 G X_trails0 X_trails1 X_trails2 X_trails ++ (imC G X_images0 x0 x1 I0 I1)))))))))))) (w' := u9 G X0 X_brigade0 X_pad0 X_act0 X_fire0 X_routes0 X_posts0 X_trails0 X_feet0 X_images0 () ++ (u0 G X_act0 r112.2.1 ++ (u1 G X_brigade0 X_brigade1 X_brigade2 X_brigade3 X_brigade4 X_brigade5 X_brigade ++ (u3 G X_feet0 X_feet1 X_feet ++ (u4 G X_fire0 X_fire_after0 X_fire_act0 r112.2.2.1 ++ (u0 G X_fire_act0 X_fire_act ++ (u1 G X_fire_after0 X_fire_after1 X_fire_after2 X_fire_after3 X_fire_after4 X_fire_after5 r112.2.2.2 ++ (u5 G X_pad0 X_pad1 X_pad ++ (u6 G X_posts0 X_posts1 X_posts2 X_posts ++ (u7 G X_routes0 X_routes1 X_routes ++ (u8 G X_trails0 X_trails1 X_trails2 X_trails ++ (u10 G M0 M1 M2 M3 M4 M5 M6 M7 M8 M9 M10 M11 M12 r114.2 ++ (imC G X_images0 x0 x1 I0 I1))))))))))))) C cfL_103 viL_103 (m10_year_k l G M0 M1 M2 M3 M4 M5 M6 M7 M8 M9 M10 M11 M12 M (xs (Int32.toNatClampNeg (x3 + (1 : Int32)))) (xs (Int32.toNatClampNeg (x3 + (2 : Int32)))) (xs (Int32.toNatClampNeg (x3 + (3 : Int32)))) r114 k115) dL_law_766 (by decide) ⟨by show cs ≤ 600000; omega, by show sl ≤ 7302250; omega⟩ rfl rfl (Nat.le_of_ble_eq_true rfl) rfl [28, 29, 30, 31, 32, 33, 34, 35, 36, 37, 38, 39, 40] [0, 1, 2, 3, 4, 5, 6, 7, 8, 9, 10, 11, 12, 13, 14, 15, 16, 17, 18, 19, 20, 21, 22, 23, 24, 25, 26, 27, 41] [0, 1, 2, 3, 4, 5, 6, 7, 8, 9, 10, 11, 12, 13, 14, 15, 16, 17, 18, 19, 20, 21, 22, 23, 24, 25, 26, 27, 29, 30, 31, 32, 33, 34, 35, 36, 37, 38, 39, 40, 41, 28] rfl rfl (by decide) rfl ?_
        refine go_icmp_eq (tgt := 843) C h dL_law_769 rfl (fun h => ?_) (fun h => ?_)
        · refine go_iincN (lf := fun v116 => [(3, .int v116), (0, .ref b), (1, .ref X0), (2, .ref M0)]) C h dL_law_843 3 rfl rfl (by decide) (fun _ => rfl) (fun v116 h => ?_)
          refine go_lv (lv' := [(0, .ref b), (1, .ref X0), (2, .ref M0), (3, .int v116)]) [1, 2, 3, 0] rfl ?_
          refine go_goto (tgt := 18) C dL_law_846 rfl ?_
          exact ih v116 r112.2.1 X_brigade X_feet r112.2.2.1 X_fire_act r112.2.2.2 X_pad X_posts X_routes X_trails I0 I1 r114.2 x0 x1 cs sl (by omega) (by omega) h
        · refine go_iconst (v := 0) C dL_law_772 rfl ?_
          exact absurd h (by decide)
      refine go_ite h (fun q h => ?_) (fun q21 h => ?_)
      · refine go_tabIn (off := 742) (tgt := 774) C dL_law_32 q (by decide) (by decide) rfl ?_
        refine go_aload_n C dL_law_774 1 rfl ?_
        refine go_aload_n C dL_law_775 0 rfl ?_
        refine go_iload_n C dL_law_776 3 rfl ?_
        refine go_iconst (v := 1) C dL_law_777 rfl ?_
        refine go_iadd C dL_law_778 ?_
        refine go_sldG C hX hbl hbA h dL_law_779 (fun h => ?_)
        obtain ⟨r117, k118, h⟩ := tbd_e h
        refine go_callVU (q0 := 0) (wc := u9 G X0 X_brigade0 X_pad0 X_act0 X_fire0 X_routes0 X_posts0 X_trails0 X_feet0 X_images0 () ++ (u1 G X_brigade0 X_brigade1 X_brigade2 X_brigade3 X_brigade4 X_brigade5 X_brigade ++ (imC G X_images0 x0 x1 I0 I1))) (wr := u0 G X_act0 X_act ++ (u3 G X_feet0 X_feet1 X_feet ++ (u4 G X_fire0 X_fire_after0 X_fire_act0 X_fire ++ (u0 G X_fire_act0 X_fire_act ++ (u1 G X_fire_after0 X_fire_after1 X_fire_after2 X_fire_after3 X_fire_after4 X_fire_after5 X_fire_after ++ (u5 G X_pad0 X_pad1 X_pad ++ (u6 G X_posts0 X_posts1 X_posts2 X_posts ++ (u7 G X_routes0 X_routes1 X_routes ++ (u8 G X_trails0 X_trails1 X_trails2 X_trails ++ (u10 G M0 M1 M2 M3 M4 M5 M6 M7 M8 M9 M10 M11 M12 M)))))))))) C cfL_104 viL_104 (m9_image_u l G X0 X_brigade0 X_brigade1 X_brigade2 X_brigade3 X_brigade4 X_brigade5 X_pad0 X_act0 X_fire0 X_routes0 X_posts0 X_trails0 X_feet0 X_images0 x0 x1 X_brigade I0 I1 (xs (Int32.toNatClampNeg (x3 + (1 : Int32)))) r117 k118) dL_law_780 (by decide) ⟨by show cs + 6 ≤ 600000; omega, by show sl + 55 ≤ 7302250; omega⟩ rfl rfl (Nat.le_of_ble_eq_true rfl) rfl [0, 2, 3, 4, 5, 6, 7, 41] [1, 8, 9, 10, 11, 12, 13, 14, 15, 16, 17, 18, 19, 20, 21, 22, 23, 24, 25, 26, 27, 28, 29, 30, 31, 32, 33, 34, 35, 36, 37, 38, 39, 40] rfl rfl (by decide) (fun z => ?_)
        refine go_w (w' := (u0 G X_act0 X_act ++ (u3 G X_feet0 X_feet1 X_feet ++ (u4 G X_fire0 X_fire_after0 X_fire_act0 X_fire ++ (u0 G X_fire_act0 X_fire_act ++ (u1 G X_fire_after0 X_fire_after1 X_fire_after2 X_fire_after3 X_fire_after4 X_fire_after5 X_fire_after ++ (u5 G X_pad0 X_pad1 X_pad ++ (u6 G X_posts0 X_posts1 X_posts2 X_posts ++ (u7 G X_routes0 X_routes1 X_routes ++ (u8 G X_trails0 X_trails1 X_trails2 X_trails ++ (u10 G M0 M1 M2 M3 M4 M5 M6 M7 M8 M9 M10 M11 M12 M ++ (u9 G X0 X_brigade0 X_pad0 X_act0 X_fire0 X_routes0 X_posts0 X_trails0 X_feet0 X_images0 () ++ (u1 G X_brigade0 X_brigade1 X_brigade2 X_brigade3 X_brigade4 X_brigade5 X_brigade ++ (imC G X_images0 z.1 z.2 r117.2.1 r117.2.2))))))))))))) ++ imT G z.1 z.2 r117.2.1 r117.2.2) rfl ?_
        refine go_permT (w' := u9 G X0 X_brigade0 X_pad0 X_act0 X_fire0 X_routes0 X_posts0 X_trails0 X_feet0 X_images0 () ++ (u0 G X_act0 X_act ++ (u1 G X_brigade0 X_brigade1 X_brigade2 X_brigade3 X_brigade4 X_brigade5 X_brigade ++ (u3 G X_feet0 X_feet1 X_feet ++ (u4 G X_fire0 X_fire_after0 X_fire_act0 X_fire ++ (u0 G X_fire_act0 X_fire_act ++ (u1 G X_fire_after0 X_fire_after1 X_fire_after2 X_fire_after3 X_fire_after4 X_fire_after5 X_fire_after ++ (u5 G X_pad0 X_pad1 X_pad ++ (u6 G X_posts0 X_posts1 X_posts2 X_posts ++ (u7 G X_routes0 X_routes1 X_routes ++ (u8 G X_trails0 X_trails1 X_trails2 X_trails ++ (u10 G M0 M1 M2 M3 M4 M5 M6 M7 M8 M9 M10 M11 M12 M ++ (imC G X_images0 z.1 z.2 r117.2.1 r117.2.2))))))))))))) [34, 0, 35, 36, 37, 38, 39, 40, 1, 2, 3, 4, 5, 6, 7, 8, 9, 10, 11, 12, 13, 14, 15, 16, 17, 18, 19, 20, 21, 22, 23, 24, 25, 26, 27, 28, 29, 30, 31, 32, 33, 41] rfl (by decide) ?_
        refine go_aload_n C dL_law_783 2 rfl ?_
        refine go_aload_n C dL_law_784 0 rfl ?_
        refine go_iload_n C dL_law_785 3 rfl ?_
        refine go_iconst (v := 1) C dL_law_786 rfl ?_
        refine go_iadd C dL_law_787 ?_
        refine go_sldG C hX hbl hbA h dL_law_788 (fun h => ?_)
        obtain ⟨r119, k120, h⟩ := tbd_e h
        refine go_callVT (q0 := 28) (wr := u9 G X0 X_brigade0 X_pad0 X_act0 X_fire0 X_routes0 X_posts0 X_trails0 X_feet0 X_images0 () ++ (u0 G X_act0 X_act ++ (u1 G X_brigade0 X_brigade1 X_brigade2 X_brigade3 X_brigade4 X_brigade5 X_brigade ++ (u3 G X_feet0 X_feet1 X_feet ++ (u4 G X_fire0 X_fire_after0 X_fire_act0 X_fire ++ (u0 G X_fire_act0 X_fire_act ++ (u1 G X_fire_after0 X_fire_after1 X_fire_after2 X_fire_after3 X_fire_after4 X_fire_after5 X_fire_after ++ (u5 G X_pad0 X_pad1 X_pad ++ (u6 G X_posts0 X_posts1 X_posts2 X_posts ++ (u7 G X_routes0 X_routes1 X_routes ++ (u8 G X_trails0 X_trails1 X_trails2 X_trails ++ (imC G X_images0 z.1 z.2 r117.2.1 r117.2.2)))))))))))) (w' := u9 G X0 X_brigade0 X_pad0 X_act0 X_fire0 X_routes0 X_posts0 X_trails0 X_feet0 X_images0 () ++ (u0 G X_act0 X_act ++ (u1 G X_brigade0 X_brigade1 X_brigade2 X_brigade3 X_brigade4 X_brigade5 X_brigade ++ (u3 G X_feet0 X_feet1 X_feet ++ (u4 G X_fire0 X_fire_after0 X_fire_act0 X_fire ++ (u0 G X_fire_act0 X_fire_act ++ (u1 G X_fire_after0 X_fire_after1 X_fire_after2 X_fire_after3 X_fire_after4 X_fire_after5 X_fire_after ++ (u5 G X_pad0 X_pad1 X_pad ++ (u6 G X_posts0 X_posts1 X_posts2 X_posts ++ (u7 G X_routes0 X_routes1 X_routes ++ (u8 G X_trails0 X_trails1 X_trails2 X_trails ++ (u10 G M0 M1 M2 M3 M4 M5 M6 M7 M8 M9 M10 M11 M12 r119.2 ++ (imC G X_images0 z.1 z.2 r117.2.1 r117.2.2))))))))))))) C cfL_107 viL_107 (m10_image_k l G M0 M1 M2 M3 M4 M5 M6 M7 M8 M9 M10 M11 M12 M (xs (Int32.toNatClampNeg (x3 + (1 : Int32)))) r119 k120) dL_law_789 (by decide) ⟨by show cs + 6 ≤ 600000; omega, by show sl + 55 ≤ 7302250; omega⟩ rfl rfl (Nat.le_of_ble_eq_true rfl) rfl [28, 29, 30, 31, 32, 33, 34, 35, 36, 37, 38, 39, 40] [0, 1, 2, 3, 4, 5, 6, 7, 8, 9, 10, 11, 12, 13, 14, 15, 16, 17, 18, 19, 20, 21, 22, 23, 24, 25, 26, 27, 41] [0, 1, 2, 3, 4, 5, 6, 7, 8, 9, 10, 11, 12, 13, 14, 15, 16, 17, 18, 19, 20, 21, 22, 23, 24, 25, 26, 27, 29, 30, 31, 32, 33, 34, 35, 36, 37, 38, 39, 40, 41, 28] rfl rfl (by decide) rfl ?_
        refine go_icmp_eq (tgt := 843) C h dL_law_792 rfl (fun h => ?_) (fun h => ?_)
        · refine go_iincN (lf := fun v121 => [(3, .int v121), (0, .ref b), (1, .ref X0), (2, .ref M0)]) C h dL_law_843 3 rfl rfl (by decide) (fun _ => rfl) (fun v121 h => ?_)
          refine go_lv (lv' := [(0, .ref b), (1, .ref X0), (2, .ref M0), (3, .int v121)]) [1, 2, 3, 0] rfl ?_
          refine go_goto (tgt := 18) C dL_law_846 rfl ?_
          exact ih v121 X_act X_brigade X_feet X_fire X_fire_act X_fire_after X_pad X_posts X_routes X_trails r117.2.1 r117.2.2 r119.2 z.1 z.2 (cs + 6) (sl + 55) (by omega) (by omega) h
        · refine go_iconst (v := 0) C dL_law_795 rfl ?_
          exact absurd h (by decide)
      refine go_ite h (fun q h => ?_) (fun q22 h => ?_)
      · refine go_tabIn (off := 765) (tgt := 797) C dL_law_32 q (by decide) (by decide) rfl ?_
        refine go_aload_n C dL_law_797 1 rfl ?_
        refine go_aload_n C dL_law_798 0 rfl ?_
        refine go_iload_n C dL_law_799 3 rfl ?_
        refine go_iconst (v := 1) C dL_law_800 rfl ?_
        refine go_iadd C dL_law_801 ?_
        refine go_sldG C hX hbl hbA h dL_law_802 (fun h => ?_)
        obtain ⟨r122, k123, h⟩ := tbd_e h
        refine go_callVU (q0 := 0) (wc := u9 G X0 X_brigade0 X_pad0 X_act0 X_fire0 X_routes0 X_posts0 X_trails0 X_feet0 X_images0 () ++ (u1 G X_brigade0 X_brigade1 X_brigade2 X_brigade3 X_brigade4 X_brigade5 X_brigade ++ (imC G X_images0 x0 x1 I0 I1))) (wr := u0 G X_act0 X_act ++ (u3 G X_feet0 X_feet1 X_feet ++ (u4 G X_fire0 X_fire_after0 X_fire_act0 X_fire ++ (u0 G X_fire_act0 X_fire_act ++ (u1 G X_fire_after0 X_fire_after1 X_fire_after2 X_fire_after3 X_fire_after4 X_fire_after5 X_fire_after ++ (u5 G X_pad0 X_pad1 X_pad ++ (u6 G X_posts0 X_posts1 X_posts2 X_posts ++ (u7 G X_routes0 X_routes1 X_routes ++ (u8 G X_trails0 X_trails1 X_trails2 X_trails ++ (u10 G M0 M1 M2 M3 M4 M5 M6 M7 M8 M9 M10 M11 M12 M)))))))))) C cfL_108 viL_108 (m9_restore_u l G X0 X_brigade0 X_brigade1 X_brigade2 X_brigade3 X_brigade4 X_brigade5 X_pad0 X_act0 X_fire0 X_routes0 X_posts0 X_trails0 X_feet0 X_images0 x0 x1 X_brigade I0 I1 (xs (Int32.toNatClampNeg (x3 + (1 : Int32)))) r122 k123) dL_law_803 (by decide) ⟨by show cs + 0 ≤ 600000; omega, by show sl + 0 ≤ 7302250; omega⟩ rfl rfl (Nat.le_of_ble_eq_true rfl) rfl [0, 2, 3, 4, 5, 6, 7, 41] [1, 8, 9, 10, 11, 12, 13, 14, 15, 16, 17, 18, 19, 20, 21, 22, 23, 24, 25, 26, 27, 28, 29, 30, 31, 32, 33, 34, 35, 36, 37, 38, 39, 40] rfl rfl (by decide) (fun z => ?_)
        refine go_w (w' := (u0 G X_act0 X_act ++ (u3 G X_feet0 X_feet1 X_feet ++ (u4 G X_fire0 X_fire_after0 X_fire_act0 X_fire ++ (u0 G X_fire_act0 X_fire_act ++ (u1 G X_fire_after0 X_fire_after1 X_fire_after2 X_fire_after3 X_fire_after4 X_fire_after5 X_fire_after ++ (u5 G X_pad0 X_pad1 X_pad ++ (u6 G X_posts0 X_posts1 X_posts2 X_posts ++ (u7 G X_routes0 X_routes1 X_routes ++ (u8 G X_trails0 X_trails1 X_trails2 X_trails ++ (u10 G M0 M1 M2 M3 M4 M5 M6 M7 M8 M9 M10 M11 M12 M ++ (u9 G X0 X_brigade0 X_pad0 X_act0 X_fire0 X_routes0 X_posts0 X_trails0 X_feet0 X_images0 () ++ (u1 G X_brigade0 X_brigade1 X_brigade2 X_brigade3 X_brigade4 X_brigade5 r122.2 ++ (imC G X_images0 x0 x1 I0 I1))))))))))))) ++ imT G x0 x1 I0 I1) rfl ?_
        refine go_permT (w' := u9 G X0 X_brigade0 X_pad0 X_act0 X_fire0 X_routes0 X_posts0 X_trails0 X_feet0 X_images0 () ++ (u0 G X_act0 X_act ++ (u1 G X_brigade0 X_brigade1 X_brigade2 X_brigade3 X_brigade4 X_brigade5 r122.2 ++ (u3 G X_feet0 X_feet1 X_feet ++ (u4 G X_fire0 X_fire_after0 X_fire_act0 X_fire ++ (u0 G X_fire_act0 X_fire_act ++ (u1 G X_fire_after0 X_fire_after1 X_fire_after2 X_fire_after3 X_fire_after4 X_fire_after5 X_fire_after ++ (u5 G X_pad0 X_pad1 X_pad ++ (u6 G X_posts0 X_posts1 X_posts2 X_posts ++ (u7 G X_routes0 X_routes1 X_routes ++ (u8 G X_trails0 X_trails1 X_trails2 X_trails ++ (u10 G M0 M1 M2 M3 M4 M5 M6 M7 M8 M9 M10 M11 M12 M ++ (imC G X_images0 x0 x1 I0 I1))))))))))))) [34, 0, 35, 36, 37, 38, 39, 40, 1, 2, 3, 4, 5, 6, 7, 8, 9, 10, 11, 12, 13, 14, 15, 16, 17, 18, 19, 20, 21, 22, 23, 24, 25, 26, 27, 28, 29, 30, 31, 32, 33, 41] rfl (by decide) ?_
        refine go_aload_n C dL_law_806 2 rfl ?_
        refine go_aload_n C dL_law_807 0 rfl ?_
        refine go_iload_n C dL_law_808 3 rfl ?_
        refine go_iconst (v := 1) C dL_law_809 rfl ?_
        refine go_iadd C dL_law_810 ?_
        refine go_sldG C hX hbl hbA h dL_law_811 (fun h => ?_)
        obtain ⟨r124, k125, h⟩ := tbd_e h
        refine go_callVT (q0 := 28) (wr := u9 G X0 X_brigade0 X_pad0 X_act0 X_fire0 X_routes0 X_posts0 X_trails0 X_feet0 X_images0 () ++ (u0 G X_act0 X_act ++ (u1 G X_brigade0 X_brigade1 X_brigade2 X_brigade3 X_brigade4 X_brigade5 r122.2 ++ (u3 G X_feet0 X_feet1 X_feet ++ (u4 G X_fire0 X_fire_after0 X_fire_act0 X_fire ++ (u0 G X_fire_act0 X_fire_act ++ (u1 G X_fire_after0 X_fire_after1 X_fire_after2 X_fire_after3 X_fire_after4 X_fire_after5 X_fire_after ++ (u5 G X_pad0 X_pad1 X_pad ++ (u6 G X_posts0 X_posts1 X_posts2 X_posts ++ (u7 G X_routes0 X_routes1 X_routes ++ (u8 G X_trails0 X_trails1 X_trails2 X_trails ++ (imC G X_images0 x0 x1 I0 I1)))))))))))) (w' := u9 G X0 X_brigade0 X_pad0 X_act0 X_fire0 X_routes0 X_posts0 X_trails0 X_feet0 X_images0 () ++ (u0 G X_act0 X_act ++ (u1 G X_brigade0 X_brigade1 X_brigade2 X_brigade3 X_brigade4 X_brigade5 r122.2 ++ (u3 G X_feet0 X_feet1 X_feet ++ (u4 G X_fire0 X_fire_after0 X_fire_act0 X_fire ++ (u0 G X_fire_act0 X_fire_act ++ (u1 G X_fire_after0 X_fire_after1 X_fire_after2 X_fire_after3 X_fire_after4 X_fire_after5 X_fire_after ++ (u5 G X_pad0 X_pad1 X_pad ++ (u6 G X_posts0 X_posts1 X_posts2 X_posts ++ (u7 G X_routes0 X_routes1 X_routes ++ (u8 G X_trails0 X_trails1 X_trails2 X_trails ++ (u10 G M0 M1 M2 M3 M4 M5 M6 M7 M8 M9 M10 M11 M12 r124.2 ++ (imC G X_images0 x0 x1 I0 I1))))))))))))) C cfL_111 viL_111 (m10_restore_k l G M0 M1 M2 M3 M4 M5 M6 M7 M8 M9 M10 M11 M12 M (xs (Int32.toNatClampNeg (x3 + (1 : Int32)))) r124 k125) dL_law_812 (by decide) ⟨by show cs ≤ 600000; omega, by show sl ≤ 7302250; omega⟩ rfl rfl (Nat.le_of_ble_eq_true rfl) rfl [28, 29, 30, 31, 32, 33, 34, 35, 36, 37, 38, 39, 40] [0, 1, 2, 3, 4, 5, 6, 7, 8, 9, 10, 11, 12, 13, 14, 15, 16, 17, 18, 19, 20, 21, 22, 23, 24, 25, 26, 27, 41] [0, 1, 2, 3, 4, 5, 6, 7, 8, 9, 10, 11, 12, 13, 14, 15, 16, 17, 18, 19, 20, 21, 22, 23, 24, 25, 26, 27, 29, 30, 31, 32, 33, 34, 35, 36, 37, 38, 39, 40, 41, 28] rfl rfl (by decide) rfl ?_
        refine go_icmp_eq (tgt := 843) C h dL_law_815 rfl (fun h => ?_) (fun h => ?_)
        · refine go_iincN (lf := fun v126 => [(3, .int v126), (0, .ref b), (1, .ref X0), (2, .ref M0)]) C h dL_law_843 3 rfl rfl (by decide) (fun _ => rfl) (fun v126 h => ?_)
          refine go_lv (lv' := [(0, .ref b), (1, .ref X0), (2, .ref M0), (3, .int v126)]) [1, 2, 3, 0] rfl ?_
          refine go_goto (tgt := 18) C dL_law_846 rfl ?_
          exact ih v126 X_act r122.2 X_feet X_fire X_fire_act X_fire_after X_pad X_posts X_routes X_trails I0 I1 r124.2 x0 x1 cs sl (by omega) (by omega) h
        · refine go_iconst (v := 0) C dL_law_818 rfl ?_
          exact absurd h (by decide)
      refine go_ite h (fun q h => ?_) (fun q23 h => ?_)
      · refine go_tabIn (off := 788) (tgt := 820) C dL_law_32 q (by decide) (by decide) rfl ?_
        refine go_aload_n C dL_law_820 1 rfl ?_
        refine go_aload_n C dL_law_821 0 rfl ?_
        refine go_iload_n C dL_law_822 3 rfl ?_
        refine go_iconst (v := 1) C dL_law_823 rfl ?_
        refine go_iadd C dL_law_824 ?_
        refine go_sldG C hX hbl hbA h dL_law_825 (fun h => ?_)
        obtain ⟨r127, k128, h⟩ := tbd_e h
        refine go_callVT (q0 := 0) (wr := u0 G X_act0 X_act ++ (u3 G X_feet0 X_feet1 X_feet ++ (u4 G X_fire0 X_fire_after0 X_fire_act0 X_fire ++ (u0 G X_fire_act0 X_fire_act ++ (u1 G X_fire_after0 X_fire_after1 X_fire_after2 X_fire_after3 X_fire_after4 X_fire_after5 X_fire_after ++ (u6 G X_posts0 X_posts1 X_posts2 X_posts ++ (u7 G X_routes0 X_routes1 X_routes ++ (u8 G X_trails0 X_trails1 X_trails2 X_trails ++ (u10 G M0 M1 M2 M3 M4 M5 M6 M7 M8 M9 M10 M11 M12 M ++ (imC G X_images0 x0 x1 I0 I1)))))))))) (w' := u9 G X0 X_brigade0 X_pad0 X_act0 X_fire0 X_routes0 X_posts0 X_trails0 X_feet0 X_images0 () ++ (u0 G X_act0 X_act ++ (u1 G X_brigade0 X_brigade1 X_brigade2 X_brigade3 X_brigade4 X_brigade5 X_brigade ++ (u3 G X_feet0 X_feet1 X_feet ++ (u4 G X_fire0 X_fire_after0 X_fire_act0 X_fire ++ (u0 G X_fire_act0 X_fire_act ++ (u1 G X_fire_after0 X_fire_after1 X_fire_after2 X_fire_after3 X_fire_after4 X_fire_after5 X_fire_after ++ (u5 G X_pad0 X_pad1 X_pad ++ (u6 G X_posts0 X_posts1 X_posts2 X_posts ++ (u7 G X_routes0 X_routes1 X_routes ++ (u8 G X_trails0 X_trails1 X_trails2 X_trails ++ (u10 G M0 M1 M2 M3 M4 M5 M6 M7 M8 M9 M10 M11 M12 M ++ (imC G X_images0 x0 x1 I0 I1))))))))))))) C cfL_112 viL_112 (m9_told_k l G X0 X_brigade0 X_pad0 X_act0 X_fire0 X_routes0 X_posts0 X_trails0 X_feet0 X_images0 X_brigade1 X_brigade2 X_brigade3 X_brigade4 X_brigade5 X_pad1 () X_brigade X_pad (xs (Int32.toNatClampNeg (x3 + (1 : Int32)))) r127 k128) dL_law_826 (by decide) ⟨by show cs ≤ 600000; omega, by show sl ≤ 7302250; omega⟩ rfl rfl (Nat.le_of_ble_eq_true rfl) rfl [0, 2, 3, 4, 5, 6, 7, 18, 19] [1, 8, 9, 10, 11, 12, 13, 14, 15, 16, 17, 20, 21, 22, 23, 24, 25, 26, 27, 28, 29, 30, 31, 32, 33, 34, 35, 36, 37, 38, 39, 40, 41] [33, 0, 34, 35, 36, 37, 38, 39, 1, 2, 3, 4, 5, 6, 7, 8, 9, 10, 40, 41, 11, 12, 13, 14, 15, 16, 17, 18, 19, 20, 21, 22, 23, 24, 25, 26, 27, 28, 29, 30, 31, 32] rfl rfl (by decide) rfl ?_
        refine go_aload_n C dL_law_829 2 rfl ?_
        refine go_aload_n C dL_law_830 0 rfl ?_
        refine go_iload_n C dL_law_831 3 rfl ?_
        refine go_iconst (v := 1) C dL_law_832 rfl ?_
        refine go_iadd C dL_law_833 ?_
        refine go_sldG C hX hbl hbA h dL_law_834 (fun h => ?_)
        obtain ⟨r129, k130, h⟩ := tbd_e h
        refine go_callVT (q0 := 28) (wr := u9 G X0 X_brigade0 X_pad0 X_act0 X_fire0 X_routes0 X_posts0 X_trails0 X_feet0 X_images0 () ++ (u0 G X_act0 X_act ++ (u1 G X_brigade0 X_brigade1 X_brigade2 X_brigade3 X_brigade4 X_brigade5 X_brigade ++ (u3 G X_feet0 X_feet1 X_feet ++ (u4 G X_fire0 X_fire_after0 X_fire_act0 X_fire ++ (u0 G X_fire_act0 X_fire_act ++ (u1 G X_fire_after0 X_fire_after1 X_fire_after2 X_fire_after3 X_fire_after4 X_fire_after5 X_fire_after ++ (u5 G X_pad0 X_pad1 X_pad ++ (u6 G X_posts0 X_posts1 X_posts2 X_posts ++ (u7 G X_routes0 X_routes1 X_routes ++ (u8 G X_trails0 X_trails1 X_trails2 X_trails ++ (imC G X_images0 x0 x1 I0 I1)))))))))))) (w' := u9 G X0 X_brigade0 X_pad0 X_act0 X_fire0 X_routes0 X_posts0 X_trails0 X_feet0 X_images0 () ++ (u0 G X_act0 X_act ++ (u1 G X_brigade0 X_brigade1 X_brigade2 X_brigade3 X_brigade4 X_brigade5 X_brigade ++ (u3 G X_feet0 X_feet1 X_feet ++ (u4 G X_fire0 X_fire_after0 X_fire_act0 X_fire ++ (u0 G X_fire_act0 X_fire_act ++ (u1 G X_fire_after0 X_fire_after1 X_fire_after2 X_fire_after3 X_fire_after4 X_fire_after5 X_fire_after ++ (u5 G X_pad0 X_pad1 X_pad ++ (u6 G X_posts0 X_posts1 X_posts2 X_posts ++ (u7 G X_routes0 X_routes1 X_routes ++ (u8 G X_trails0 X_trails1 X_trails2 X_trails ++ (u10 G M0 M1 M2 M3 M4 M5 M6 M7 M8 M9 M10 M11 M12 r129.2 ++ (imC G X_images0 x0 x1 I0 I1))))))))))))) C cfL_115 viL_115 (m10_told_k l G M0 M1 M2 M3 M4 M5 M6 M7 M8 M9 M10 M11 M12 M (xs (Int32.toNatClampNeg (x3 + (1 : Int32)))) r129 k130) dL_law_835 (by decide) ⟨by show cs ≤ 600000; omega, by show sl ≤ 7302250; omega⟩ rfl rfl (Nat.le_of_ble_eq_true rfl) rfl [28, 29, 30, 31, 32, 33, 34, 35, 36, 37, 38, 39, 40] [0, 1, 2, 3, 4, 5, 6, 7, 8, 9, 10, 11, 12, 13, 14, 15, 16, 17, 18, 19, 20, 21, 22, 23, 24, 25, 26, 27, 41] [0, 1, 2, 3, 4, 5, 6, 7, 8, 9, 10, 11, 12, 13, 14, 15, 16, 17, 18, 19, 20, 21, 22, 23, 24, 25, 26, 27, 29, 30, 31, 32, 33, 34, 35, 36, 37, 38, 39, 40, 41, 28] rfl rfl (by decide) rfl ?_
        refine go_icmp_eq (tgt := 843) C h dL_law_838 rfl (fun h => ?_) (fun h => ?_)
        · refine go_iincN (lf := fun v131 => [(3, .int v131), (0, .ref b), (1, .ref X0), (2, .ref M0)]) C h dL_law_843 3 rfl rfl (by decide) (fun _ => rfl) (fun v131 h => ?_)
          refine go_lv (lv' := [(0, .ref b), (1, .ref X0), (2, .ref M0), (3, .int v131)]) [1, 2, 3, 0] rfl ?_
          refine go_goto (tgt := 18) C dL_law_846 rfl ?_
          exact ih v131 X_act X_brigade X_feet X_fire X_fire_act X_fire_after X_pad X_posts X_routes X_trails I0 I1 r129.2 x0 x1 cs sl (by omega) (by omega) h
        · refine go_iconst (v := 0) C dL_law_841 rfl ?_
          exact absurd h (by decide)
      refine go_tabOut (tgt := 843) C dL_law_32 (by have a0 := lv_neT (a := 0) q0 rfl; have a1 := lv_neT (a := 1) q1 rfl; have a2 := lv_neT (a := 2) q2 rfl; have a3 := lv_neT (a := 3) q3 rfl; have a4 := lv_neT (a := 4) q4 rfl; have a5 := lv_neT (a := 5) q5 rfl; have a6 := lv_neT (a := 6) q6 rfl; have a7 := lv_neT (a := 7) q7 rfl; have a8 := lv_neT (a := 8) q8 rfl; have a9 := lv_neT (a := 9) q9 rfl; have a10 := lv_neT (a := 10) q10 rfl; have a11 := lv_neT (a := 11) q11 rfl; have a12 := lv_neT (a := 12) q12 rfl; have a13 := lv_neT (a := 13) q13 rfl; have a14 := lv_neT (a := 14) q14 rfl; have a15 := lv_neT (a := 15) q15 rfl; have a16 := lv_neT (a := 16) q16 rfl; have a17 := lv_neT (a := 17) q17 rfl; have a18 := lv_neT (a := 18) q18 rfl; have a19 := lv_neT (a := 19) q19 rfl; have a20 := lv_neT (a := 20) q20 rfl; have a21 := lv_neT (a := 21) q21 rfl; have a22 := lv_neT (a := 22) q22 rfl; have a23 := lv_neT (a := 23) q23 rfl; omega) rfl ?_
      refine go_iincN (lf := fun v132 => [(3, .int v132), (0, .ref b), (1, .ref X0), (2, .ref M0)]) C h dL_law_843 3 rfl rfl (by decide) (fun _ => rfl) (fun v132 h => ?_)
      refine go_lv (lv' := [(0, .ref b), (1, .ref X0), (2, .ref M0), (3, .int v132)]) [1, 2, 3, 0] rfl ?_
      refine go_goto (tgt := 18) C dL_law_846 rfl ?_
      exact ih v132 X_act X_brigade X_feet X_fire X_fire_act X_fire_after X_pad X_posts X_routes X_trails I0 I1 M x0 x1 cs sl (by omega) (by omega) h
