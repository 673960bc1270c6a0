theorem kw_839 : Cond.classLink RL 7 RX8 ∈ gT := gt_1 (List.mem_of_getElem? (i := 19) rfl) rfl
theorem kw_840 : Cond.instanceMethod yX8_init ∈ gT := gt_1 (List.mem_of_getElem? (i := 22) rfl) rfl
theorem kw_841 : Cond.classLink RL 10 RX9 ∈ gT := gt_4 (List.mem_of_getElem? (i := 143) rfl) rfl
theorem kw_842 : Cond.instanceMethod yX9_init ∈ gT := gt_4 (List.mem_of_getElem? (i := 146) rfl) rfl
theorem kw_843 : Cond.constantLong RL 13 (4294967295) ∈ gT := gt_6 (List.mem_of_getElem? (i := 40) rfl) rfl
theorem kw_844 : Cond.methodLink RL 9 yX8_init ∈ gT := gt_1 (List.mem_of_getElem? (i := 21) rfl) rfl
theorem kw_845 : Cond.code yX8_init cX8_init 1 none ∈ gT := gt_1 (List.mem_of_getElem? (i := 23) rfl) rfl
theorem kw_846 : Cond.methodLink RL 12 yX9_init ∈ gT := gt_4 (List.mem_of_getElem? (i := 145) rfl) rfl
theorem kw_847 : Cond.code yX9_init cX9_init 1 none ∈ gT := gt_4 (List.mem_of_getElem? (i := 147) rfl) rfl
theorem kw_848 : Cond.methodLink RL 15 yX8_type ∈ gT := gt_2 (List.mem_of_getElem? (i := 9) rfl) rfl
theorem kw_849 : Cond.code yX8_type cX8_type 5 (some .int) ∈ gT := gt_2 (List.mem_of_getElem? (i := 12) rfl) rfl
theorem kw_850 : Cond.methodLink RL 19 yX9_type ∈ gT := gt_5 (List.mem_of_getElem? (i := 16) rfl) rfl
theorem kw_851 : Cond.code yX9_type cX9_type 5 (some .int) ∈ gT := gt_5 (List.mem_of_getElem? (i := 19) rfl) rfl
theorem kw_852 : Cond.methodLink RL 20 yX8_erase ∈ gT := gt_2 (List.mem_of_getElem? (i := 33) rfl) rfl
theorem kw_853 : Cond.code yX8_erase cX8_erase 2 (some .int) ∈ gT := gt_2 (List.mem_of_getElem? (i := 36) rfl) rfl
theorem kw_854 : Cond.methodLink RL 24 yX9_erase ∈ gT := gt_5 (List.mem_of_getElem? (i := 23) rfl) rfl
theorem kw_855 : Cond.code yX9_erase cX9_erase 2 (some .int) ∈ gT := gt_5 (List.mem_of_getElem? (i := 26) rfl) rfl
theorem kw_856 : Cond.methodLink RL 25 yX8_read ∈ gT := gt_2 (List.mem_of_getElem? (i := 41) rfl) rfl
theorem kw_857 : Cond.code yX8_read cX8_read 6 (some .int) ∈ gT := gt_2 (List.mem_of_getElem? (i := 44) rfl) rfl
theorem kw_858 : Cond.methodLink RL 29 yX9_read ∈ gT := gt_5 (List.mem_of_getElem? (i := 31) rfl) rfl
theorem kw_859 : Cond.code yX9_read cX9_read 4 (some .int) ∈ gT := gt_5 (List.mem_of_getElem? (i := 34) rfl) rfl
theorem kw_860 : Cond.methodLink RL 30 yX8_write ∈ gT := gt_3 (List.mem_of_getElem? (i := 239) rfl) rfl
theorem kw_861 : Cond.code yX8_write cX8_write 3 (some .int) ∈ gT := gt_4 (List.mem_of_getElem? (i := 2) rfl) rfl
theorem kw_862 : Cond.methodLink RL 34 yX9_write ∈ gT := gt_5 (List.mem_of_getElem? (i := 206) rfl) rfl
theorem kw_863 : Cond.code yX9_write cX9_write 3 (some .int) ∈ gT := gt_5 (List.mem_of_getElem? (i := 209) rfl) rfl
theorem kw_864 : Cond.methodLink RL 35 yX8_at ∈ gT := gt_4 (List.mem_of_getElem? (i := 4) rfl) rfl
theorem kw_865 : Cond.code yX8_at cX8_at 2 (some .int) ∈ gT := gt_4 (List.mem_of_getElem? (i := 7) rfl) rfl
theorem kw_866 : Cond.methodLink RL 38 yX9_at ∈ gT := gt_5 (List.mem_of_getElem? (i := 27) rfl) rfl
theorem kw_867 : Cond.code yX9_at cX9_at 2 (some .int) ∈ gT := gt_5 (List.mem_of_getElem? (i := 30) rfl) rfl
theorem kw_868 : Cond.methodLink RL 39 yX8_size ∈ gT := gt_4 (List.mem_of_getElem? (i := 9) rfl) rfl
theorem kw_869 : Cond.code yX8_size cX8_size 5 (some .int) ∈ gT := gt_4 (List.mem_of_getElem? (i := 12) rfl) rfl
theorem kw_870 : Cond.methodLink RL 42 yX9_size ∈ gT := gt_5 (List.mem_of_getElem? (i := 222) rfl) rfl
theorem kw_871 : Cond.methodLink RL 43 yX8_part ∈ gT := gt_4 (List.mem_of_getElem? (i := 17) rfl) rfl
theorem kw_872 : Cond.code yX8_part cX8_part 6 (some .int) ∈ gT := gt_4 (List.mem_of_getElem? (i := 20) rfl) rfl
theorem kw_873 : Cond.methodLink RL 47 yX9_part ∈ gT := gt_5 (List.mem_of_getElem? (i := 226) rfl) rfl
theorem kw_874 : Cond.code yX9_part cX9_part 5 (some .int) ∈ gT := gt_5 (List.mem_of_getElem? (i := 229) rfl) rfl
theorem kw_875 : Cond.methodLink RL 48 yX8_told ∈ gT := gt_4 (List.mem_of_getElem? (i := 21) rfl) rfl
theorem kw_876 : Cond.code yX8_told cX8_told 4 (some .int) ∈ gT := gt_4 (List.mem_of_getElem? (i := 24) rfl) rfl
theorem kw_877 : Cond.methodLink RL 51 yX9_told ∈ gT := gt_5 (List.mem_of_getElem? (i := 231) rfl) rfl
theorem kw_878 : Cond.methodLink RL 52 yX8_number ∈ gT := gt_4 (List.mem_of_getElem? (i := 30) rfl) rfl
theorem kw_879 : Cond.code yX8_number cX8_number 4 (some .int) ∈ gT := gt_4 (List.mem_of_getElem? (i := 33) rfl) rfl
theorem kw_880 : Cond.methodLink RL 55 yX9_number ∈ gT := gt_5 (List.mem_of_getElem? (i := 235) rfl) rfl
theorem kw_881 : Cond.code yX9_number cX9_number 3 (some .int) ∈ gT := gt_5 (List.mem_of_getElem? (i := 238) rfl) rfl
theorem kw_882 : Cond.methodLink RL 56 yX8_same ∈ gT := gt_4 (List.mem_of_getElem? (i := 35) rfl) rfl
theorem kw_883 : Cond.code yX8_same cX8_same 5 (some .int) ∈ gT := gt_4 (List.mem_of_getElem? (i := 38) rfl) rfl
theorem kw_884 : Cond.methodLink RL 59 yX9_same ∈ gT := gt_5 (List.mem_of_getElem? (i := 239) rfl) rfl
theorem kw_885 : Cond.code yX9_same cX9_same 5 (some .int) ∈ gT := gt_6 (List.mem_of_getElem? (i := 2) rfl) rfl
theorem kw_886 : Cond.methodLink RL 60 yX8_list ∈ gT := gt_4 (List.mem_of_getElem? (i := 56) rfl) rfl
theorem kw_887 : Cond.code yX8_list cX8_list 3 (some .int) ∈ gT := gt_4 (List.mem_of_getElem? (i := 59) rfl) rfl
theorem kw_888 : Cond.methodLink RL 64 yX9_list ∈ gT := gt_6 (List.mem_of_getElem? (i := 4) rfl) rfl
theorem kw_889 : Cond.code yX9_list cX9_list 4 (some .int) ∈ gT := gt_6 (List.mem_of_getElem? (i := 7) rfl) rfl
theorem kw_890 : Cond.methodLink RL 65 yX8_resolve ∈ gT := gt_4 (List.mem_of_getElem? (i := 75) rfl) rfl
theorem kw_891 : Cond.code yX8_resolve cX8_resolve 7 (some .int) ∈ gT := gt_4 (List.mem_of_getElem? (i := 78) rfl) rfl
theorem kw_892 : Cond.methodLink RL 69 yX9_resolve ∈ gT := gt_6 (List.mem_of_getElem? (i := 12) rfl) rfl
theorem kw_893 : Cond.code yX9_resolve cX9_resolve 8 (some .int) ∈ gT := gt_6 (List.mem_of_getElem? (i := 15) rfl) rfl
theorem kw_894 : Cond.methodLink RL 70 yX8_range ∈ gT := gt_4 (List.mem_of_getElem? (i := 87) rfl) rfl
theorem kw_895 : Cond.code yX8_range cX8_range 7 (some .int) ∈ gT := gt_4 (List.mem_of_getElem? (i := 90) rfl) rfl
theorem kw_896 : Cond.methodLink RL 74 yX9_range ∈ gT := gt_6 (List.mem_of_getElem? (i := 16) rfl) rfl
theorem kw_897 : Cond.code yX9_range cX9_range 7 (some .int) ∈ gT := gt_6 (List.mem_of_getElem? (i := 19) rfl) rfl
theorem kw_898 : Cond.methodLink RL 75 yX8_clear ∈ gT := gt_4 (List.mem_of_getElem? (i := 95) rfl) rfl
theorem kw_899 : Cond.code yX8_clear cX8_clear 1 (some .int) ∈ gT := gt_4 (List.mem_of_getElem? (i := 98) rfl) rfl
theorem kw_900 : Cond.methodLink RL 78 yX9_clear ∈ gT := gt_6 (List.mem_of_getElem? (i := 20) rfl) rfl
theorem kw_901 : Cond.code yX9_clear cX9_clear 2 (some .int) ∈ gT := gt_6 (List.mem_of_getElem? (i := 23) rfl) rfl
theorem kw_902 : Cond.methodLink RL 79 yX8_pass ∈ gT := gt_4 (List.mem_of_getElem? (i := 103) rfl) rfl
theorem kw_903 : Cond.code yX8_pass cX8_pass 3 (some .int) ∈ gT := gt_4 (List.mem_of_getElem? (i := 106) rfl) rfl
theorem kw_904 : Cond.methodLink RL 82 yX9_pass ∈ gT := gt_6 (List.mem_of_getElem? (i := 24) rfl) rfl
theorem kw_905 : Cond.code yX9_pass cX9_pass 7 (some .int) ∈ gT := gt_6 (List.mem_of_getElem? (i := 27) rfl) rfl
theorem kw_906 : Cond.instanceMethod yX8_at ∈ gT := gt_4 (List.mem_of_getElem? (i := 5) rfl) rfl
theorem kw_907 : Cond.selects RX8 yX8_at yX8_at ∈ gT := gt_4 (List.mem_of_getElem? (i := 6) rfl) rfl
theorem kw_908 : Cond.instanceMethod yX8_clear ∈ gT := gt_4 (List.mem_of_getElem? (i := 96) rfl) rfl
theorem kw_909 : Cond.selects RX8 yX8_clear yX8_clear ∈ gT := gt_4 (List.mem_of_getElem? (i := 97) rfl) rfl
theorem kw_910 : Cond.instanceMethod yX8_erase ∈ gT := gt_2 (List.mem_of_getElem? (i := 34) rfl) rfl
theorem kw_911 : Cond.selects RX8 yX8_erase yX8_erase ∈ gT := gt_2 (List.mem_of_getElem? (i := 35) rfl) rfl
theorem kw_912 : Cond.instanceMethod yX8_list ∈ gT := gt_4 (List.mem_of_getElem? (i := 57) rfl) rfl
theorem kw_913 : Cond.selects RX8 yX8_list yX8_list ∈ gT := gt_4 (List.mem_of_getElem? (i := 58) rfl) rfl
theorem kw_914 : Cond.instanceMethod yX8_number ∈ gT := gt_4 (List.mem_of_getElem? (i := 31) rfl) rfl
theorem kw_915 : Cond.selects RX8 yX8_number yX8_number ∈ gT := gt_4 (List.mem_of_getElem? (i := 32) rfl) rfl
theorem kw_916 : Cond.instanceMethod yX8_part ∈ gT := gt_4 (List.mem_of_getElem? (i := 18) rfl) rfl
theorem kw_917 : Cond.selects RX8 yX8_part yX8_part ∈ gT := gt_4 (List.mem_of_getElem? (i := 19) rfl) rfl
theorem kw_918 : Cond.instanceMethod yX8_pass ∈ gT := gt_4 (List.mem_of_getElem? (i := 104) rfl) rfl
theorem kw_919 : Cond.selects RX8 yX8_pass yX8_pass ∈ gT := gt_4 (List.mem_of_getElem? (i := 105) rfl) rfl
theorem kw_920 : Cond.instanceMethod yX8_range ∈ gT := gt_4 (List.mem_of_getElem? (i := 88) rfl) rfl
theorem kw_921 : Cond.selects RX8 yX8_range yX8_range ∈ gT := gt_4 (List.mem_of_getElem? (i := 89) rfl) rfl
theorem kw_922 : Cond.instanceMethod yX8_read ∈ gT := gt_2 (List.mem_of_getElem? (i := 42) rfl) rfl
theorem kw_923 : Cond.selects RX8 yX8_read yX8_read ∈ gT := gt_2 (List.mem_of_getElem? (i := 43) rfl) rfl
theorem kw_924 : Cond.instanceMethod yX8_resolve ∈ gT := gt_4 (List.mem_of_getElem? (i := 76) rfl) rfl
theorem kw_925 : Cond.selects RX8 yX8_resolve yX8_resolve ∈ gT := gt_4 (List.mem_of_getElem? (i := 77) rfl) rfl
theorem kw_926 : Cond.instanceMethod yX8_same ∈ gT := gt_4 (List.mem_of_getElem? (i := 36) rfl) rfl
theorem kw_927 : Cond.selects RX8 yX8_same yX8_same ∈ gT := gt_4 (List.mem_of_getElem? (i := 37) rfl) rfl
theorem kw_928 : Cond.instanceMethod yX8_size ∈ gT := gt_4 (List.mem_of_getElem? (i := 10) rfl) rfl
theorem kw_929 : Cond.selects RX8 yX8_size yX8_size ∈ gT := gt_4 (List.mem_of_getElem? (i := 11) rfl) rfl
theorem kw_930 : Cond.instanceMethod yX8_told ∈ gT := gt_4 (List.mem_of_getElem? (i := 22) rfl) rfl
theorem kw_931 : Cond.selects RX8 yX8_told yX8_told ∈ gT := gt_4 (List.mem_of_getElem? (i := 23) rfl) rfl
theorem kw_932 : Cond.instanceMethod yX8_type ∈ gT := gt_2 (List.mem_of_getElem? (i := 10) rfl) rfl
theorem kw_933 : Cond.selects RX8 yX8_type yX8_type ∈ gT := gt_2 (List.mem_of_getElem? (i := 11) rfl) rfl
theorem kw_934 : Cond.instanceMethod yX8_write ∈ gT := gt_4 (List.mem_of_getElem? (i := 0) rfl) rfl
theorem kw_935 : Cond.selects RX8 yX8_write yX8_write ∈ gT := gt_4 (List.mem_of_getElem? (i := 1) rfl) rfl
theorem kw_936 : Cond.instanceMethod yX9_at ∈ gT := gt_5 (List.mem_of_getElem? (i := 28) rfl) rfl
theorem kw_937 : Cond.selects RX9 yX9_at yX9_at ∈ gT := gt_5 (List.mem_of_getElem? (i := 29) rfl) rfl
theorem kw_938 : Cond.instanceMethod yX9_clear ∈ gT := gt_6 (List.mem_of_getElem? (i := 21) rfl) rfl
theorem kw_939 : Cond.selects RX9 yX9_clear yX9_clear ∈ gT := gt_6 (List.mem_of_getElem? (i := 22) rfl) rfl
theorem kw_940 : Cond.instanceMethod yX9_erase ∈ gT := gt_5 (List.mem_of_getElem? (i := 24) rfl) rfl
theorem kw_941 : Cond.selects RX9 yX9_erase yX9_erase ∈ gT := gt_5 (List.mem_of_getElem? (i := 25) rfl) rfl
theorem kw_942 : Cond.instanceMethod yX9_list ∈ gT := gt_6 (List.mem_of_getElem? (i := 5) rfl) rfl
theorem kw_943 : Cond.selects RX9 yX9_list yX9_list ∈ gT := gt_6 (List.mem_of_getElem? (i := 6) rfl) rfl
theorem kw_944 : Cond.instanceMethod yX9_number ∈ gT := gt_5 (List.mem_of_getElem? (i := 236) rfl) rfl
theorem kw_945 : Cond.selects RX9 yX9_number yX9_number ∈ gT := gt_5 (List.mem_of_getElem? (i := 237) rfl) rfl
theorem kw_946 : Cond.instanceMethod yX9_part ∈ gT := gt_5 (List.mem_of_getElem? (i := 227) rfl) rfl
theorem kw_947 : Cond.selects RX9 yX9_part yX9_part ∈ gT := gt_5 (List.mem_of_getElem? (i := 228) rfl) rfl
theorem kw_948 : Cond.instanceMethod yX9_pass ∈ gT := gt_6 (List.mem_of_getElem? (i := 25) rfl) rfl
theorem kw_949 : Cond.selects RX9 yX9_pass yX9_pass ∈ gT := gt_6 (List.mem_of_getElem? (i := 26) rfl) rfl
theorem kw_950 : Cond.instanceMethod yX9_range ∈ gT := gt_6 (List.mem_of_getElem? (i := 17) rfl) rfl
theorem kw_951 : Cond.selects RX9 yX9_range yX9_range ∈ gT := gt_6 (List.mem_of_getElem? (i := 18) rfl) rfl
theorem kw_952 : Cond.instanceMethod yX9_read ∈ gT := gt_5 (List.mem_of_getElem? (i := 32) rfl) rfl
theorem kw_953 : Cond.selects RX9 yX9_read yX9_read ∈ gT := gt_5 (List.mem_of_getElem? (i := 33) rfl) rfl
theorem kw_954 : Cond.instanceMethod yX9_resolve ∈ gT := gt_6 (List.mem_of_getElem? (i := 13) rfl) rfl
theorem kw_955 : Cond.selects RX9 yX9_resolve yX9_resolve ∈ gT := gt_6 (List.mem_of_getElem? (i := 14) rfl) rfl
theorem kw_956 : Cond.instanceMethod yX9_same ∈ gT := gt_6 (List.mem_of_getElem? (i := 0) rfl) rfl
theorem kw_957 : Cond.selects RX9 yX9_same yX9_same ∈ gT := gt_6 (List.mem_of_getElem? (i := 1) rfl) rfl
theorem kw_958 : Cond.instanceMethod yX9_type ∈ gT := gt_5 (List.mem_of_getElem? (i := 17) rfl) rfl
theorem kw_959 : Cond.selects RX9 yX9_type yX9_type ∈ gT := gt_5 (List.mem_of_getElem? (i := 18) rfl) rfl
theorem kw_960 : Cond.instanceMethod yX9_write ∈ gT := gt_5 (List.mem_of_getElem? (i := 207) rfl) rfl
theorem kw_961 : Cond.selects RX9 yX9_write yX9_write ∈ gT := gt_5 (List.mem_of_getElem? (i := 208) rfl) rfl
theorem gl_RL_9 : gLink RL 9 yX8_init cX8_init 1 0 none := ⟨kw_844, kw_845, kw_454, by decide, by decide, rfl⟩
theorem gl_RL_12 : gLink RL 12 yX9_init cX9_init 1 0 none := ⟨kw_846, kw_847, kw_483, by decide, by decide, rfl⟩
theorem gl_RL_15 : gLink RL 15 yX8_type cX8_type 5 2 (some .int) := ⟨kw_848, kw_849, kw_454, by decide, by decide, rfl⟩
theorem gl_RL_19 : gLink RL 19 yX9_type cX9_type 5 2 (some .int) := ⟨kw_850, kw_851, kw_483, by decide, by decide, rfl⟩
theorem gl_RL_20 : gLink RL 20 yX8_erase cX8_erase 2 0 (some .int) := ⟨kw_852, kw_853, kw_454, by decide, by decide, rfl⟩
theorem gl_RL_24 : gLink RL 24 yX9_erase cX9_erase 2 0 (some .int) := ⟨kw_854, kw_855, kw_483, by decide, by decide, rfl⟩
theorem gl_RL_25 : gLink RL 25 yX8_read cX8_read 6 2 (some .int) := ⟨kw_856, kw_857, kw_454, by decide, by decide, rfl⟩
theorem gl_RL_29 : gLink RL 29 yX9_read cX9_read 4 2 (some .int) := ⟨kw_858, kw_859, kw_483, by decide, by decide, rfl⟩
theorem gl_RL_30 : gLink RL 30 yX8_write cX8_write 3 1 (some .int) := ⟨kw_860, kw_861, kw_454, by decide, by decide, rfl⟩
theorem gl_RL_34 : gLink RL 34 yX9_write cX9_write 3 1 (some .int) := ⟨kw_862, kw_863, kw_483, by decide, by decide, rfl⟩
theorem gl_RL_35 : gLink RL 35 yX8_at cX8_at 2 1 (some .int) := ⟨kw_864, kw_865, kw_454, by decide, by decide, rfl⟩
theorem gl_RL_38 : gLink RL 38 yX9_at cX9_at 2 1 (some .int) := ⟨kw_866, kw_867, kw_483, by decide, by decide, rfl⟩
theorem gl_RL_39 : gLink RL 39 yX8_size cX8_size 5 2 (some .int) := ⟨kw_868, kw_869, kw_454, by decide, by decide, rfl⟩
theorem gl_RL_42 : gLink RL 42 yX9_size cX9_size 3 2 (some .int) := ⟨kw_870, kw_576, kw_483, by decide, by decide, rfl⟩
theorem gl_RL_43 : gLink RL 43 yX8_part cX8_part 6 3 (some .int) := ⟨kw_871, kw_872, kw_454, by decide, by decide, rfl⟩
theorem gl_RL_47 : gLink RL 47 yX9_part cX9_part 5 3 (some .int) := ⟨kw_873, kw_874, kw_483, by decide, by decide, rfl⟩
theorem gl_RL_48 : gLink RL 48 yX8_told cX8_told 4 2 (some .int) := ⟨kw_875, kw_876, kw_454, by decide, by decide, rfl⟩
theorem gl_RL_51 : gLink RL 51 yX9_told cX9_told 5 2 (some .int) := ⟨kw_877, kw_578, kw_483, by decide, by decide, rfl⟩
theorem gl_RL_52 : gLink RL 52 yX8_number cX8_number 4 2 (some .int) := ⟨kw_878, kw_879, kw_454, by decide, by decide, rfl⟩
theorem gl_RL_55 : gLink RL 55 yX9_number cX9_number 3 2 (some .int) := ⟨kw_880, kw_881, kw_483, by decide, by decide, rfl⟩
theorem gl_RL_56 : gLink RL 56 yX8_same cX8_same 5 2 (some .int) := ⟨kw_882, kw_883, kw_454, by decide, by decide, rfl⟩
theorem gl_RL_59 : gLink RL 59 yX9_same cX9_same 5 2 (some .int) := ⟨kw_884, kw_885, kw_483, by decide, by decide, rfl⟩
theorem gl_RL_60 : gLink RL 60 yX8_list cX8_list 3 1 (some .int) := ⟨kw_886, kw_887, kw_454, by decide, by decide, rfl⟩
theorem gl_RL_64 : gLink RL 64 yX9_list cX9_list 4 1 (some .int) := ⟨kw_888, kw_889, kw_483, by decide, by decide, rfl⟩
theorem gl_RL_65 : gLink RL 65 yX8_resolve cX8_resolve 7 5 (some .int) := ⟨kw_890, kw_891, kw_454, by decide, by decide, rfl⟩
theorem gl_RL_69 : gLink RL 69 yX9_resolve cX9_resolve 8 5 (some .int) := ⟨kw_892, kw_893, kw_483, by decide, by decide, rfl⟩
theorem gl_RL_70 : gLink RL 70 yX8_range cX8_range 7 6 (some .int) := ⟨kw_894, kw_895, kw_454, by decide, by decide, rfl⟩
theorem gl_RL_74 : gLink RL 74 yX9_range cX9_range 7 6 (some .int) := ⟨kw_896, kw_897, kw_483, by decide, by decide, rfl⟩
theorem gl_RL_75 : gLink RL 75 yX8_clear cX8_clear 1 0 (some .int) := ⟨kw_898, kw_899, kw_454, by decide, by decide, rfl⟩
theorem gl_RL_78 : gLink RL 78 yX9_clear cX9_clear 2 0 (some .int) := ⟨kw_900, kw_901, kw_483, by decide, by decide, rfl⟩
theorem gl_RL_79 : gLink RL 79 yX8_pass cX8_pass 3 1 (some .int) := ⟨kw_902, kw_903, kw_454, by decide, by decide, rfl⟩
theorem gl_RL_82 : gLink RL 82 yX9_pass cX9_pass 7 1 (some .int) := ⟨kw_904, kw_905, kw_483, by decide, by decide, rfl⟩
theorem gn_X8_at : Cond.instanceMethod yX8_at ∈ gT ∧ Cond.selects RX8 yX8_at yX8_at ∈ gT := ⟨kw_906, kw_907⟩
theorem gn_X8_clear : Cond.instanceMethod yX8_clear ∈ gT ∧ Cond.selects RX8 yX8_clear yX8_clear ∈ gT := ⟨kw_908, kw_909⟩
theorem gn_X8_erase : Cond.instanceMethod yX8_erase ∈ gT ∧ Cond.selects RX8 yX8_erase yX8_erase ∈ gT := ⟨kw_910, kw_911⟩
theorem gn_X8_list : Cond.instanceMethod yX8_list ∈ gT ∧ Cond.selects RX8 yX8_list yX8_list ∈ gT := ⟨kw_912, kw_913⟩
theorem gn_X8_number : Cond.instanceMethod yX8_number ∈ gT ∧ Cond.selects RX8 yX8_number yX8_number ∈ gT := ⟨kw_914, kw_915⟩
theorem gn_X8_part : Cond.instanceMethod yX8_part ∈ gT ∧ Cond.selects RX8 yX8_part yX8_part ∈ gT := ⟨kw_916, kw_917⟩
theorem gn_X8_pass : Cond.instanceMethod yX8_pass ∈ gT ∧ Cond.selects RX8 yX8_pass yX8_pass ∈ gT := ⟨kw_918, kw_919⟩
theorem gn_X8_range : Cond.instanceMethod yX8_range ∈ gT ∧ Cond.selects RX8 yX8_range yX8_range ∈ gT := ⟨kw_920, kw_921⟩
theorem gn_X8_read : Cond.instanceMethod yX8_read ∈ gT ∧ Cond.selects RX8 yX8_read yX8_read ∈ gT := ⟨kw_922, kw_923⟩
theorem gn_X8_resolve : Cond.instanceMethod yX8_resolve ∈ gT ∧ Cond.selects RX8 yX8_resolve yX8_resolve ∈ gT := ⟨kw_924, kw_925⟩
theorem gn_X8_same : Cond.instanceMethod yX8_same ∈ gT ∧ Cond.selects RX8 yX8_same yX8_same ∈ gT := ⟨kw_926, kw_927⟩
theorem gn_X8_size : Cond.instanceMethod yX8_size ∈ gT ∧ Cond.selects RX8 yX8_size yX8_size ∈ gT := ⟨kw_928, kw_929⟩
theorem gn_X8_told : Cond.instanceMethod yX8_told ∈ gT ∧ Cond.selects RX8 yX8_told yX8_told ∈ gT := ⟨kw_930, kw_931⟩
theorem gn_X8_type : Cond.instanceMethod yX8_type ∈ gT ∧ Cond.selects RX8 yX8_type yX8_type ∈ gT := ⟨kw_932, kw_933⟩
theorem gn_X8_write : Cond.instanceMethod yX8_write ∈ gT ∧ Cond.selects RX8 yX8_write yX8_write ∈ gT := ⟨kw_934, kw_935⟩
theorem gn_X9_at : Cond.instanceMethod yX9_at ∈ gT ∧ Cond.selects RX9 yX9_at yX9_at ∈ gT := ⟨kw_936, kw_937⟩
theorem gn_X9_clear : Cond.instanceMethod yX9_clear ∈ gT ∧ Cond.selects RX9 yX9_clear yX9_clear ∈ gT := ⟨kw_938, kw_939⟩
theorem gn_X9_erase : Cond.instanceMethod yX9_erase ∈ gT ∧ Cond.selects RX9 yX9_erase yX9_erase ∈ gT := ⟨kw_940, kw_941⟩
theorem gn_X9_list : Cond.instanceMethod yX9_list ∈ gT ∧ Cond.selects RX9 yX9_list yX9_list ∈ gT := ⟨kw_942, kw_943⟩
theorem gn_X9_number : Cond.instanceMethod yX9_number ∈ gT ∧ Cond.selects RX9 yX9_number yX9_number ∈ gT := ⟨kw_944, kw_945⟩
theorem gn_X9_part : Cond.instanceMethod yX9_part ∈ gT ∧ Cond.selects RX9 yX9_part yX9_part ∈ gT := ⟨kw_946, kw_947⟩
theorem gn_X9_pass : Cond.instanceMethod yX9_pass ∈ gT ∧ Cond.selects RX9 yX9_pass yX9_pass ∈ gT := ⟨kw_948, kw_949⟩
theorem gn_X9_range : Cond.instanceMethod yX9_range ∈ gT ∧ Cond.selects RX9 yX9_range yX9_range ∈ gT := ⟨kw_950, kw_951⟩
theorem gn_X9_read : Cond.instanceMethod yX9_read ∈ gT ∧ Cond.selects RX9 yX9_read yX9_read ∈ gT := ⟨kw_952, kw_953⟩
theorem gn_X9_resolve : Cond.instanceMethod yX9_resolve ∈ gT ∧ Cond.selects RX9 yX9_resolve yX9_resolve ∈ gT := ⟨kw_954, kw_955⟩
theorem gn_X9_same : Cond.instanceMethod yX9_same ∈ gT ∧ Cond.selects RX9 yX9_same yX9_same ∈ gT := ⟨kw_956, kw_957⟩
theorem gn_X9_type : Cond.instanceMethod yX9_type ∈ gT ∧ Cond.selects RX9 yX9_type yX9_type ∈ gT := ⟨kw_958, kw_959⟩
theorem gn_X9_write : Cond.instanceMethod yX9_write ∈ gT ∧ Cond.selects RX9 yX9_write yX9_write ∈ gT := ⟨kw_960, kw_961⟩
