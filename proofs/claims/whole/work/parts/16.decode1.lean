theorem dc_0_0 : (((ents 0).drop 0).take 13).all (dcE 0) = true := by decide +kernel
theorem dcM_0 : ((ents 0).drop 0).all (dcE 0) = true := sp_go dc_0_0 (sp_end (by decide +kernel))
theorem dc_1_0 : (((ents 1).drop 0).take 31).all (dcE 1) = true := by decide +kernel
theorem dcM_1 : ((ents 1).drop 0).all (dcE 1) = true := sp_go dc_1_0 (sp_end (by decide +kernel))
theorem dc_2_0 : (((ents 2).drop 0).take 9).all (dcE 2) = true := by decide +kernel
theorem dcM_2 : ((ents 2).drop 0).all (dcE 2) = true := sp_go dc_2_0 (sp_end (by decide +kernel))
theorem dc_3_0 : (((ents 3).drop 0).take 13).all (dcE 3) = true := by decide +kernel
theorem dcM_3 : ((ents 3).drop 0).all (dcE 3) = true := sp_go dc_3_0 (sp_end (by decide +kernel))
theorem dc_4_0 : (((ents 4).drop 0).take 57).all (dcE 4) = true := by decide +kernel
theorem dcM_4 : ((ents 4).drop 0).all (dcE 4) = true := sp_go dc_4_0 (sp_end (by decide +kernel))
theorem dc_5_0 : (((ents 5).drop 0).take 19).all (dcE 5) = true := by decide +kernel
theorem dcM_5 : ((ents 5).drop 0).all (dcE 5) = true := sp_go dc_5_0 (sp_end (by decide +kernel))
theorem dc_6_0 : (((ents 6).drop 0).take 63).all (dcE 6) = true := by decide +kernel
theorem dc_6_1 : (((ents 6).drop 63).take 16).all (dcE 6) = true := by decide +kernel
theorem dcM_6 : ((ents 6).drop 0).all (dcE 6) = true := sp_go dc_6_0 (sp_go dc_6_1 (sp_end (by decide +kernel)))
theorem dc_7_0 : (((ents 7).drop 0).take 20).all (dcE 7) = true := by decide +kernel
theorem dcM_7 : ((ents 7).drop 0).all (dcE 7) = true := sp_go dc_7_0 (sp_end (by decide +kernel))
theorem dc_8_0 : (((ents 8).drop 0).take 16).all (dcE 8) = true := by decide +kernel
theorem dcM_8 : ((ents 8).drop 0).all (dcE 8) = true := sp_go dc_8_0 (sp_end (by decide +kernel))
theorem dc_9_0 : (((ents 9).drop 0).take 18).all (dcE 9) = true := by decide +kernel
theorem dcM_9 : ((ents 9).drop 0).all (dcE 9) = true := sp_go dc_9_0 (sp_end (by decide +kernel))
theorem dc_10_0 : (((ents 10).drop 0).take 31).all (dcE 10) = true := by decide +kernel
theorem dcM_10 : ((ents 10).drop 0).all (dcE 10) = true := sp_go dc_10_0 (sp_end (by decide +kernel))
theorem dc_11_0 : (((ents 11).drop 0).take 27).all (dcE 11) = true := by decide +kernel
theorem dcM_11 : ((ents 11).drop 0).all (dcE 11) = true := sp_go dc_11_0 (sp_end (by decide +kernel))
theorem dc_12_0 : (((ents 12).drop 0).take 23).all (dcE 12) = true := by decide +kernel
theorem dcM_12 : ((ents 12).drop 0).all (dcE 12) = true := sp_go dc_12_0 (sp_end (by decide +kernel))
theorem dc_13_0 : (((ents 13).drop 0).take 15).all (dcE 13) = true := by decide +kernel
theorem dcM_13 : ((ents 13).drop 0).all (dcE 13) = true := sp_go dc_13_0 (sp_end (by decide +kernel))
theorem dc_14_0 : (((ents 14).drop 0).take 20).all (dcE 14) = true := by decide +kernel
theorem dcM_14 : ((ents 14).drop 0).all (dcE 14) = true := sp_go dc_14_0 (sp_end (by decide +kernel))
theorem dc_15_0 : (((ents 15).drop 0).take 57).all (dcE 15) = true := by decide +kernel
theorem dc_15_1 : (((ents 15).drop 57).take 24).all (dcE 15) = true := by decide +kernel
theorem dcM_15 : ((ents 15).drop 0).all (dcE 15) = true := sp_go dc_15_0 (sp_go dc_15_1 (sp_end (by decide +kernel)))
theorem dc_16_0 : (((ents 16).drop 0).take 13).all (dcE 16) = true := by decide +kernel
theorem dcM_16 : ((ents 16).drop 0).all (dcE 16) = true := sp_go dc_16_0 (sp_end (by decide +kernel))
theorem dc_17_0 : (((ents 17).drop 0).take 16).all (dcE 17) = true := by decide +kernel
theorem dcM_17 : ((ents 17).drop 0).all (dcE 17) = true := sp_go dc_17_0 (sp_end (by decide +kernel))
theorem dc_18_0 : (((ents 18).drop 0).take 16).all (dcE 18) = true := by decide +kernel
theorem dcM_18 : ((ents 18).drop 0).all (dcE 18) = true := sp_go dc_18_0 (sp_end (by decide +kernel))
theorem dc_19_0 : (((ents 19).drop 0).take 23).all (dcE 19) = true := by decide +kernel
theorem dcM_19 : ((ents 19).drop 0).all (dcE 19) = true := sp_go dc_19_0 (sp_end (by decide +kernel))
theorem dc_20_0 : (((ents 20).drop 0).take 57).all (dcE 20) = true := by decide +kernel
theorem dcM_20 : ((ents 20).drop 0).all (dcE 20) = true := sp_go dc_20_0 (sp_end (by decide +kernel))
theorem dc_21_0 : (((ents 21).drop 0).take 50).all (dcE 21) = true := by decide +kernel
theorem dcM_21 : ((ents 21).drop 0).all (dcE 21) = true := sp_go dc_21_0 (sp_end (by decide +kernel))
theorem dc_22_0 : (((ents 22).drop 0).take 17).all (dcE 22) = true := by decide +kernel
theorem dcM_22 : ((ents 22).drop 0).all (dcE 22) = true := sp_go dc_22_0 (sp_end (by decide +kernel))
theorem dc_23_0 : (((ents 23).drop 0).take 40).all (dcE 23) = true := by decide +kernel
theorem dcM_23 : ((ents 23).drop 0).all (dcE 23) = true := sp_go dc_23_0 (sp_end (by decide +kernel))
theorem dc_24_0 : (((ents 24).drop 0).take 67).all (dcE 24) = true := by decide +kernel
theorem dcM_24 : ((ents 24).drop 0).all (dcE 24) = true := sp_go dc_24_0 (sp_end (by decide +kernel))
theorem dc_25_0 : (((ents 25).drop 0).take 16).all (dcE 25) = true := by decide +kernel
theorem dcM_25 : ((ents 25).drop 0).all (dcE 25) = true := sp_go dc_25_0 (sp_end (by decide +kernel))
theorem dc_26_0 : (((ents 26).drop 0).take 16).all (dcE 26) = true := by decide +kernel
theorem dcM_26 : ((ents 26).drop 0).all (dcE 26) = true := sp_go dc_26_0 (sp_end (by decide +kernel))
theorem dc_27_0 : (((ents 27).drop 0).take 31).all (dcE 27) = true := by decide +kernel
theorem dcM_27 : ((ents 27).drop 0).all (dcE 27) = true := sp_go dc_27_0 (sp_end (by decide +kernel))
theorem dc_28_0 : (((ents 28).drop 0).take 41).all (dcE 28) = true := by decide +kernel
theorem dcM_28 : ((ents 28).drop 0).all (dcE 28) = true := sp_go dc_28_0 (sp_end (by decide +kernel))
theorem dc_29_0 : (((ents 29).drop 0).take 12).all (dcE 29) = true := by decide +kernel
theorem dcM_29 : ((ents 29).drop 0).all (dcE 29) = true := sp_go dc_29_0 (sp_end (by decide +kernel))
theorem dc_30_0 : (((ents 30).drop 0).take 23).all (dcE 30) = true := by decide +kernel
theorem dcM_30 : ((ents 30).drop 0).all (dcE 30) = true := sp_go dc_30_0 (sp_end (by decide +kernel))
theorem dc_31_0 : (((ents 31).drop 0).take 10).all (dcE 31) = true := by decide +kernel
theorem dcM_31 : ((ents 31).drop 0).all (dcE 31) = true := sp_go dc_31_0 (sp_end (by decide +kernel))
theorem dc_32_0 : (((ents 32).drop 0).take 64).all (dcE 32) = true := by decide +kernel
theorem dcM_32 : ((ents 32).drop 0).all (dcE 32) = true := sp_go dc_32_0 (sp_end (by decide +kernel))
theorem dc_33_0 : (((ents 33).drop 0).take 37).all (dcE 33) = true := by decide +kernel
theorem dcM_33 : ((ents 33).drop 0).all (dcE 33) = true := sp_go dc_33_0 (sp_end (by decide +kernel))
theorem dc_34_0 : (((ents 34).drop 0).take 41).all (dcE 34) = true := by decide +kernel
theorem dcM_34 : ((ents 34).drop 0).all (dcE 34) = true := sp_go dc_34_0 (sp_end (by decide +kernel))
theorem dc_35_0 : (((ents 35).drop 0).take 50).all (dcE 35) = true := by decide +kernel
theorem dcM_35 : ((ents 35).drop 0).all (dcE 35) = true := sp_go dc_35_0 (sp_end (by decide +kernel))
theorem dc_36_0 : (((ents 36).drop 0).take 49).all (dcE 36) = true := by decide +kernel
theorem dcM_36 : ((ents 36).drop 0).all (dcE 36) = true := sp_go dc_36_0 (sp_end (by decide +kernel))
theorem dc_37_0 : (((ents 37).drop 0).take 60).all (dcE 37) = true := by decide +kernel
theorem dc_37_1 : (((ents 37).drop 60).take 17).all (dcE 37) = true := by decide +kernel
theorem dcM_37 : ((ents 37).drop 0).all (dcE 37) = true := sp_go dc_37_0 (sp_go dc_37_1 (sp_end (by decide +kernel)))
theorem dc_38_0 : (((ents 38).drop 0).take 47).all (dcE 38) = true := by decide +kernel
theorem dcM_38 : ((ents 38).drop 0).all (dcE 38) = true := sp_go dc_38_0 (sp_end (by decide +kernel))
theorem dc_39_0 : (((ents 39).drop 0).take 42).all (dcE 39) = true := by decide +kernel
theorem dcM_39 : ((ents 39).drop 0).all (dcE 39) = true := sp_go dc_39_0 (sp_end (by decide +kernel))
theorem dc_40_0 : (((ents 40).drop 0).take 47).all (dcE 40) = true := by decide +kernel
theorem dc_40_1 : (((ents 40).drop 47).take 46).all (dcE 40) = true := by decide +kernel
theorem dcM_40 : ((ents 40).drop 0).all (dcE 40) = true := sp_go dc_40_0 (sp_go dc_40_1 (sp_end (by decide +kernel)))
theorem dc_41_0 : (((ents 41).drop 0).take 64).all (dcE 41) = true := by decide +kernel
theorem dc_41_1 : (((ents 41).drop 64).take 12).all (dcE 41) = true := by decide +kernel
theorem dcM_41 : ((ents 41).drop 0).all (dcE 41) = true := sp_go dc_41_0 (sp_go dc_41_1 (sp_end (by decide +kernel)))
theorem dc_42_0 : (((ents 42).drop 0).take 64).all (dcE 42) = true := by decide +kernel
theorem dcM_42 : ((ents 42).drop 0).all (dcE 42) = true := sp_go dc_42_0 (sp_end (by decide +kernel))
theorem dc_43_0 : (((ents 43).drop 0).take 51).all (dcE 43) = true := by decide +kernel
theorem dc_43_1 : (((ents 43).drop 51).take 43).all (dcE 43) = true := by decide +kernel
theorem dcM_43 : ((ents 43).drop 0).all (dcE 43) = true := sp_go dc_43_0 (sp_go dc_43_1 (sp_end (by decide +kernel)))
theorem dc_44_0 : (((ents 44).drop 0).take 45).all (dcE 44) = true := by decide +kernel
theorem dcM_44 : ((ents 44).drop 0).all (dcE 44) = true := sp_go dc_44_0 (sp_end (by decide +kernel))
theorem dc_45_0 : (((ents 45).drop 0).take 35).all (dcE 45) = true := by decide +kernel
theorem dcM_45 : ((ents 45).drop 0).all (dcE 45) = true := sp_go dc_45_0 (sp_end (by decide +kernel))
theorem dc_46_0 : (((ents 46).drop 0).take 26).all (dcE 46) = true := by decide +kernel
theorem dcM_46 : ((ents 46).drop 0).all (dcE 46) = true := sp_go dc_46_0 (sp_end (by decide +kernel))
theorem dc_47_0 : (((ents 47).drop 0).take 38).all (dcE 47) = true := by decide +kernel
theorem dcM_47 : ((ents 47).drop 0).all (dcE 47) = true := sp_go dc_47_0 (sp_end (by decide +kernel))
theorem dc_48_0 : (((ents 48).drop 0).take 55).all (dcE 48) = true := by decide +kernel
theorem dc_48_1 : (((ents 48).drop 55).take 37).all (dcE 48) = true := by decide +kernel
theorem dcM_48 : ((ents 48).drop 0).all (dcE 48) = true := sp_go dc_48_0 (sp_go dc_48_1 (sp_end (by decide +kernel)))
theorem dc_49_0 : (((ents 49).drop 0).take 44).all (dcE 49) = true := by decide +kernel
theorem dcM_49 : ((ents 49).drop 0).all (dcE 49) = true := sp_go dc_49_0 (sp_end (by decide +kernel))
theorem dc_50_0 : (((ents 50).drop 0).take 22).all (dcE 50) = true := by decide +kernel
theorem dcM_50 : ((ents 50).drop 0).all (dcE 50) = true := sp_go dc_50_0 (sp_end (by decide +kernel))
theorem dc_51_0 : (((ents 51).drop 0).take 41).all (dcE 51) = true := by decide +kernel
theorem dcM_51 : ((ents 51).drop 0).all (dcE 51) = true := sp_go dc_51_0 (sp_end (by decide +kernel))
theorem dc_52_0 : (((ents 52).drop 0).take 26).all (dcE 52) = true := by decide +kernel
theorem dcM_52 : ((ents 52).drop 0).all (dcE 52) = true := sp_go dc_52_0 (sp_end (by decide +kernel))
theorem dc_53_0 : (((ents 53).drop 0).take 37).all (dcE 53) = true := by decide +kernel
theorem dcM_53 : ((ents 53).drop 0).all (dcE 53) = true := sp_go dc_53_0 (sp_end (by decide +kernel))
theorem dc_54_0 : (((ents 54).drop 0).take 26).all (dcE 54) = true := by decide +kernel
theorem dcM_54 : ((ents 54).drop 0).all (dcE 54) = true := sp_go dc_54_0 (sp_end (by decide +kernel))
theorem dc_55_0 : (((ents 55).drop 0).take 13).all (dcE 55) = true := by decide +kernel
theorem dcM_55 : ((ents 55).drop 0).all (dcE 55) = true := sp_go dc_55_0 (sp_end (by decide +kernel))
theorem dc_56_0 : (((ents 56).drop 0).take 60).all (dcE 56) = true := by decide +kernel
theorem dc_56_1 : (((ents 56).drop 60).take 16).all (dcE 56) = true := by decide +kernel
theorem dcM_56 : ((ents 56).drop 0).all (dcE 56) = true := sp_go dc_56_0 (sp_go dc_56_1 (sp_end (by decide +kernel)))
theorem dc_57_0 : (((ents 57).drop 0).take 9).all (dcE 57) = true := by decide +kernel
theorem dcM_57 : ((ents 57).drop 0).all (dcE 57) = true := sp_go dc_57_0 (sp_end (by decide +kernel))
theorem dc_58_0 : (((ents 58).drop 0).take 19).all (dcE 58) = true := by decide +kernel
theorem dcM_58 : ((ents 58).drop 0).all (dcE 58) = true := sp_go dc_58_0 (sp_end (by decide +kernel))
theorem dc_59_0 : (((ents 59).drop 0).take 22).all (dcE 59) = true := by decide +kernel
theorem dcM_59 : ((ents 59).drop 0).all (dcE 59) = true := sp_go dc_59_0 (sp_end (by decide +kernel))
theorem dc_60_0 : (((ents 60).drop 0).take 64).all (dcE 60) = true := by decide +kernel
theorem dcM_60 : ((ents 60).drop 0).all (dcE 60) = true := sp_go dc_60_0 (sp_end (by decide +kernel))
theorem dc_61_0 : (((ents 61).drop 0).take 29).all (dcE 61) = true := by decide +kernel
theorem dcM_61 : ((ents 61).drop 0).all (dcE 61) = true := sp_go dc_61_0 (sp_end (by decide +kernel))
theorem dc_62_0 : (((ents 62).drop 0).take 43).all (dcE 62) = true := by decide +kernel
theorem dcM_62 : ((ents 62).drop 0).all (dcE 62) = true := sp_go dc_62_0 (sp_end (by decide +kernel))
theorem dc_63_0 : (((ents 63).drop 0).take 45).all (dcE 63) = true := by decide +kernel
theorem dcM_63 : ((ents 63).drop 0).all (dcE 63) = true := sp_go dc_63_0 (sp_end (by decide +kernel))
theorem dc_64_0 : (((ents 64).drop 0).take 68).all (dcE 64) = true := by decide +kernel
theorem dc_64_1 : (((ents 64).drop 68).take 3).all (dcE 64) = true := by decide +kernel
theorem dcM_64 : ((ents 64).drop 0).all (dcE 64) = true := sp_go dc_64_0 (sp_go dc_64_1 (sp_end (by decide +kernel)))
theorem dc_65_0 : (((ents 65).drop 0).take 48).all (dcE 65) = true := by decide +kernel
theorem dc_65_1 : (((ents 65).drop 48).take 48).all (dcE 65) = true := by decide +kernel
theorem dc_65_2 : (((ents 65).drop 96).take 4).all (dcE 65) = true := by decide +kernel
theorem dcM_65 : ((ents 65).drop 0).all (dcE 65) = true := sp_go dc_65_0 (sp_go dc_65_1 (sp_go dc_65_2 (sp_end (by decide +kernel))))
theorem dc_66_0 : (((ents 66).drop 0).take 29).all (dcE 66) = true := by decide +kernel
theorem dcM_66 : ((ents 66).drop 0).all (dcE 66) = true := sp_go dc_66_0 (sp_end (by decide +kernel))
theorem dc_67_0 : (((ents 67).drop 0).take 45).all (dcE 67) = true := by decide +kernel
theorem dcM_67 : ((ents 67).drop 0).all (dcE 67) = true := sp_go dc_67_0 (sp_end (by decide +kernel))
theorem dc_68_0 : (((ents 68).drop 0).take 48).all (dcE 68) = true := by decide +kernel
theorem dcM_68 : ((ents 68).drop 0).all (dcE 68) = true := sp_go dc_68_0 (sp_end (by decide +kernel))
theorem dc_69_0 : (((ents 69).drop 0).take 44).all (dcE 69) = true := by decide +kernel
theorem dc_69_1 : (((ents 69).drop 44).take 44).all (dcE 69) = true := by decide +kernel
theorem dc_69_2 : (((ents 69).drop 88).take 18).all (dcE 69) = true := by decide +kernel
theorem dcM_69 : ((ents 69).drop 0).all (dcE 69) = true := sp_go dc_69_0 (sp_go dc_69_1 (sp_go dc_69_2 (sp_end (by decide +kernel))))
theorem dc_70_0 : (((ents 70).drop 0).take 24).all (dcE 70) = true := by decide +kernel
theorem dcM_70 : ((ents 70).drop 0).all (dcE 70) = true := sp_go dc_70_0 (sp_end (by decide +kernel))
theorem dc_71_0 : (((ents 71).drop 0).take 35).all (dcE 71) = true := by decide +kernel
theorem dcM_71 : ((ents 71).drop 0).all (dcE 71) = true := sp_go dc_71_0 (sp_end (by decide +kernel))
theorem dc_72_0 : (((ents 72).drop 0).take 29).all (dcE 72) = true := by decide +kernel
theorem dcM_72 : ((ents 72).drop 0).all (dcE 72) = true := sp_go dc_72_0 (sp_end (by decide +kernel))
theorem dc_73_0 : (((ents 73).drop 0).take 30).all (dcE 73) = true := by decide +kernel
theorem dcM_73 : ((ents 73).drop 0).all (dcE 73) = true := sp_go dc_73_0 (sp_end (by decide +kernel))
theorem dc_74_0 : (((ents 74).drop 0).take 46).all (dcE 74) = true := by decide +kernel
theorem dcM_74 : ((ents 74).drop 0).all (dcE 74) = true := sp_go dc_74_0 (sp_end (by decide +kernel))
theorem dc_75_0 : (((ents 75).drop 0).take 64).all (dcE 75) = true := by decide +kernel
theorem dcM_75 : ((ents 75).drop 0).all (dcE 75) = true := sp_go dc_75_0 (sp_end (by decide +kernel))
theorem dc_76_0 : (((ents 76).drop 0).take 14).all (dcE 76) = true := by decide +kernel
theorem dcM_76 : ((ents 76).drop 0).all (dcE 76) = true := sp_go dc_76_0 (sp_end (by decide +kernel))
theorem dc_77_0 : (((ents 77).drop 0).take 18).all (dcE 77) = true := by decide +kernel
theorem dcM_77 : ((ents 77).drop 0).all (dcE 77) = true := sp_go dc_77_0 (sp_end (by decide +kernel))
theorem dc_78_0 : (((ents 78).drop 0).take 11).all (dcE 78) = true := by decide +kernel
theorem dcM_78 : ((ents 78).drop 0).all (dcE 78) = true := sp_go dc_78_0 (sp_end (by decide +kernel))
theorem dc_79_0 : (((ents 79).drop 0).take 11).all (dcE 79) = true := by decide +kernel
theorem dcM_79 : ((ents 79).drop 0).all (dcE 79) = true := sp_go dc_79_0 (sp_end (by decide +kernel))
theorem dc_80_0 : (((ents 80).drop 0).take 10).all (dcE 80) = true := by decide +kernel
theorem dcM_80 : ((ents 80).drop 0).all (dcE 80) = true := sp_go dc_80_0 (sp_end (by decide +kernel))
theorem dc_81_0 : (((ents 81).drop 0).take 25).all (dcE 81) = true := by decide +kernel
theorem dcM_81 : ((ents 81).drop 0).all (dcE 81) = true := sp_go dc_81_0 (sp_end (by decide +kernel))
theorem dc_82_0 : (((ents 82).drop 0).take 28).all (dcE 82) = true := by decide +kernel
theorem dcM_82 : ((ents 82).drop 0).all (dcE 82) = true := sp_go dc_82_0 (sp_end (by decide +kernel))
theorem dc_83_0 : (((ents 83).drop 0).take 10).all (dcE 83) = true := by decide +kernel
theorem dcM_83 : ((ents 83).drop 0).all (dcE 83) = true := sp_go dc_83_0 (sp_end (by decide +kernel))
theorem dc_84_0 : (((ents 84).drop 0).take 22).all (dcE 84) = true := by decide +kernel
theorem dcM_84 : ((ents 84).drop 0).all (dcE 84) = true := sp_go dc_84_0 (sp_end (by decide +kernel))
theorem dc_85_0 : (((ents 85).drop 0).take 21).all (dcE 85) = true := by decide +kernel
theorem dcM_85 : ((ents 85).drop 0).all (dcE 85) = true := sp_go dc_85_0 (sp_end (by decide +kernel))
theorem dc_86_0 : (((ents 86).drop 0).take 14).all (dcE 86) = true := by decide +kernel
theorem dcM_86 : ((ents 86).drop 0).all (dcE 86) = true := sp_go dc_86_0 (sp_end (by decide +kernel))
theorem dc_87_0 : (((ents 87).drop 0).take 16).all (dcE 87) = true := by decide +kernel
theorem dcM_87 : ((ents 87).drop 0).all (dcE 87) = true := sp_go dc_87_0 (sp_end (by decide +kernel))
theorem dc_88_0 : (((ents 88).drop 0).take 33).all (dcE 88) = true := by decide +kernel
theorem dcM_88 : ((ents 88).drop 0).all (dcE 88) = true := sp_go dc_88_0 (sp_end (by decide +kernel))
theorem dc_89_0 : (((ents 89).drop 0).take 15).all (dcE 89) = true := by decide +kernel
theorem dcM_89 : ((ents 89).drop 0).all (dcE 89) = true := sp_go dc_89_0 (sp_end (by decide +kernel))
theorem dc_90_0 : (((ents 90).drop 0).take 44).all (dcE 90) = true := by decide +kernel
theorem dcM_90 : ((ents 90).drop 0).all (dcE 90) = true := sp_go dc_90_0 (sp_end (by decide +kernel))
theorem dc_91_0 : (((ents 91).drop 0).take 16).all (dcE 91) = true := by decide +kernel
theorem dcM_91 : ((ents 91).drop 0).all (dcE 91) = true := sp_go dc_91_0 (sp_end (by decide +kernel))
theorem dc_92_0 : (((ents 92).drop 0).take 33).all (dcE 92) = true := by decide +kernel
theorem dcM_92 : ((ents 92).drop 0).all (dcE 92) = true := sp_go dc_92_0 (sp_end (by decide +kernel))
theorem dc_93_0 : (((ents 93).drop 0).take 53).all (dcE 93) = true := by decide +kernel
theorem dc_93_1 : (((ents 93).drop 53).take 30).all (dcE 93) = true := by decide +kernel
theorem dcM_93 : ((ents 93).drop 0).all (dcE 93) = true := sp_go dc_93_0 (sp_go dc_93_1 (sp_end (by decide +kernel)))
theorem dc_94_0 : (((ents 94).drop 0).take 63).all (dcE 94) = true := by decide +kernel
theorem dcM_94 : ((ents 94).drop 0).all (dcE 94) = true := sp_go dc_94_0 (sp_end (by decide +kernel))
theorem dc_95_0 : (((ents 95).drop 0).take 25).all (dcE 95) = true := by decide +kernel
theorem dcM_95 : ((ents 95).drop 0).all (dcE 95) = true := sp_go dc_95_0 (sp_end (by decide +kernel))
theorem dc_96_0 : (((ents 96).drop 0).take 34).all (dcE 96) = true := by decide +kernel
theorem dcM_96 : ((ents 96).drop 0).all (dcE 96) = true := sp_go dc_96_0 (sp_end (by decide +kernel))
theorem dc_97_0 : (((ents 97).drop 0).take 25).all (dcE 97) = true := by decide +kernel
theorem dcM_97 : ((ents 97).drop 0).all (dcE 97) = true := sp_go dc_97_0 (sp_end (by decide +kernel))
theorem dc_98_0 : (((ents 98).drop 0).take 11).all (dcE 98) = true := by decide +kernel
theorem dcM_98 : ((ents 98).drop 0).all (dcE 98) = true := sp_go dc_98_0 (sp_end (by decide +kernel))
theorem dc_99_0 : (((ents 99).drop 0).take 56).all (dcE 99) = true := by decide +kernel
theorem dc_99_1 : (((ents 99).drop 56).take 9).all (dcE 99) = true := by decide +kernel
theorem dcM_99 : ((ents 99).drop 0).all (dcE 99) = true := sp_go dc_99_0 (sp_go dc_99_1 (sp_end (by decide +kernel)))
theorem dc_100_0 : (((ents 100).drop 0).take 37).all (dcE 100) = true := by decide +kernel
theorem dcM_100 : ((ents 100).drop 0).all (dcE 100) = true := sp_go dc_100_0 (sp_end (by decide +kernel))
theorem dc_101_0 : (((ents 101).drop 0).take 31).all (dcE 101) = true := by decide +kernel
theorem dcM_101 : ((ents 101).drop 0).all (dcE 101) = true := sp_go dc_101_0 (sp_end (by decide +kernel))
theorem dc_102_0 : (((ents 102).drop 0).take 29).all (dcE 102) = true := by decide +kernel
theorem dcM_102 : ((ents 102).drop 0).all (dcE 102) = true := sp_go dc_102_0 (sp_end (by decide +kernel))
theorem dc_103_0 : (((ents 103).drop 0).take 21).all (dcE 103) = true := by decide +kernel
theorem dcM_103 : ((ents 103).drop 0).all (dcE 103) = true := sp_go dc_103_0 (sp_end (by decide +kernel))
theorem dc_104_0 : (((ents 104).drop 0).take 17).all (dcE 104) = true := by decide +kernel
theorem dcM_104 : ((ents 104).drop 0).all (dcE 104) = true := sp_go dc_104_0 (sp_end (by decide +kernel))
theorem dc_105_0 : (((ents 105).drop 0).take 17).all (dcE 105) = true := by decide +kernel
theorem dcM_105 : ((ents 105).drop 0).all (dcE 105) = true := sp_go dc_105_0 (sp_end (by decide +kernel))
theorem dc_106_0 : (((ents 106).drop 0).take 60).all (dcE 106) = true := by decide +kernel
theorem dcM_106 : ((ents 106).drop 0).all (dcE 106) = true := sp_go dc_106_0 (sp_end (by decide +kernel))
theorem dc_107_0 : (((ents 107).drop 0).take 25).all (dcE 107) = true := by decide +kernel
theorem dcM_107 : ((ents 107).drop 0).all (dcE 107) = true := sp_go dc_107_0 (sp_end (by decide +kernel))
theorem dc_108_0 : (((ents 108).drop 0).take 19).all (dcE 108) = true := by decide +kernel
theorem dcM_108 : ((ents 108).drop 0).all (dcE 108) = true := sp_go dc_108_0 (sp_end (by decide +kernel))
theorem dc_109_0 : (((ents 109).drop 0).take 17).all (dcE 109) = true := by decide +kernel
theorem dcM_109 : ((ents 109).drop 0).all (dcE 109) = true := sp_go dc_109_0 (sp_end (by decide +kernel))
theorem dc_110_0 : (((ents 110).drop 0).take 17).all (dcE 110) = true := by decide +kernel
theorem dcM_110 : ((ents 110).drop 0).all (dcE 110) = true := sp_go dc_110_0 (sp_end (by decide +kernel))
theorem dc_111_0 : (((ents 111).drop 0).take 25).all (dcE 111) = true := by decide +kernel
theorem dcM_111 : ((ents 111).drop 0).all (dcE 111) = true := sp_go dc_111_0 (sp_end (by decide +kernel))
theorem dc_112_0 : (((ents 112).drop 0).take 26).all (dcE 112) = true := by decide +kernel
theorem dcM_112 : ((ents 112).drop 0).all (dcE 112) = true := sp_go dc_112_0 (sp_end (by decide +kernel))
theorem dc_113_0 : (((ents 113).drop 0).take 20).all (dcE 113) = true := by decide +kernel
theorem dcM_113 : ((ents 113).drop 0).all (dcE 113) = true := sp_go dc_113_0 (sp_end (by decide +kernel))
theorem dc_114_0 : (((ents 114).drop 0).take 40).all (dcE 114) = true := by decide +kernel
theorem dcM_114 : ((ents 114).drop 0).all (dcE 114) = true := sp_go dc_114_0 (sp_end (by decide +kernel))
theorem dc_115_0 : (((ents 115).drop 0).take 23).all (dcE 115) = true := by decide +kernel
theorem dcM_115 : ((ents 115).drop 0).all (dcE 115) = true := sp_go dc_115_0 (sp_end (by decide +kernel))
theorem dc_116_0 : (((ents 116).drop 0).take 27).all (dcE 116) = true := by decide +kernel
theorem dcM_116 : ((ents 116).drop 0).all (dcE 116) = true := sp_go dc_116_0 (sp_end (by decide +kernel))
theorem dc_117_0 : (((ents 117).drop 0).take 26).all (dcE 117) = true := by decide +kernel
theorem dcM_117 : ((ents 117).drop 0).all (dcE 117) = true := sp_go dc_117_0 (sp_end (by decide +kernel))
theorem dc_118_0 : (((ents 118).drop 0).take 23).all (dcE 118) = true := by decide +kernel
theorem dcM_118 : ((ents 118).drop 0).all (dcE 118) = true := sp_go dc_118_0 (sp_end (by decide +kernel))
theorem dc_119_0 : (((ents 119).drop 0).take 32).all (dcE 119) = true := by decide +kernel
theorem dcM_119 : ((ents 119).drop 0).all (dcE 119) = true := sp_go dc_119_0 (sp_end (by decide +kernel))
theorem dc_120_0 : (((ents 120).drop 0).take 31).all (dcE 120) = true := by decide +kernel
theorem dcM_120 : ((ents 120).drop 0).all (dcE 120) = true := sp_go dc_120_0 (sp_end (by decide +kernel))
theorem dc_121_0 : (((ents 121).drop 0).take 61).all (dcE 121) = true := by decide +kernel
theorem dcM_121 : ((ents 121).drop 0).all (dcE 121) = true := sp_go dc_121_0 (sp_end (by decide +kernel))
theorem dc_122_0 : (((ents 122).drop 0).take 43).all (dcE 122) = true := by decide +kernel
theorem dcM_122 : ((ents 122).drop 0).all (dcE 122) = true := sp_go dc_122_0 (sp_end (by decide +kernel))
theorem dc_123_0 : (((ents 123).drop 0).take 28).all (dcE 123) = true := by decide +kernel
theorem dcM_123 : ((ents 123).drop 0).all (dcE 123) = true := sp_go dc_123_0 (sp_end (by decide +kernel))
theorem dc_124_0 : (((ents 124).drop 0).take 56).all (dcE 124) = true := by decide +kernel
theorem dc_124_1 : (((ents 124).drop 56).take 40).all (dcE 124) = true := by decide +kernel
theorem dcM_124 : ((ents 124).drop 0).all (dcE 124) = true := sp_go dc_124_0 (sp_go dc_124_1 (sp_end (by decide +kernel)))
theorem dc_125_0 : (((ents 125).drop 0).take 9).all (dcE 125) = true := by decide +kernel
theorem dcM_125 : ((ents 125).drop 0).all (dcE 125) = true := sp_go dc_125_0 (sp_end (by decide +kernel))
theorem dc_126_0 : (((ents 126).drop 0).take 9).all (dcE 126) = true := by decide +kernel
theorem dcM_126 : ((ents 126).drop 0).all (dcE 126) = true := sp_go dc_126_0 (sp_end (by decide +kernel))
theorem dc_127_0 : (((ents 127).drop 0).take 9).all (dcE 127) = true := by decide +kernel
theorem dcM_127 : ((ents 127).drop 0).all (dcE 127) = true := sp_go dc_127_0 (sp_end (by decide +kernel))
theorem dc_128_0 : (((ents 128).drop 0).take 9).all (dcE 128) = true := by decide +kernel
theorem dcM_128 : ((ents 128).drop 0).all (dcE 128) = true := sp_go dc_128_0 (sp_end (by decide +kernel))
theorem dc_129_0 : (((ents 129).drop 0).take 7).all (dcE 129) = true := by decide +kernel
theorem dcM_129 : ((ents 129).drop 0).all (dcE 129) = true := sp_go dc_129_0 (sp_end (by decide +kernel))
theorem dc_130_0 : (((ents 130).drop 0).take 12).all (dcE 130) = true := by decide +kernel
theorem dcM_130 : ((ents 130).drop 0).all (dcE 130) = true := sp_go dc_130_0 (sp_end (by decide +kernel))
theorem dc_131_0 : (((ents 131).drop 0).take 11).all (dcE 131) = true := by decide +kernel
theorem dcM_131 : ((ents 131).drop 0).all (dcE 131) = true := sp_go dc_131_0 (sp_end (by decide +kernel))
theorem dc_132_0 : (((ents 132).drop 0).take 7).all (dcE 132) = true := by decide +kernel
theorem dcM_132 : ((ents 132).drop 0).all (dcE 132) = true := sp_go dc_132_0 (sp_end (by decide +kernel))
theorem dc_133_0 : (((ents 133).drop 0).take 19).all (dcE 133) = true := by decide +kernel
theorem dcM_133 : ((ents 133).drop 0).all (dcE 133) = true := sp_go dc_133_0 (sp_end (by decide +kernel))
theorem dc_134_0 : (((ents 134).drop 0).take 40).all (dcE 134) = true := by decide +kernel
theorem dcM_134 : ((ents 134).drop 0).all (dcE 134) = true := sp_go dc_134_0 (sp_end (by decide +kernel))
theorem dc_135_0 : (((ents 135).drop 0).take 16).all (dcE 135) = true := by decide +kernel
theorem dcM_135 : ((ents 135).drop 0).all (dcE 135) = true := sp_go dc_135_0 (sp_end (by decide +kernel))
theorem dc_136_0 : (((ents 136).drop 0).take 24).all (dcE 136) = true := by decide +kernel
theorem dc_136_1 : (((ents 136).drop 24).take 24).all (dcE 136) = true := by decide +kernel
theorem dc_136_2 : (((ents 136).drop 48).take 24).all (dcE 136) = true := by decide +kernel
theorem dc_136_3 : (((ents 136).drop 72).take 24).all (dcE 136) = true := by decide +kernel
theorem dc_136_4 : (((ents 136).drop 96).take 24).all (dcE 136) = true := by decide +kernel
theorem dc_136_5 : (((ents 136).drop 120).take 24).all (dcE 136) = true := by decide +kernel
theorem dc_136_6 : (((ents 136).drop 144).take 24).all (dcE 136) = true := by decide +kernel
theorem dc_136_7 : (((ents 136).drop 168).take 16).all (dcE 136) = true := by decide +kernel
theorem dcM_136 : ((ents 136).drop 0).all (dcE 136) = true := sp_go dc_136_0 (sp_go dc_136_1 (sp_go dc_136_2 (sp_go dc_136_3 (sp_go dc_136_4 (sp_go dc_136_5 (sp_go dc_136_6 (sp_go dc_136_7 (sp_end (by decide +kernel)))))))))
theorem dc_137_0 : (((ents 137).drop 0).take 10).all (dcE 137) = true := by decide +kernel
theorem dcM_137 : ((ents 137).drop 0).all (dcE 137) = true := sp_go dc_137_0 (sp_end (by decide +kernel))
theorem dc_138_0 : (((ents 138).drop 0).take 19).all (dcE 138) = true := by decide +kernel
theorem dcM_138 : ((ents 138).drop 0).all (dcE 138) = true := sp_go dc_138_0 (sp_end (by decide +kernel))
theorem dc_139_0 : (((ents 139).drop 0).take 62).all (dcE 139) = true := by decide +kernel
theorem dcM_139 : ((ents 139).drop 0).all (dcE 139) = true := sp_go dc_139_0 (sp_end (by decide +kernel))
theorem dc_140_0 : (((ents 140).drop 0).take 35).all (dcE 140) = true := by decide +kernel
theorem dcM_140 : ((ents 140).drop 0).all (dcE 140) = true := sp_go dc_140_0 (sp_end (by decide +kernel))
theorem dc_141_0 : (((ents 141).drop 0).take 7).all (dcE 141) = true := by decide +kernel
theorem dcM_141 : ((ents 141).drop 0).all (dcE 141) = true := sp_go dc_141_0 (sp_end (by decide +kernel))
theorem dc_142_0 : (((ents 142).drop 0).take 5).all (dcE 142) = true := by decide +kernel
theorem dcM_142 : ((ents 142).drop 0).all (dcE 142) = true := sp_go dc_142_0 (sp_end (by decide +kernel))
theorem dc_143_0 : (((ents 143).drop 0).take 45).all (dcE 143) = true := by decide +kernel
theorem dcM_143 : ((ents 143).drop 0).all (dcE 143) = true := sp_go dc_143_0 (sp_end (by decide +kernel))
theorem dc_144_0 : (((ents 144).drop 0).take 19).all (dcE 144) = true := by decide +kernel
theorem dcM_144 : ((ents 144).drop 0).all (dcE 144) = true := sp_go dc_144_0 (sp_end (by decide +kernel))
theorem dc_145_0 : (((ents 145).drop 0).take 21).all (dcE 145) = true := by decide +kernel
theorem dcM_145 : ((ents 145).drop 0).all (dcE 145) = true := sp_go dc_145_0 (sp_end (by decide +kernel))
theorem dc_146_0 : (((ents 146).drop 0).take 19).all (dcE 146) = true := by decide +kernel
theorem dcM_146 : ((ents 146).drop 0).all (dcE 146) = true := sp_go dc_146_0 (sp_end (by decide +kernel))
theorem dc_147_0 : (((ents 147).drop 0).take 57).all (dcE 147) = true := by decide +kernel
theorem dcM_147 : ((ents 147).drop 0).all (dcE 147) = true := sp_go dc_147_0 (sp_end (by decide +kernel))
theorem dc_148_0 : (((ents 148).drop 0).take 38).all (dcE 148) = true := by decide +kernel
theorem dc_148_1 : (((ents 148).drop 38).take 38).all (dcE 148) = true := by decide +kernel
theorem dc_148_2 : (((ents 148).drop 76).take 38).all (dcE 148) = true := by decide +kernel
theorem dc_148_3 : (((ents 148).drop 114).take 24).all (dcE 148) = true := by decide +kernel
theorem dcM_148 : ((ents 148).drop 0).all (dcE 148) = true := sp_go dc_148_0 (sp_go dc_148_1 (sp_go dc_148_2 (sp_go dc_148_3 (sp_end (by decide +kernel)))))
theorem dc_149_0 : (((ents 149).drop 0).take 35).all (dcE 149) = true := by decide +kernel
theorem dc_149_1 : (((ents 149).drop 35).take 35).all (dcE 149) = true := by decide +kernel
theorem dc_149_2 : (((ents 149).drop 70).take 35).all (dcE 149) = true := by decide +kernel
theorem dc_149_3 : (((ents 149).drop 105).take 35).all (dcE 149) = true := by decide +kernel
theorem dc_149_4 : (((ents 149).drop 140).take 7).all (dcE 149) = true := by decide +kernel
theorem dcM_149 : ((ents 149).drop 0).all (dcE 149) = true := sp_go dc_149_0 (sp_go dc_149_1 (sp_go dc_149_2 (sp_go dc_149_3 (sp_go dc_149_4 (sp_end (by decide +kernel))))))
theorem dc_150_0 : (((ents 150).drop 0).take 18).all (dcE 150) = true := by decide +kernel
theorem dcM_150 : ((ents 150).drop 0).all (dcE 150) = true := sp_go dc_150_0 (sp_end (by decide +kernel))
theorem dc_151_0 : (((ents 151).drop 0).take 36).all (dcE 151) = true := by decide +kernel
theorem dcM_151 : ((ents 151).drop 0).all (dcE 151) = true := sp_go dc_151_0 (sp_end (by decide +kernel))
theorem dc_152_0 : (((ents 152).drop 0).take 7).all (dcE 152) = true := by decide +kernel
theorem dcM_152 : ((ents 152).drop 0).all (dcE 152) = true := sp_go dc_152_0 (sp_end (by decide +kernel))
theorem dc_153_0 : (((ents 153).drop 0).take 9).all (dcE 153) = true := by decide +kernel
theorem dcM_153 : ((ents 153).drop 0).all (dcE 153) = true := sp_go dc_153_0 (sp_end (by decide +kernel))
theorem dc_154_0 : (((ents 154).drop 0).take 34).all (dcE 154) = true := by decide +kernel
theorem dcM_154 : ((ents 154).drop 0).all (dcE 154) = true := sp_go dc_154_0 (sp_end (by decide +kernel))
theorem dc_155_0 : (((ents 155).drop 0).take 58).all (dcE 155) = true := by decide +kernel
theorem dc_155_1 : (((ents 155).drop 58).take 16).all (dcE 155) = true := by decide +kernel
theorem dcM_155 : ((ents 155).drop 0).all (dcE 155) = true := sp_go dc_155_0 (sp_go dc_155_1 (sp_end (by decide +kernel)))
theorem dc_156_0 : (((ents 156).drop 0).take 57).all (dcE 156) = true := by decide +kernel
theorem dcM_156 : ((ents 156).drop 0).all (dcE 156) = true := sp_go dc_156_0 (sp_end (by decide +kernel))
theorem dc_157_0 : (((ents 157).drop 0).take 50).all (dcE 157) = true := by decide +kernel
theorem dcM_157 : ((ents 157).drop 0).all (dcE 157) = true := sp_go dc_157_0 (sp_end (by decide +kernel))
theorem dc_158_0 : (((ents 158).drop 0).take 51).all (dcE 158) = true := by decide +kernel
theorem dc_158_1 : (((ents 158).drop 51).take 43).all (dcE 158) = true := by decide +kernel
theorem dcM_158 : ((ents 158).drop 0).all (dcE 158) = true := sp_go dc_158_0 (sp_go dc_158_1 (sp_end (by decide +kernel)))
theorem dc_159_0 : (((ents 159).drop 0).take 36).all (dcE 159) = true := by decide +kernel
theorem dcM_159 : ((ents 159).drop 0).all (dcE 159) = true := sp_go dc_159_0 (sp_end (by decide +kernel))
theorem dc_160_0 : (((ents 160).drop 0).take 39).all (dcE 160) = true := by decide +kernel
theorem dcM_160 : ((ents 160).drop 0).all (dcE 160) = true := sp_go dc_160_0 (sp_end (by decide +kernel))
theorem dc_161_0 : (((ents 161).drop 0).take 46).all (dcE 161) = true := by decide +kernel
theorem dc_161_1 : (((ents 161).drop 46).take 46).all (dcE 161) = true := by decide +kernel
theorem dc_161_2 : (((ents 161).drop 92).take 33).all (dcE 161) = true := by decide +kernel
theorem dcM_161 : ((ents 161).drop 0).all (dcE 161) = true := sp_go dc_161_0 (sp_go dc_161_1 (sp_go dc_161_2 (sp_end (by decide +kernel))))
theorem dc_162_0 : (((ents 162).drop 0).take 22).all (dcE 162) = true := by decide +kernel
theorem dcM_162 : ((ents 162).drop 0).all (dcE 162) = true := sp_go dc_162_0 (sp_end (by decide +kernel))
theorem dc_163_0 : (((ents 163).drop 0).take 68).all (dcE 163) = true := by decide +kernel
theorem dcM_163 : ((ents 163).drop 0).all (dcE 163) = true := sp_go dc_163_0 (sp_end (by decide +kernel))
theorem dc_164_0 : (((ents 164).drop 0).take 48).all (dcE 164) = true := by decide +kernel
theorem dcM_164 : ((ents 164).drop 0).all (dcE 164) = true := sp_go dc_164_0 (sp_end (by decide +kernel))
theorem dc_165_0 : (((ents 165).drop 0).take 12).all (dcE 165) = true := by decide +kernel
theorem dcM_165 : ((ents 165).drop 0).all (dcE 165) = true := sp_go dc_165_0 (sp_end (by decide +kernel))
theorem dc_166_0 : (((ents 166).drop 0).take 29).all (dcE 166) = true := by decide +kernel
theorem dcM_166 : ((ents 166).drop 0).all (dcE 166) = true := sp_go dc_166_0 (sp_end (by decide +kernel))
theorem dc_167_0 : (((ents 167).drop 0).take 59).all (dcE 167) = true := by decide +kernel
theorem dcM_167 : ((ents 167).drop 0).all (dcE 167) = true := sp_go dc_167_0 (sp_end (by decide +kernel))
theorem dc_168_0 : (((ents 168).drop 0).take 25).all (dcE 168) = true := by decide +kernel
theorem dcM_168 : ((ents 168).drop 0).all (dcE 168) = true := sp_go dc_168_0 (sp_end (by decide +kernel))
theorem dc_169_0 : (((ents 169).drop 0).take 58).all (dcE 169) = true := by decide +kernel
theorem dc_169_1 : (((ents 169).drop 58).take 42).all (dcE 169) = true := by decide +kernel
theorem dcM_169 : ((ents 169).drop 0).all (dcE 169) = true := sp_go dc_169_0 (sp_go dc_169_1 (sp_end (by decide +kernel)))
theorem dc_170_0 : (((ents 170).drop 0).take 38).all (dcE 170) = true := by decide +kernel
theorem dcM_170 : ((ents 170).drop 0).all (dcE 170) = true := sp_go dc_170_0 (sp_end (by decide +kernel))
theorem dc_171_0 : (((ents 171).drop 0).take 64).all (dcE 171) = true := by decide +kernel
theorem dc_171_1 : (((ents 171).drop 64).take 17).all (dcE 171) = true := by decide +kernel
theorem dcM_171 : ((ents 171).drop 0).all (dcE 171) = true := sp_go dc_171_0 (sp_go dc_171_1 (sp_end (by decide +kernel)))
theorem dc_172_0 : (((ents 172).drop 0).take 28).all (dcE 172) = true := by decide +kernel
theorem dcM_172 : ((ents 172).drop 0).all (dcE 172) = true := sp_go dc_172_0 (sp_end (by decide +kernel))
theorem dc_173_0 : (((ents 173).drop 0).take 65).all (dcE 173) = true := by decide +kernel
theorem dcM_173 : ((ents 173).drop 0).all (dcE 173) = true := sp_go dc_173_0 (sp_end (by decide +kernel))
theorem dc_174_0 : (((ents 174).drop 0).take 47).all (dcE 174) = true := by decide +kernel
theorem dcM_174 : ((ents 174).drop 0).all (dcE 174) = true := sp_go dc_174_0 (sp_end (by decide +kernel))
theorem dc_175_0 : (((ents 175).drop 0).take 54).all (dcE 175) = true := by decide +kernel
theorem dcM_175 : ((ents 175).drop 0).all (dcE 175) = true := sp_go dc_175_0 (sp_end (by decide +kernel))
theorem dc_176_0 : (((ents 176).drop 0).take 22).all (dcE 176) = true := by decide +kernel
theorem dcM_176 : ((ents 176).drop 0).all (dcE 176) = true := sp_go dc_176_0 (sp_end (by decide +kernel))
theorem dc_177_0 : (((ents 177).drop 0).take 48).all (dcE 177) = true := by decide +kernel
theorem dc_177_1 : (((ents 177).drop 48).take 48).all (dcE 177) = true := by decide +kernel
theorem dc_177_2 : (((ents 177).drop 96).take 26).all (dcE 177) = true := by decide +kernel
theorem dcM_177 : ((ents 177).drop 0).all (dcE 177) = true := sp_go dc_177_0 (sp_go dc_177_1 (sp_go dc_177_2 (sp_end (by decide +kernel))))
theorem dc_178_0 : (((ents 178).drop 0).take 63).all (dcE 178) = true := by decide +kernel
theorem dc_178_1 : (((ents 178).drop 63).take 14).all (dcE 178) = true := by decide +kernel
theorem dcM_178 : ((ents 178).drop 0).all (dcE 178) = true := sp_go dc_178_0 (sp_go dc_178_1 (sp_end (by decide +kernel)))
theorem dc_179_0 : (((ents 179).drop 0).take 57).all (dcE 179) = true := by decide +kernel
theorem dcM_179 : ((ents 179).drop 0).all (dcE 179) = true := sp_go dc_179_0 (sp_end (by decide +kernel))
theorem dc_180_0 : (((ents 180).drop 0).take 17).all (dcE 180) = true := by decide +kernel
theorem dcM_180 : ((ents 180).drop 0).all (dcE 180) = true := sp_go dc_180_0 (sp_end (by decide +kernel))
theorem dc_181_0 : (((ents 181).drop 0).take 13).all (dcE 181) = true := by decide +kernel
theorem dcM_181 : ((ents 181).drop 0).all (dcE 181) = true := sp_go dc_181_0 (sp_end (by decide +kernel))
theorem dc_182_0 : (((ents 182).drop 0).take 29).all (dcE 182) = true := by decide +kernel
theorem dcM_182 : ((ents 182).drop 0).all (dcE 182) = true := sp_go dc_182_0 (sp_end (by decide +kernel))
theorem dc_183_0 : (((ents 183).drop 0).take 24).all (dcE 183) = true := by decide +kernel
theorem dcM_183 : ((ents 183).drop 0).all (dcE 183) = true := sp_go dc_183_0 (sp_end (by decide +kernel))
theorem dc_184_0 : (((ents 184).drop 0).take 26).all (dcE 184) = true := by decide +kernel
theorem dcM_184 : ((ents 184).drop 0).all (dcE 184) = true := sp_go dc_184_0 (sp_end (by decide +kernel))
theorem dc_185_0 : (((ents 185).drop 0).take 30).all (dcE 185) = true := by decide +kernel
theorem dcM_185 : ((ents 185).drop 0).all (dcE 185) = true := sp_go dc_185_0 (sp_end (by decide +kernel))
theorem dc_186_0 : (((ents 186).drop 0).take 51).all (dcE 186) = true := by decide +kernel
theorem dcM_186 : ((ents 186).drop 0).all (dcE 186) = true := sp_go dc_186_0 (sp_end (by decide +kernel))
theorem dc_187_0 : (((ents 187).drop 0).take 28).all (dcE 187) = true := by decide +kernel
theorem dcM_187 : ((ents 187).drop 0).all (dcE 187) = true := sp_go dc_187_0 (sp_end (by decide +kernel))
theorem dc_188_0 : (((ents 188).drop 0).take 64).all (dcE 188) = true := by decide +kernel
theorem dcM_188 : ((ents 188).drop 0).all (dcE 188) = true := sp_go dc_188_0 (sp_end (by decide +kernel))
theorem dc_189_0 : (((ents 189).drop 0).take 33).all (dcE 189) = true := by decide +kernel
theorem dcM_189 : ((ents 189).drop 0).all (dcE 189) = true := sp_go dc_189_0 (sp_end (by decide +kernel))
theorem dc_190_0 : (((ents 190).drop 0).take 17).all (dcE 190) = true := by decide +kernel
theorem dcM_190 : ((ents 190).drop 0).all (dcE 190) = true := sp_go dc_190_0 (sp_end (by decide +kernel))
theorem dc_191_0 : (((ents 191).drop 0).take 5).all (dcE 191) = true := by decide +kernel
theorem dcM_191 : ((ents 191).drop 0).all (dcE 191) = true := sp_go dc_191_0 (sp_end (by decide +kernel))
theorem dc_192_0 : (((ents 192).drop 0).take 17).all (dcE 192) = true := by decide +kernel
theorem dcM_192 : ((ents 192).drop 0).all (dcE 192) = true := sp_go dc_192_0 (sp_end (by decide +kernel))
theorem dc_193_0 : (((ents 193).drop 0).take 25).all (dcE 193) = true := by decide +kernel
theorem dcM_193 : ((ents 193).drop 0).all (dcE 193) = true := sp_go dc_193_0 (sp_end (by decide +kernel))
theorem dc_194_0 : (((ents 194).drop 0).take 34).all (dcE 194) = true := by decide +kernel
theorem dcM_194 : ((ents 194).drop 0).all (dcE 194) = true := sp_go dc_194_0 (sp_end (by decide +kernel))
theorem dc_195_0 : (((ents 195).drop 0).take 59).all (dcE 195) = true := by decide +kernel
theorem dcM_195 : ((ents 195).drop 0).all (dcE 195) = true := sp_go dc_195_0 (sp_end (by decide +kernel))
theorem dc_196_0 : (((ents 196).drop 0).take 31).all (dcE 196) = true := by decide +kernel
theorem dc_196_1 : (((ents 196).drop 31).take 31).all (dcE 196) = true := by decide +kernel
theorem dc_196_2 : (((ents 196).drop 62).take 31).all (dcE 196) = true := by decide +kernel
theorem dc_196_3 : (((ents 196).drop 93).take 31).all (dcE 196) = true := by decide +kernel
theorem dc_196_4 : (((ents 196).drop 124).take 28).all (dcE 196) = true := by decide +kernel
theorem dcM_196 : ((ents 196).drop 0).all (dcE 196) = true := sp_go dc_196_0 (sp_go dc_196_1 (sp_go dc_196_2 (sp_go dc_196_3 (sp_go dc_196_4 (sp_end (by decide +kernel))))))
theorem dc_197_0 : (((ents 197).drop 0).take 23).all (dcE 197) = true := by decide +kernel
theorem dcM_197 : ((ents 197).drop 0).all (dcE 197) = true := sp_go dc_197_0 (sp_end (by decide +kernel))
theorem dc_198_0 : (((ents 198).drop 0).take 63).all (dcE 198) = true := by decide +kernel
theorem dc_198_1 : (((ents 198).drop 63).take 14).all (dcE 198) = true := by decide +kernel
theorem dcM_198 : ((ents 198).drop 0).all (dcE 198) = true := sp_go dc_198_0 (sp_go dc_198_1 (sp_end (by decide +kernel)))
theorem dc_199_0 : (((ents 199).drop 0).take 15).all (dcE 199) = true := by decide +kernel
theorem dcM_199 : ((ents 199).drop 0).all (dcE 199) = true := sp_go dc_199_0 (sp_end (by decide +kernel))
theorem dc_200_0 : (((ents 200).drop 0).take 15).all (dcE 200) = true := by decide +kernel
theorem dcM_200 : ((ents 200).drop 0).all (dcE 200) = true := sp_go dc_200_0 (sp_end (by decide +kernel))
theorem dc_201_0 : (((ents 201).drop 0).take 8).all (dcE 201) = true := by decide +kernel
theorem dcM_201 : ((ents 201).drop 0).all (dcE 201) = true := sp_go dc_201_0 (sp_end (by decide +kernel))
theorem dc_202_0 : (((ents 202).drop 0).take 60).all (dcE 202) = true := by decide +kernel
theorem dc_202_1 : (((ents 202).drop 60).take 30).all (dcE 202) = true := by decide +kernel
theorem dcM_202 : ((ents 202).drop 0).all (dcE 202) = true := sp_go dc_202_0 (sp_go dc_202_1 (sp_end (by decide +kernel)))
theorem dc_203_0 : (((ents 203).drop 0).take 57).all (dcE 203) = true := by decide +kernel
theorem dcM_203 : ((ents 203).drop 0).all (dcE 203) = true := sp_go dc_203_0 (sp_end (by decide +kernel))
theorem dc_204_0 : (((ents 204).drop 0).take 30).all (dcE 204) = true := by decide +kernel
theorem dcM_204 : ((ents 204).drop 0).all (dcE 204) = true := sp_go dc_204_0 (sp_end (by decide +kernel))
theorem dc_205_0 : (((ents 205).drop 0).take 68).all (dcE 205) = true := by decide +kernel
theorem dcM_205 : ((ents 205).drop 0).all (dcE 205) = true := sp_go dc_205_0 (sp_end (by decide +kernel))
theorem dc_206_0 : (((ents 206).drop 0).take 27).all (dcE 206) = true := by decide +kernel
theorem dcM_206 : ((ents 206).drop 0).all (dcE 206) = true := sp_go dc_206_0 (sp_end (by decide +kernel))
theorem dc_207_0 : (((ents 207).drop 0).take 54).all (dcE 207) = true := by decide +kernel
theorem dc_207_1 : (((ents 207).drop 54).take 41).all (dcE 207) = true := by decide +kernel
theorem dcM_207 : ((ents 207).drop 0).all (dcE 207) = true := sp_go dc_207_0 (sp_go dc_207_1 (sp_end (by decide +kernel)))
theorem dc_208_0 : (((ents 208).drop 0).take 39).all (dcE 208) = true := by decide +kernel
theorem dc_208_1 : (((ents 208).drop 39).take 39).all (dcE 208) = true := by decide +kernel
theorem dc_208_2 : (((ents 208).drop 78).take 39).all (dcE 208) = true := by decide +kernel
theorem dc_208_3 : (((ents 208).drop 117).take 4).all (dcE 208) = true := by decide +kernel
theorem dcM_208 : ((ents 208).drop 0).all (dcE 208) = true := sp_go dc_208_0 (sp_go dc_208_1 (sp_go dc_208_2 (sp_go dc_208_3 (sp_end (by decide +kernel)))))
theorem dc_209_0 : (((ents 209).drop 0).take 54).all (dcE 209) = true := by decide +kernel
theorem dc_209_1 : (((ents 209).drop 54).take 40).all (dcE 209) = true := by decide +kernel
theorem dcM_209 : ((ents 209).drop 0).all (dcE 209) = true := sp_go dc_209_0 (sp_go dc_209_1 (sp_end (by decide +kernel)))
theorem dc_210_0 : (((ents 210).drop 0).take 40).all (dcE 210) = true := by decide +kernel
theorem dcM_210 : ((ents 210).drop 0).all (dcE 210) = true := sp_go dc_210_0 (sp_end (by decide +kernel))
theorem dc_211_0 : (((ents 211).drop 0).take 31).all (dcE 211) = true := by decide +kernel
theorem dcM_211 : ((ents 211).drop 0).all (dcE 211) = true := sp_go dc_211_0 (sp_end (by decide +kernel))
theorem dc_212_0 : (((ents 212).drop 0).take 63).all (dcE 212) = true := by decide +kernel
theorem dc_212_1 : (((ents 212).drop 63).take 25).all (dcE 212) = true := by decide +kernel
theorem dcM_212 : ((ents 212).drop 0).all (dcE 212) = true := sp_go dc_212_0 (sp_go dc_212_1 (sp_end (by decide +kernel)))
theorem dc_213_0 : (((ents 213).drop 0).take 41).all (dcE 213) = true := by decide +kernel
theorem dcM_213 : ((ents 213).drop 0).all (dcE 213) = true := sp_go dc_213_0 (sp_end (by decide +kernel))
theorem dc_214_0 : (((ents 214).drop 0).take 7).all (dcE 214) = true := by decide +kernel
theorem dcM_214 : ((ents 214).drop 0).all (dcE 214) = true := sp_go dc_214_0 (sp_end (by decide +kernel))
theorem dc_215_0 : (((ents 215).drop 0).take 5).all (dcE 215) = true := by decide +kernel
theorem dcM_215 : ((ents 215).drop 0).all (dcE 215) = true := sp_go dc_215_0 (sp_end (by decide +kernel))
theorem dc_216_0 : (((ents 216).drop 0).take 52).all (dcE 216) = true := by decide +kernel
theorem dcM_216 : ((ents 216).drop 0).all (dcE 216) = true := sp_go dc_216_0 (sp_end (by decide +kernel))
theorem dc_217_0 : (((ents 217).drop 0).take 24).all (dcE 217) = true := by decide +kernel
theorem dcM_217 : ((ents 217).drop 0).all (dcE 217) = true := sp_go dc_217_0 (sp_end (by decide +kernel))
theorem dc_218_0 : (((ents 218).drop 0).take 29).all (dcE 218) = true := by decide +kernel
theorem dcM_218 : ((ents 218).drop 0).all (dcE 218) = true := sp_go dc_218_0 (sp_end (by decide +kernel))
theorem dc_219_0 : (((ents 219).drop 0).take 27).all (dcE 219) = true := by decide +kernel
theorem dcM_219 : ((ents 219).drop 0).all (dcE 219) = true := sp_go dc_219_0 (sp_end (by decide +kernel))
theorem dc_220_0 : (((ents 220).drop 0).take 29).all (dcE 220) = true := by decide +kernel
theorem dcM_220 : ((ents 220).drop 0).all (dcE 220) = true := sp_go dc_220_0 (sp_end (by decide +kernel))
theorem dc_221_0 : (((ents 221).drop 0).take 32).all (dcE 221) = true := by decide +kernel
theorem dcM_221 : ((ents 221).drop 0).all (dcE 221) = true := sp_go dc_221_0 (sp_end (by decide +kernel))
theorem dc_222_0 : (((ents 222).drop 0).take 46).all (dcE 222) = true := by decide +kernel
theorem dc_222_1 : (((ents 222).drop 46).take 46).all (dcE 222) = true := by decide +kernel
theorem dc_222_2 : (((ents 222).drop 92).take 21).all (dcE 222) = true := by decide +kernel
theorem dcM_222 : ((ents 222).drop 0).all (dcE 222) = true := sp_go dc_222_0 (sp_go dc_222_1 (sp_go dc_222_2 (sp_end (by decide +kernel))))
theorem dc_223_0 : (((ents 223).drop 0).take 42).all (dcE 223) = true := by decide +kernel
theorem dcM_223 : ((ents 223).drop 0).all (dcE 223) = true := sp_go dc_223_0 (sp_end (by decide +kernel))
theorem dc_224_0 : (((ents 224).drop 0).take 58).all (dcE 224) = true := by decide +kernel
theorem dc_224_1 : (((ents 224).drop 58).take 10).all (dcE 224) = true := by decide +kernel
theorem dcM_224 : ((ents 224).drop 0).all (dcE 224) = true := sp_go dc_224_0 (sp_go dc_224_1 (sp_end (by decide +kernel)))
