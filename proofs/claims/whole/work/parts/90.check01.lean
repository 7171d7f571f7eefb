theorem ck_51 : tb_chk 51 = true := by decide +kernel
theorem cw_51 : tb_cdw 51 734 = true := by decide +kernel
theorem ck_52 : tb_chk 52 = true := by decide +kernel
theorem cw_52 : tb_cdw 52 738 = true := by decide +kernel
theorem ck_53 : tb_chk 53 = true := by decide +kernel
theorem cw_53 : tb_cdw 53 742 = true := by decide +kernel
theorem ck_54 : tb_chk 54 = true := by decide +kernel
theorem cw_54 : tb_cdw 54 746 = true := by decide +kernel
theorem ck_55 : tb_chk 55 = true := by decide +kernel
theorem cw_55 : tb_cdw 55 750 = true := by decide +kernel
theorem ck_56 : tb_chk 56 = true := by decide +kernel
theorem cw_56 : tb_cdw 56 753 = true := by decide +kernel
theorem ck_57 : tb_chk 57 = true := by decide +kernel
theorem cw_57 : tb_cdw 57 757 = true := by decide +kernel
theorem ck_58 : tb_chk 58 = true := by decide +kernel
theorem cw_58 : tb_cdw 58 770 = true := by decide +kernel
theorem ck_59 : tb_chk 59 = true := by decide +kernel
theorem cw_59 : tb_cdw 59 774 = true := by decide +kernel
theorem ck_60 : tb_chk 60 = true := by decide +kernel
theorem cw_60 : tb_cdw 60 779 = true := by decide +kernel
theorem ck_61 : tb_chk 61 = true := by decide +kernel
theorem cw_61 : tb_cdw 61 783 = true := by decide +kernel
theorem ck_62 : tb_chk 62 = true := by decide +kernel
theorem cw_62 : tb_cdw 62 787 = true := by decide +kernel
theorem ck_63 : tb_chk 63 = true := by decide +kernel
theorem cw_63 : tb_cdw 63 791 = true := by decide +kernel
theorem ck_64 : tb_chk 64 = true := by decide +kernel
theorem cw_64 : tb_cdw 64 795 = true := by decide +kernel
theorem ck_65 : tb_chk 65 = true := by decide +kernel
theorem cw_65 : tb_cdw 65 799 = true := by decide +kernel
theorem ck_66 : tb_chk 66 = true := by decide +kernel
theorem cw_66 : tb_cdw 66 803 = true := by decide +kernel
theorem ck_67 : tb_chk 67 = true := by decide +kernel
theorem cw_67 : tb_cdw 67 807 = true := by decide +kernel
theorem ck_68 : tb_chk 68 = true := by decide +kernel
theorem cw_68 : tb_cdw 68 811 = true := by decide +kernel
theorem ck_69 : tb_chk 69 = true := by decide +kernel
theorem cw_69 : tb_cdw 69 816 = true := by decide +kernel
theorem ck_70 : tb_chk 70 = true := by decide +kernel
theorem cw_70 : tb_cdw 70 820 = true := by decide +kernel
theorem ck_71 : tb_chk 71 = true := by decide +kernel
theorem cw_71 : tb_cdw 71 825 = true := by decide +kernel
theorem ck_72 : tb_chk 72 = true := by decide +kernel
theorem cw_72 : tb_cdw 72 829 = true := by decide +kernel
theorem ck_73 : tb_chk 73 = true := by decide +kernel
theorem cw_73 : tb_cdw 73 833 = true := by decide +kernel
theorem ck_74 : tb_chk 74 = true := by decide +kernel
theorem cw_74 : tb_cdw 74 837 = true := by decide +kernel
theorem ck_75 : tb_chk 75 = true := by decide +kernel
theorem cw_75 : tb_cdw 75 844 = true := by decide +kernel
theorem ck_76 : tb_chk 76 = true := by decide +kernel
theorem cw_76 : tb_cdw 76 847 = true := by decide +kernel
theorem ck_77 : tb_chk 77 = true := by decide +kernel
theorem cw_77 : tb_cdw 77 851 = true := by decide +kernel
theorem ck_78 : tb_chk 78 = true := by decide +kernel
theorem cw_78 : tb_cdw 78 856 = true := by decide +kernel
theorem ck_79 : tb_chk 79 = true := by decide +kernel
theorem cw_79 : tb_cdw 79 860 = true := by decide +kernel
theorem ck_80 : tb_chk 80 = true := by decide +kernel
theorem cw_80 : tb_cdw 80 863 = true := by decide +kernel
theorem ck_81 : tb_chk 81 = true := by decide +kernel
theorem cw_81 : tb_cdw 81 871 = true := by decide +kernel
theorem ck_82 : tb_chk 82 = true := by decide +kernel
theorem cw_82 : tb_cdw 82 878 = true := by decide +kernel
theorem ck_83 : tb_chk 83 = true := by decide +kernel
theorem cw_83 : tb_cdw 83 882 = true := by decide +kernel
theorem ck_84 : tb_chk 84 = true := by decide +kernel
theorem cw_84 : tb_cdw 84 885 = true := by decide +kernel
theorem ck_85 : tb_chk 85 = true := by decide +kernel
theorem cw_85 : tb_cdw 85 889 = true := by decide +kernel
theorem ck_86 : tb_chk 86 = true := by decide +kernel
theorem cw_86 : tb_cdw 86 893 = true := by decide +kernel
theorem ck_87 : tb_chk 87 = true := by decide +kernel
theorem cw_87 : tb_cdw 87 897 = true := by decide +kernel
theorem ck_88 : tb_chk 88 = true := by decide +kernel
theorem cw_88 : tb_cdw 88 901 = true := by decide +kernel
theorem ck_89 : tb_chk 89 = true := by decide +kernel
theorem cw_89 : tb_cdw 89 906 = true := by decide +kernel
theorem ck_90 : tb_chk 90 = true := by decide +kernel
theorem cw_90 : tb_cdw 90 912 = true := by decide +kernel
theorem ck_91 : tb_chk 91 = true := by decide +kernel
theorem cw_91 : tb_cdw 91 916 = true := by decide +kernel
theorem ck_92 : tb_chk 92 = true := by decide +kernel
theorem cw_92 : tb_cdw 92 921 = true := by decide +kernel
theorem ck_93 : tb_chk 93 = true := by decide +kernel
theorem cw_93 : tb_cdw 93 925 = true := by decide +kernel
theorem ck_94 : tb_chk 94 = true := by decide +kernel
theorem cw_94 : tb_cdw 94 929 = true := by decide +kernel
theorem ck_95 : tb_chk 95 = true := by decide +kernel
theorem cw_95 : tb_cdw 95 934 = true := by decide +kernel
theorem ck_96 : tb_chk 96 = true := by decide +kernel
theorem cw_96 : tb_cdw 96 939 = true := by decide +kernel
theorem ck_97 : tb_chk 97 = true := by decide +kernel
theorem cw_97 : tb_cdw 97 943 = true := by decide +kernel
theorem ck_98 : tb_chk 98 = true := by decide +kernel
theorem cw_98 : tb_cdw 98 948 = true := by decide +kernel
theorem ck_99 : tb_chk 99 = true := by decide +kernel
theorem cw_99 : tb_cdw 99 952 = true := by decide +kernel
theorem ck_100 : tb_chk 100 = true := by decide +kernel
theorem cw_100 : tb_cdw 100 957 = true := by decide +kernel
