/-! the law, rows 2 -/
theorem dw_766 : decode code 766 = .ok (.iadd, 1) := by decide +kernel
theorem dw_767 : decode code 767 = .ok (.iaload, 1) := by decide +kernel
theorem dw_768 : decode code 768 = .ok (.aload_n 0, 1) := by decide +kernel
theorem dw_769 : decode code 769 = .ok (.iload_n 3, 1) := by decide +kernel
theorem dw_770 : decode code 770 = .ok (.iconst 3, 1) := by decide +kernel
theorem dw_771 : decode code 771 = .ok (.iadd, 1) := by decide +kernel
theorem dw_772 : decode code 772 = .ok (.iaload, 1) := by decide +kernel
theorem dw_773 : decode code 773 = .ok (.invokevirtual 86, 3) := by decide +kernel
theorem dw_776 : decode code 776 = .ok (.aload_n 2, 1) := by decide +kernel
theorem dw_777 : decode code 777 = .ok (.aload_n 0, 1) := by decide +kernel
theorem dw_778 : decode code 778 = .ok (.iload_n 3, 1) := by decide +kernel
theorem dw_779 : decode code 779 = .ok (.iconst 1, 1) := by decide +kernel
theorem dw_780 : decode code 780 = .ok (.iadd, 1) := by decide +kernel
theorem dw_781 : decode code 781 = .ok (.iaload, 1) := by decide +kernel
theorem dw_782 : decode code 782 = .ok (.aload_n 0, 1) := by decide +kernel
theorem dw_783 : decode code 783 = .ok (.iload_n 3, 1) := by decide +kernel
theorem dw_784 : decode code 784 = .ok (.iconst 2, 1) := by decide +kernel
theorem dw_785 : decode code 785 = .ok (.iadd, 1) := by decide +kernel
theorem dw_786 : decode code 786 = .ok (.iaload, 1) := by decide +kernel
theorem dw_787 : decode code 787 = .ok (.aload_n 0, 1) := by decide +kernel
theorem dw_788 : decode code 788 = .ok (.iload_n 3, 1) := by decide +kernel
theorem dw_789 : decode code 789 = .ok (.iconst 3, 1) := by decide +kernel
theorem dw_790 : decode code 790 = .ok (.iadd, 1) := by decide +kernel
theorem dw_791 : decode code 791 = .ok (.iaload, 1) := by decide +kernel
theorem dw_792 : decode code 792 = .ok (.invokevirtual 89, 3) := by decide +kernel
theorem dw_795 : decode code 795 = .ok (.if_icmp .eq 583, 3) := by decide +kernel
theorem dw_798 : decode code 798 = .ok (.iconst 0, 1) := by decide +kernel
theorem dw_799 : decode code 799 = .ok (.ireturn, 1) := by decide +kernel
theorem dw_800 : decode code 800 = .ok (.aload_n 1, 1) := by decide +kernel
theorem dw_801 : decode code 801 = .ok (.aload_n 0, 1) := by decide +kernel
theorem dw_802 : decode code 802 = .ok (.iload_n 3, 1) := by decide +kernel
theorem dw_803 : decode code 803 = .ok (.iconst 1, 1) := by decide +kernel
theorem dw_804 : decode code 804 = .ok (.iadd, 1) := by decide +kernel
theorem dw_805 : decode code 805 = .ok (.iaload, 1) := by decide +kernel
theorem dw_806 : decode code 806 = .ok (.invokevirtual 90, 3) := by decide +kernel
theorem dw_809 : decode code 809 = .ok (.aload_n 2, 1) := by decide +kernel
theorem dw_810 : decode code 810 = .ok (.aload_n 0, 1) := by decide +kernel
theorem dw_811 : decode code 811 = .ok (.iload_n 3, 1) := by decide +kernel
theorem dw_812 : decode code 812 = .ok (.iconst 1, 1) := by decide +kernel
theorem dw_813 : decode code 813 = .ok (.iadd, 1) := by decide +kernel
theorem dw_814 : decode code 814 = .ok (.iaload, 1) := by decide +kernel
theorem dw_815 : decode code 815 = .ok (.invokevirtual 93, 3) := by decide +kernel
theorem dw_818 : decode code 818 = .ok (.if_icmp .eq 560, 3) := by decide +kernel
theorem dw_821 : decode code 821 = .ok (.iconst 0, 1) := by decide +kernel
theorem dw_822 : decode code 822 = .ok (.ireturn, 1) := by decide +kernel
theorem dw_823 : decode code 823 = .ok (.aload_n 1, 1) := by decide +kernel
theorem dw_824 : decode code 824 = .ok (.aload_n 0, 1) := by decide +kernel
theorem dw_825 : decode code 825 = .ok (.iload_n 3, 1) := by decide +kernel
theorem dw_826 : decode code 826 = .ok (.iconst 1, 1) := by decide +kernel
theorem dw_827 : decode code 827 = .ok (.iadd, 1) := by decide +kernel
theorem dw_828 : decode code 828 = .ok (.iaload, 1) := by decide +kernel
theorem dw_829 : decode code 829 = .ok (.aload_n 0, 1) := by decide +kernel
theorem dw_830 : decode code 830 = .ok (.iload_n 3, 1) := by decide +kernel
theorem dw_831 : decode code 831 = .ok (.iconst 2, 1) := by decide +kernel
theorem dw_832 : decode code 832 = .ok (.iadd, 1) := by decide +kernel
theorem dw_833 : decode code 833 = .ok (.iaload, 1) := by decide +kernel
theorem dw_834 : decode code 834 = .ok (.invokevirtual 94, 3) := by decide +kernel
theorem dw_837 : decode code 837 = .ok (.aload_n 2, 1) := by decide +kernel
theorem dw_838 : decode code 838 = .ok (.aload_n 0, 1) := by decide +kernel
theorem dw_839 : decode code 839 = .ok (.iload_n 3, 1) := by decide +kernel
theorem dw_840 : decode code 840 = .ok (.iconst 1, 1) := by decide +kernel
theorem dw_841 : decode code 841 = .ok (.iadd, 1) := by decide +kernel
theorem dw_842 : decode code 842 = .ok (.iaload, 1) := by decide +kernel
theorem dw_843 : decode code 843 = .ok (.aload_n 0, 1) := by decide +kernel
theorem dw_844 : decode code 844 = .ok (.iload_n 3, 1) := by decide +kernel
theorem dw_845 : decode code 845 = .ok (.iconst 2, 1) := by decide +kernel
theorem dw_846 : decode code 846 = .ok (.iadd, 1) := by decide +kernel
theorem dw_847 : decode code 847 = .ok (.iaload, 1) := by decide +kernel
theorem dw_848 : decode code 848 = .ok (.invokevirtual 97, 3) := by decide +kernel
theorem dw_851 : decode code 851 = .ok (.if_icmp .eq 527, 3) := by decide +kernel
theorem dw_854 : decode code 854 = .ok (.iconst 0, 1) := by decide +kernel
theorem dw_855 : decode code 855 = .ok (.ireturn, 1) := by decide +kernel
theorem dw_856 : decode code 856 = .ok (.aload_n 1, 1) := by decide +kernel
theorem dw_857 : decode code 857 = .ok (.aload_n 0, 1) := by decide +kernel
theorem dw_858 : decode code 858 = .ok (.iload_n 3, 1) := by decide +kernel
theorem dw_859 : decode code 859 = .ok (.iconst 1, 1) := by decide +kernel
theorem dw_860 : decode code 860 = .ok (.iadd, 1) := by decide +kernel
theorem dw_861 : decode code 861 = .ok (.iaload, 1) := by decide +kernel
theorem dw_862 : decode code 862 = .ok (.aload_n 0, 1) := by decide +kernel
theorem dw_863 : decode code 863 = .ok (.iload_n 3, 1) := by decide +kernel
theorem dw_864 : decode code 864 = .ok (.iconst 2, 1) := by decide +kernel
theorem dw_865 : decode code 865 = .ok (.iadd, 1) := by decide +kernel
theorem dw_866 : decode code 866 = .ok (.iaload, 1) := by decide +kernel
theorem dw_867 : decode code 867 = .ok (.aload_n 0, 1) := by decide +kernel
theorem dw_868 : decode code 868 = .ok (.iload_n 3, 1) := by decide +kernel
theorem dw_869 : decode code 869 = .ok (.iconst 3, 1) := by decide +kernel
theorem dw_870 : decode code 870 = .ok (.iadd, 1) := by decide +kernel
theorem dw_871 : decode code 871 = .ok (.iaload, 1) := by decide +kernel
theorem dw_872 : decode code 872 = .ok (.invokevirtual 98, 3) := by decide +kernel
theorem dw_875 : decode code 875 = .ok (.aload_n 2, 1) := by decide +kernel
theorem dw_876 : decode code 876 = .ok (.aload_n 0, 1) := by decide +kernel
theorem dw_877 : decode code 877 = .ok (.iload_n 3, 1) := by decide +kernel
theorem dw_878 : decode code 878 = .ok (.iconst 1, 1) := by decide +kernel
theorem dw_879 : decode code 879 = .ok (.iadd, 1) := by decide +kernel
theorem dw_880 : decode code 880 = .ok (.iaload, 1) := by decide +kernel
theorem dw_881 : decode code 881 = .ok (.aload_n 0, 1) := by decide +kernel
theorem dw_882 : decode code 882 = .ok (.iload_n 3, 1) := by decide +kernel
theorem dw_883 : decode code 883 = .ok (.iconst 2, 1) := by decide +kernel
theorem dw_884 : decode code 884 = .ok (.iadd, 1) := by decide +kernel
theorem dw_885 : decode code 885 = .ok (.iaload, 1) := by decide +kernel
theorem dw_886 : decode code 886 = .ok (.aload_n 0, 1) := by decide +kernel
theorem dw_887 : decode code 887 = .ok (.iload_n 3, 1) := by decide +kernel
theorem dw_888 : decode code 888 = .ok (.iconst 3, 1) := by decide +kernel
theorem dw_889 : decode code 889 = .ok (.iadd, 1) := by decide +kernel
theorem dw_890 : decode code 890 = .ok (.iaload, 1) := by decide +kernel
theorem dw_891 : decode code 891 = .ok (.invokevirtual 101, 3) := by decide +kernel
theorem dw_894 : decode code 894 = .ok (.if_icmp .eq 484, 3) := by decide +kernel
theorem dw_897 : decode code 897 = .ok (.iconst 0, 1) := by decide +kernel
theorem dw_898 : decode code 898 = .ok (.ireturn, 1) := by decide +kernel
theorem dw_899 : decode code 899 = .ok (.aload_n 1, 1) := by decide +kernel
theorem dw_900 : decode code 900 = .ok (.invokevirtual 102, 3) := by decide +kernel
theorem dw_903 : decode code 903 = .ok (.aload_n 2, 1) := by decide +kernel
theorem dw_904 : decode code 904 = .ok (.invokevirtual 105, 3) := by decide +kernel
theorem dw_907 : decode code 907 = .ok (.if_icmp .eq 471, 3) := by decide +kernel
theorem dw_910 : decode code 910 = .ok (.iconst 0, 1) := by decide +kernel
theorem dw_911 : decode code 911 = .ok (.ireturn, 1) := by decide +kernel
theorem dw_912 : decode code 912 = .ok (.aload_n 1, 1) := by decide +kernel
theorem dw_913 : decode code 913 = .ok (.aload_n 0, 1) := by decide +kernel
theorem dw_914 : decode code 914 = .ok (.iload_n 3, 1) := by decide +kernel
theorem dw_915 : decode code 915 = .ok (.iconst 1, 1) := by decide +kernel
theorem dw_916 : decode code 916 = .ok (.iadd, 1) := by decide +kernel
theorem dw_917 : decode code 917 = .ok (.iaload, 1) := by decide +kernel
theorem dw_918 : decode code 918 = .ok (.invokevirtual 106, 3) := by decide +kernel
theorem dw_921 : decode code 921 = .ok (.aload_n 2, 1) := by decide +kernel
theorem dw_922 : decode code 922 = .ok (.aload_n 0, 1) := by decide +kernel
theorem dw_923 : decode code 923 = .ok (.iload_n 3, 1) := by decide +kernel
theorem dw_924 : decode code 924 = .ok (.iconst 1, 1) := by decide +kernel
theorem dw_925 : decode code 925 = .ok (.iadd, 1) := by decide +kernel
theorem dw_926 : decode code 926 = .ok (.iaload, 1) := by decide +kernel
theorem dw_927 : decode code 927 = .ok (.invokevirtual 109, 3) := by decide +kernel
theorem dw_930 : decode code 930 = .ok (.if_icmp .eq 448, 3) := by decide +kernel
theorem dw_933 : decode code 933 = .ok (.iconst 0, 1) := by decide +kernel
theorem dw_934 : decode code 934 = .ok (.ireturn, 1) := by decide +kernel
theorem dw_935 : decode code 935 = .ok (.aload_n 1, 1) := by decide +kernel
theorem dw_936 : decode code 936 = .ok (.invokevirtual 110, 3) := by decide +kernel
theorem dw_939 : decode code 939 = .ok (.aload_n 2, 1) := by decide +kernel
theorem dw_940 : decode code 940 = .ok (.invokevirtual 113, 3) := by decide +kernel
theorem dw_943 : decode code 943 = .ok (.if_icmp .eq 435, 3) := by decide +kernel
theorem dw_946 : decode code 946 = .ok (.iconst 0, 1) := by decide +kernel
theorem dw_947 : decode code 947 = .ok (.ireturn, 1) := by decide +kernel
theorem dw_948 : decode code 948 = .ok (.aload_n 1, 1) := by decide +kernel
theorem dw_949 : decode code 949 = .ok (.invokevirtual 114, 3) := by decide +kernel
theorem dw_952 : decode code 952 = .ok (.aload_n 2, 1) := by decide +kernel
theorem dw_953 : decode code 953 = .ok (.invokevirtual 117, 3) := by decide +kernel
theorem dw_956 : decode code 956 = .ok (.if_icmp .eq 422, 3) := by decide +kernel
theorem dw_959 : decode code 959 = .ok (.iconst 0, 1) := by decide +kernel
theorem dw_960 : decode code 960 = .ok (.ireturn, 1) := by decide +kernel
theorem dw_961 : decode code 961 = .ok (.aload_n 1, 1) := by decide +kernel
theorem dw_962 : decode code 962 = .ok (.invokevirtual 118, 3) := by decide +kernel
theorem dw_965 : decode code 965 = .ok (.aload_n 2, 1) := by decide +kernel
theorem dw_966 : decode code 966 = .ok (.invokevirtual 121, 3) := by decide +kernel
theorem dw_969 : decode code 969 = .ok (.if_icmp .eq 409, 3) := by decide +kernel
theorem dw_972 : decode code 972 = .ok (.iconst 0, 1) := by decide +kernel
theorem dw_973 : decode code 973 = .ok (.ireturn, 1) := by decide +kernel
theorem dw_974 : decode code 974 = .ok (.aload_n 1, 1) := by decide +kernel
theorem dw_975 : decode code 975 = .ok (.invokevirtual 122, 3) := by decide +kernel
theorem dw_978 : decode code 978 = .ok (.aload_n 2, 1) := by decide +kernel
theorem dw_979 : decode code 979 = .ok (.invokevirtual 125, 3) := by decide +kernel
theorem dw_982 : decode code 982 = .ok (.if_icmp .eq 396, 3) := by decide +kernel
theorem dw_985 : decode code 985 = .ok (.iconst 0, 1) := by decide +kernel
theorem dw_986 : decode code 986 = .ok (.ireturn, 1) := by decide +kernel
theorem dw_987 : decode code 987 = .ok (.aload_n 1, 1) := by decide +kernel
theorem dw_988 : decode code 988 = .ok (.aload_n 0, 1) := by decide +kernel
theorem dw_989 : decode code 989 = .ok (.iload_n 3, 1) := by decide +kernel
theorem dw_990 : decode code 990 = .ok (.iconst 1, 1) := by decide +kernel
theorem dw_991 : decode code 991 = .ok (.iadd, 1) := by decide +kernel
theorem dw_992 : decode code 992 = .ok (.iaload, 1) := by decide +kernel
theorem dw_993 : decode code 993 = .ok (.invokevirtual 126, 3) := by decide +kernel
theorem dw_996 : decode code 996 = .ok (.aload_n 2, 1) := by decide +kernel
theorem dw_997 : decode code 997 = .ok (.aload_n 0, 1) := by decide +kernel
theorem dw_998 : decode code 998 = .ok (.iload_n 3, 1) := by decide +kernel
theorem dw_999 : decode code 999 = .ok (.iconst 1, 1) := by decide +kernel
theorem dw_1000 : decode code 1000 = .ok (.iadd, 1) := by decide +kernel
theorem dw_1001 : decode code 1001 = .ok (.iaload, 1) := by decide +kernel
theorem dw_1002 : decode code 1002 = .ok (.invokevirtual 129, 3) := by decide +kernel
theorem dw_1005 : decode code 1005 = .ok (.if_icmp .eq 373, 3) := by decide +kernel
theorem dw_1008 : decode code 1008 = .ok (.iconst 0, 1) := by decide +kernel
theorem dw_1009 : decode code 1009 = .ok (.ireturn, 1) := by decide +kernel
theorem dw_1010 : decode code 1010 = .ok (.aload_n 1, 1) := by decide +kernel
theorem dw_1011 : decode code 1011 = .ok (.aload_n 0, 1) := by decide +kernel
theorem dw_1012 : decode code 1012 = .ok (.iload_n 3, 1) := by decide +kernel
theorem dw_1013 : decode code 1013 = .ok (.iconst 1, 1) := by decide +kernel
theorem dw_1014 : decode code 1014 = .ok (.iadd, 1) := by decide +kernel
theorem dw_1015 : decode code 1015 = .ok (.iaload, 1) := by decide +kernel
theorem dw_1016 : decode code 1016 = .ok (.aload_n 0, 1) := by decide +kernel
theorem dw_1017 : decode code 1017 = .ok (.iload_n 3, 1) := by decide +kernel
theorem dw_1018 : decode code 1018 = .ok (.iconst 2, 1) := by decide +kernel
theorem dw_1019 : decode code 1019 = .ok (.iadd, 1) := by decide +kernel
theorem dw_1020 : decode code 1020 = .ok (.iaload, 1) := by decide +kernel
theorem dw_1021 : decode code 1021 = .ok (.aload_n 0, 1) := by decide +kernel
theorem dw_1022 : decode code 1022 = .ok (.iload_n 3, 1) := by decide +kernel
theorem dw_1023 : decode code 1023 = .ok (.iconst 3, 1) := by decide +kernel
theorem dw_1024 : decode code 1024 = .ok (.iadd, 1) := by decide +kernel
theorem dw_1025 : decode code 1025 = .ok (.iaload, 1) := by decide +kernel
theorem dw_1026 : decode code 1026 = .ok (.invokevirtual 130, 3) := by decide +kernel
theorem dw_1029 : decode code 1029 = .ok (.aload_n 2, 1) := by decide +kernel
theorem dw_1030 : decode code 1030 = .ok (.aload_n 0, 1) := by decide +kernel
theorem dw_1031 : decode code 1031 = .ok (.iload_n 3, 1) := by decide +kernel
theorem dw_1032 : decode code 1032 = .ok (.iconst 1, 1) := by decide +kernel
theorem dw_1033 : decode code 1033 = .ok (.iadd, 1) := by decide +kernel
theorem dw_1034 : decode code 1034 = .ok (.iaload, 1) := by decide +kernel
theorem dw_1035 : decode code 1035 = .ok (.aload_n 0, 1) := by decide +kernel
theorem dw_1036 : decode code 1036 = .ok (.iload_n 3, 1) := by decide +kernel
theorem dw_1037 : decode code 1037 = .ok (.iconst 2, 1) := by decide +kernel
theorem dw_1038 : decode code 1038 = .ok (.iadd, 1) := by decide +kernel
theorem dw_1039 : decode code 1039 = .ok (.iaload, 1) := by decide +kernel
theorem dw_1040 : decode code 1040 = .ok (.aload_n 0, 1) := by decide +kernel
theorem dw_1041 : decode code 1041 = .ok (.iload_n 3, 1) := by decide +kernel
theorem dw_1042 : decode code 1042 = .ok (.iconst 3, 1) := by decide +kernel
theorem dw_1043 : decode code 1043 = .ok (.iadd, 1) := by decide +kernel
theorem dw_1044 : decode code 1044 = .ok (.iaload, 1) := by decide +kernel
theorem dw_1045 : decode code 1045 = .ok (.invokevirtual 133, 3) := by decide +kernel
theorem dw_1048 : decode code 1048 = .ok (.if_icmp .eq 330, 3) := by decide +kernel
theorem dw_1051 : decode code 1051 = .ok (.iconst 0, 1) := by decide +kernel
theorem dw_1052 : decode code 1052 = .ok (.ireturn, 1) := by decide +kernel
theorem dw_1053 : decode code 1053 = .ok (.aload_n 1, 1) := by decide +kernel
theorem dw_1054 : decode code 1054 = .ok (.aload_n 0, 1) := by decide +kernel
theorem dw_1055 : decode code 1055 = .ok (.iload_n 3, 1) := by decide +kernel
theorem dw_1056 : decode code 1056 = .ok (.iconst 1, 1) := by decide +kernel
theorem dw_1057 : decode code 1057 = .ok (.iadd, 1) := by decide +kernel
theorem dw_1058 : decode code 1058 = .ok (.iaload, 1) := by decide +kernel
theorem dw_1059 : decode code 1059 = .ok (.invokevirtual 134, 3) := by decide +kernel
theorem dw_1062 : decode code 1062 = .ok (.aload_n 2, 1) := by decide +kernel
theorem dw_1063 : decode code 1063 = .ok (.aload_n 0, 1) := by decide +kernel
theorem dw_1064 : decode code 1064 = .ok (.iload_n 3, 1) := by decide +kernel
theorem dw_1065 : decode code 1065 = .ok (.iconst 1, 1) := by decide +kernel
theorem dw_1066 : decode code 1066 = .ok (.iadd, 1) := by decide +kernel
theorem dw_1067 : decode code 1067 = .ok (.iaload, 1) := by decide +kernel
theorem dw_1068 : decode code 1068 = .ok (.invokevirtual 137, 3) := by decide +kernel
theorem dw_1071 : decode code 1071 = .ok (.if_icmp .eq 307, 3) := by decide +kernel
theorem dw_1074 : decode code 1074 = .ok (.iconst 0, 1) := by decide +kernel
theorem dw_1075 : decode code 1075 = .ok (.ireturn, 1) := by decide +kernel
theorem dw_1076 : decode code 1076 = .ok (.aload_n 1, 1) := by decide +kernel
theorem dw_1077 : decode code 1077 = .ok (.aload_n 0, 1) := by decide +kernel
theorem dw_1078 : decode code 1078 = .ok (.iload_n 3, 1) := by decide +kernel
theorem dw_1079 : decode code 1079 = .ok (.iconst 1, 1) := by decide +kernel
theorem dw_1080 : decode code 1080 = .ok (.iadd, 1) := by decide +kernel
theorem dw_1081 : decode code 1081 = .ok (.iaload, 1) := by decide +kernel
theorem dw_1082 : decode code 1082 = .ok (.aload_n 0, 1) := by decide +kernel
theorem dw_1083 : decode code 1083 = .ok (.iload_n 3, 1) := by decide +kernel
theorem dw_1084 : decode code 1084 = .ok (.iconst 2, 1) := by decide +kernel
theorem dw_1085 : decode code 1085 = .ok (.iadd, 1) := by decide +kernel
theorem dw_1086 : decode code 1086 = .ok (.iaload, 1) := by decide +kernel
theorem dw_1087 : decode code 1087 = .ok (.invokevirtual 138, 3) := by decide +kernel
theorem dw_1090 : decode code 1090 = .ok (.aload_n 2, 1) := by decide +kernel
