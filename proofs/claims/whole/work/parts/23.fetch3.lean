theorem fX10_init_696 : a_fetch 158 696 = some (.iconst 6, 698) := by decide +kernel
theorem fX10_init_698 : a_fetch 158 698 = some (.newarray .int, 700) := by decide +kernel
theorem fX10_init_700 : a_fetch 158 700 = some (.multianewarray 10 36, 703) := by decide +kernel
theorem fX10_init_703 : a_fetch 158 703 = some (.aload 0, 704) := by decide +kernel
theorem fX10_init_704 : a_fetch 158 704 = some (.iconst 40, 706) := by decide +kernel
theorem fX10_init_706 : a_fetch 158 706 = some (.newarray .long, 708) := by decide +kernel
theorem fX10_init_708 : a_fetch 158 708 = some (.multianewarray 10 37, 711) := by decide +kernel
theorem fX10_init_711 : a_fetch 158 711 = some (.aload 0, 712) := by decide +kernel
theorem fX10_init_712 : a_fetch 158 712 = some (.iconst 40, 714) := by decide +kernel
theorem fX10_init_714 : a_fetch 158 714 = some (.newarray .int, 716) := by decide +kernel
theorem fX10_init_716 : a_fetch 158 716 = some (.multianewarray 10 38, 719) := by decide +kernel
theorem fX10_init_719 : a_fetch 158 719 = some (.aload 0, 720) := by decide +kernel
theorem fX10_init_720 : a_fetch 158 720 = some (.iconst 144, 723) := by decide +kernel
theorem fX10_init_723 : a_fetch 158 723 = some (.newarray .int, 725) := by decide +kernel
theorem fX10_init_725 : a_fetch 158 725 = some (.multianewarray 10 39, 728) := by decide +kernel
theorem fX10_init_728 : a_fetch 158 728 = some (.aload 0, 729) := by decide +kernel
theorem fX10_init_729 : a_fetch 158 729 = some (.iconst 20, 731) := by decide +kernel
theorem fX10_init_731 : a_fetch 158 731 = some (.newarray .int, 733) := by decide +kernel
theorem fX10_init_733 : a_fetch 158 733 = some (.multianewarray 10 40, 736) := by decide +kernel
theorem fX10_init_736 : a_fetch 158 736 = some (.aload 0, 737) := by decide +kernel
theorem fX10_init_737 : a_fetch 158 737 = some (.iconst 20, 739) := by decide +kernel
theorem fX10_init_739 : a_fetch 158 739 = some (.newarray .int, 741) := by decide +kernel
theorem fX10_init_741 : a_fetch 158 741 = some (.multianewarray 10 41, 744) := by decide +kernel
theorem fX10_init_744 : a_fetch 158 744 = some (.aload 0, 745) := by decide +kernel
theorem fX10_init_745 : a_fetch 158 745 = some (.iconst 200, 748) := by decide +kernel
theorem fX10_init_748 : a_fetch 158 748 = some (.newarray .int, 750) := by decide +kernel
theorem fX10_init_750 : a_fetch 158 750 = some (.multianewarray 10 42, 753) := by decide +kernel
theorem fX10_init_753 : a_fetch 158 753 = some (.aload 0, 754) := by decide +kernel
theorem fX10_init_754 : a_fetch 158 754 = some (.iconst 8, 756) := by decide +kernel
theorem fX10_init_756 : a_fetch 158 756 = some (.newarray .int, 758) := by decide +kernel
theorem fX10_init_758 : a_fetch 158 758 = some (.dup, 759) := by decide +kernel
theorem fX10_init_759 : a_fetch 158 759 = some (.iconst 0, 760) := by decide +kernel
theorem fX10_init_760 : a_fetch 158 760 = some (.iconst (-1), 761) := by decide +kernel
theorem fX10_init_761 : a_fetch 158 761 = some (.iastore, 762) := by decide +kernel
theorem fX10_init_762 : a_fetch 158 762 = some (.dup, 763) := by decide +kernel
theorem fX10_init_763 : a_fetch 158 763 = some (.iconst 1, 764) := by decide +kernel
theorem fX10_init_764 : a_fetch 158 764 = some (.iconst (-1), 765) := by decide +kernel
theorem fX10_init_765 : a_fetch 158 765 = some (.iastore, 766) := by decide +kernel
theorem fX10_init_766 : a_fetch 158 766 = some (.dup, 767) := by decide +kernel
theorem fX10_init_767 : a_fetch 158 767 = some (.iconst 2, 768) := by decide +kernel
theorem fX10_init_768 : a_fetch 158 768 = some (.iconst (-1), 769) := by decide +kernel
theorem fX10_init_769 : a_fetch 158 769 = some (.iastore, 770) := by decide +kernel
theorem fX10_init_770 : a_fetch 158 770 = some (.dup, 771) := by decide +kernel
theorem fX10_init_771 : a_fetch 158 771 = some (.iconst 3, 772) := by decide +kernel
theorem fX10_init_772 : a_fetch 158 772 = some (.iconst (-1), 773) := by decide +kernel
theorem fX10_init_773 : a_fetch 158 773 = some (.iastore, 774) := by decide +kernel
theorem fX10_init_774 : a_fetch 158 774 = some (.dup, 775) := by decide +kernel
theorem fX10_init_775 : a_fetch 158 775 = some (.iconst 4, 776) := by decide +kernel
theorem fX10_init_776 : a_fetch 158 776 = some (.iconst (-1), 777) := by decide +kernel
theorem fX10_init_777 : a_fetch 158 777 = some (.iastore, 778) := by decide +kernel
theorem fX10_init_778 : a_fetch 158 778 = some (.dup, 779) := by decide +kernel
theorem fX10_init_779 : a_fetch 158 779 = some (.iconst 5, 780) := by decide +kernel
theorem fX10_init_780 : a_fetch 158 780 = some (.iconst (-1), 781) := by decide +kernel
theorem fX10_init_781 : a_fetch 158 781 = some (.iastore, 782) := by decide +kernel
theorem fX10_init_782 : a_fetch 158 782 = some (.dup, 783) := by decide +kernel
theorem fX10_init_783 : a_fetch 158 783 = some (.iconst 6, 785) := by decide +kernel
theorem fX10_init_785 : a_fetch 158 785 = some (.iconst (-1), 786) := by decide +kernel
theorem fX10_init_786 : a_fetch 158 786 = some (.iastore, 787) := by decide +kernel
theorem fX10_init_787 : a_fetch 158 787 = some (.dup, 788) := by decide +kernel
theorem fX10_init_788 : a_fetch 158 788 = some (.iconst 7, 790) := by decide +kernel
theorem fX10_init_790 : a_fetch 158 790 = some (.iconst (-1), 791) := by decide +kernel
theorem fX10_init_791 : a_fetch 158 791 = some (.iastore, 792) := by decide +kernel
theorem fX10_init_792 : a_fetch 158 792 = some (.multianewarray 10 43, 795) := by decide +kernel
theorem fX10_init_795 : a_fetch 158 795 = some (.aload 0, 796) := by decide +kernel
theorem fX10_init_796 : a_fetch 158 796 = some (.iconst 8, 798) := by decide +kernel
theorem fX10_init_798 : a_fetch 158 798 = some (.newarray .int, 800) := by decide +kernel
theorem fX10_init_800 : a_fetch 158 800 = some (.multianewarray 10 44, 803) := by decide +kernel
theorem fX10_init_803 : a_fetch 158 803 = some (.aload 0, 804) := by decide +kernel
theorem fX10_init_804 : a_fetch 158 804 = some (.iconst 3200, 807) := by decide +kernel
theorem fX10_init_807 : a_fetch 158 807 = some (.newarray .int, 809) := by decide +kernel
theorem fX10_init_809 : a_fetch 158 809 = some (.multianewarray 10 45, 812) := by decide +kernel
theorem fX10_init_812 : a_fetch 158 812 = some (.aload 0, 813) := by decide +kernel
theorem fX10_init_813 : a_fetch 158 813 = some (.iconst 282, 816) := by decide +kernel
theorem fX10_init_816 : a_fetch 158 816 = some (.newarray .int, 818) := by decide +kernel
theorem fX10_init_818 : a_fetch 158 818 = some (.multianewarray 10 49, 821) := by decide +kernel
theorem fX10_init_821 : a_fetch 158 821 = some (.aload 0, 822) := by decide +kernel
theorem fX10_init_822 : a_fetch 158 822 = some (.iconst 282, 825) := by decide +kernel
theorem fX10_init_825 : a_fetch 158 825 = some (.newarray .int, 827) := by decide +kernel
theorem fX10_init_827 : a_fetch 158 827 = some (.multianewarray 10 50, 830) := by decide +kernel
theorem fX10_init_830 : a_fetch 158 830 = some (.aload 0, 831) := by decide +kernel
theorem fX10_init_831 : a_fetch 158 831 = some (.iconst 3, 832) := by decide +kernel
theorem fX10_init_832 : a_fetch 158 832 = some (.newarray .int, 834) := by decide +kernel
theorem fX10_init_834 : a_fetch 158 834 = some (.multianewarray 10 59, 837) := by decide +kernel
theorem fX10_init_837 : a_fetch 158 837 = some (.aload 0, 838) := by decide +kernel
theorem fX10_init_838 : a_fetch 158 838 = some (.iconst 10, 840) := by decide +kernel
theorem fX10_init_840 : a_fetch 158 840 = some (.newarray .int, 842) := by decide +kernel
theorem fX10_init_842 : a_fetch 158 842 = some (.multianewarray 10 60, 845) := by decide +kernel
theorem fX10_init_845 : a_fetch 158 845 = some (.aload 0, 846) := by decide +kernel
theorem fX10_init_846 : a_fetch 158 846 = some (.iconst 10, 848) := by decide +kernel
theorem fX10_init_848 : a_fetch 158 848 = some (.newarray .int, 850) := by decide +kernel
theorem fX10_init_850 : a_fetch 158 850 = some (.multianewarray 10 63, 853) := by decide +kernel
theorem fX10_init_853 : a_fetch 158 853 = some (.aload 0, 854) := by decide +kernel
theorem fX10_init_854 : a_fetch 158 854 = some (.iconst 11264, 857) := by decide +kernel
theorem fX10_init_857 : a_fetch 158 857 = some (.newarray .int, 859) := by decide +kernel
theorem fX10_init_859 : a_fetch 158 859 = some (.multianewarray 10 66, 862) := by decide +kernel
theorem fX10_init_862 : a_fetch 158 862 = some (.aload 0, 863) := by decide +kernel
theorem fX10_init_863 : a_fetch 158 863 = some (.iconst 100, 865) := by decide +kernel
theorem fX10_init_865 : a_fetch 158 865 = some (.newarray .int, 867) := by decide +kernel
theorem fX10_init_867 : a_fetch 158 867 = some (.multianewarray 10 67, 870) := by decide +kernel
theorem fX10_init_870 : a_fetch 158 870 = some (.aload 0, 871) := by decide +kernel
theorem fX10_init_871 : a_fetch 158 871 = some (.iconst 5640, 874) := by decide +kernel
theorem fX10_init_874 : a_fetch 158 874 = some (.newarray .int, 876) := by decide +kernel
theorem fX10_init_876 : a_fetch 158 876 = some (.multianewarray 10 68, 879) := by decide +kernel
theorem fX10_init_879 : a_fetch 158 879 = some (.aload 0, 880) := by decide +kernel
theorem fX10_init_880 : a_fetch 158 880 = some (.jsr_w 1, 881) := by decide +kernel
theorem fX10_init_881 : a_fetch 158 881 = some (.multianewarray 10 71, 884) := by decide +kernel
theorem fX10_init_884 : a_fetch 158 884 = some (.aload 0, 885) := by decide +kernel
theorem fX10_init_885 : a_fetch 158 885 = some (.iconst 60, 887) := by decide +kernel
theorem fX10_init_887 : a_fetch 158 887 = some (.newarray .int, 889) := by decide +kernel
theorem fX10_init_889 : a_fetch 158 889 = some (.multianewarray 10 74, 892) := by decide +kernel
theorem fX10_init_892 : a_fetch 158 892 = some (.aload 0, 893) := by decide +kernel
theorem fX10_init_893 : a_fetch 158 893 = some (.iconst 5, 894) := by decide +kernel
theorem fX10_init_894 : a_fetch 158 894 = some (.newarray .char, 896) := by decide +kernel
theorem fX10_init_896 : a_fetch 158 896 = some (.dup, 897) := by decide +kernel
theorem fX10_init_897 : a_fetch 158 897 = some (.iconst 0, 898) := by decide +kernel
theorem fX10_init_898 : a_fetch 158 898 = some (.iconst 102, 900) := by decide +kernel
theorem fX10_init_900 : a_fetch 158 900 = some (.castore, 901) := by decide +kernel
theorem fX10_init_901 : a_fetch 158 901 = some (.dup, 902) := by decide +kernel
theorem fX10_init_902 : a_fetch 158 902 = some (.iconst 1, 903) := by decide +kernel
theorem fX10_init_903 : a_fetch 158 903 = some (.iconst 105, 905) := by decide +kernel
theorem fX10_init_905 : a_fetch 158 905 = some (.castore, 906) := by decide +kernel
theorem fX10_init_906 : a_fetch 158 906 = some (.dup, 907) := by decide +kernel
theorem fX10_init_907 : a_fetch 158 907 = some (.iconst 2, 908) := by decide +kernel
theorem fX10_init_908 : a_fetch 158 908 = some (.iconst 114, 910) := by decide +kernel
theorem fX10_init_910 : a_fetch 158 910 = some (.castore, 911) := by decide +kernel
theorem fX10_init_911 : a_fetch 158 911 = some (.dup, 912) := by decide +kernel
theorem fX10_init_912 : a_fetch 158 912 = some (.iconst 3, 913) := by decide +kernel
theorem fX10_init_913 : a_fetch 158 913 = some (.iconst 115, 915) := by decide +kernel
theorem fX10_init_915 : a_fetch 158 915 = some (.castore, 916) := by decide +kernel
theorem fX10_init_916 : a_fetch 158 916 = some (.dup, 917) := by decide +kernel
theorem fX10_init_917 : a_fetch 158 917 = some (.iconst 4, 918) := by decide +kernel
theorem fX10_init_918 : a_fetch 158 918 = some (.iconst 116, 920) := by decide +kernel
theorem fX10_init_920 : a_fetch 158 920 = some (.castore, 921) := by decide +kernel
theorem fX10_init_921 : a_fetch 158 921 = some (.multianewarray 10 75, 924) := by decide +kernel
theorem fX10_init_924 : a_fetch 158 924 = some (.aload 0, 925) := by decide +kernel
theorem fX10_init_925 : a_fetch 158 925 = some (.iconst 4, 926) := by decide +kernel
theorem fX10_init_926 : a_fetch 158 926 = some (.newarray .char, 928) := by decide +kernel
theorem fX10_init_928 : a_fetch 158 928 = some (.dup, 929) := by decide +kernel
theorem fX10_init_929 : a_fetch 158 929 = some (.iconst 0, 930) := by decide +kernel
theorem fX10_init_930 : a_fetch 158 930 = some (.iconst 108, 932) := by decide +kernel
theorem fX10_init_932 : a_fetch 158 932 = some (.castore, 933) := by decide +kernel
theorem fX10_init_933 : a_fetch 158 933 = some (.dup, 934) := by decide +kernel
theorem fX10_init_934 : a_fetch 158 934 = some (.iconst 1, 935) := by decide +kernel
theorem fX10_init_935 : a_fetch 158 935 = some (.iconst 97, 937) := by decide +kernel
theorem fX10_init_937 : a_fetch 158 937 = some (.castore, 938) := by decide +kernel
theorem fX10_init_938 : a_fetch 158 938 = some (.dup, 939) := by decide +kernel
theorem fX10_init_939 : a_fetch 158 939 = some (.iconst 2, 940) := by decide +kernel
theorem fX10_init_940 : a_fetch 158 940 = some (.iconst 115, 942) := by decide +kernel
theorem fX10_init_942 : a_fetch 158 942 = some (.castore, 943) := by decide +kernel
theorem fX10_init_943 : a_fetch 158 943 = some (.dup, 944) := by decide +kernel
theorem fX10_init_944 : a_fetch 158 944 = some (.iconst 3, 945) := by decide +kernel
theorem fX10_init_945 : a_fetch 158 945 = some (.iconst 116, 947) := by decide +kernel
theorem fX10_init_947 : a_fetch 158 947 = some (.castore, 948) := by decide +kernel
theorem fX10_init_948 : a_fetch 158 948 = some (.multianewarray 10 76, 951) := by decide +kernel
theorem fX10_init_951 : a_fetch 158 951 = some (.aload 0, 952) := by decide +kernel
theorem fX10_init_952 : a_fetch 158 952 = some (.iconst 5, 953) := by decide +kernel
theorem fX10_init_953 : a_fetch 158 953 = some (.newarray .char, 955) := by decide +kernel
theorem fX10_init_955 : a_fetch 158 955 = some (.dup, 956) := by decide +kernel
theorem fX10_init_956 : a_fetch 158 956 = some (.iconst 0, 957) := by decide +kernel
theorem fX10_init_957 : a_fetch 158 957 = some (.iconst 111, 959) := by decide +kernel
theorem fX10_init_959 : a_fetch 158 959 = some (.castore, 960) := by decide +kernel
theorem fX10_init_960 : a_fetch 158 960 = some (.dup, 961) := by decide +kernel
theorem fX10_init_961 : a_fetch 158 961 = some (.iconst 1, 962) := by decide +kernel
theorem fX10_init_962 : a_fetch 158 962 = some (.iconst 102, 964) := by decide +kernel
theorem fX10_init_964 : a_fetch 158 964 = some (.castore, 965) := by decide +kernel
theorem fX10_init_965 : a_fetch 158 965 = some (.dup, 966) := by decide +kernel
theorem fX10_init_966 : a_fetch 158 966 = some (.iconst 2, 967) := by decide +kernel
theorem fX10_init_967 : a_fetch 158 967 = some (.iconst 116, 969) := by decide +kernel
theorem fX10_init_969 : a_fetch 158 969 = some (.castore, 970) := by decide +kernel
theorem fX10_init_970 : a_fetch 158 970 = some (.dup, 971) := by decide +kernel
theorem fX10_init_971 : a_fetch 158 971 = some (.iconst 3, 972) := by decide +kernel
theorem fX10_init_972 : a_fetch 158 972 = some (.iconst 101, 974) := by decide +kernel
theorem fX10_init_974 : a_fetch 158 974 = some (.castore, 975) := by decide +kernel
theorem fX10_init_975 : a_fetch 158 975 = some (.dup, 976) := by decide +kernel
theorem fX10_init_976 : a_fetch 158 976 = some (.iconst 4, 977) := by decide +kernel
theorem fX10_init_977 : a_fetch 158 977 = some (.iconst 110, 979) := by decide +kernel
theorem fX10_init_979 : a_fetch 158 979 = some (.castore, 980) := by decide +kernel
theorem fX10_init_980 : a_fetch 158 980 = some (.multianewarray 10 77, 983) := by decide +kernel
theorem fX10_init_983 : a_fetch 158 983 = some (.aload 0, 984) := by decide +kernel
theorem fX10_init_984 : a_fetch 158 984 = some (.iconst 5, 985) := by decide +kernel
theorem fX10_init_985 : a_fetch 158 985 = some (.newarray .char, 987) := by decide +kernel
theorem fX10_init_987 : a_fetch 158 987 = some (.dup, 988) := by decide +kernel
theorem fX10_init_988 : a_fetch 158 988 = some (.iconst 0, 989) := by decide +kernel
theorem fX10_init_989 : a_fetch 158 989 = some (.iconst 116, 991) := by decide +kernel
theorem fX10_init_991 : a_fetch 158 991 = some (.castore, 992) := by decide +kernel
theorem fX10_init_992 : a_fetch 158 992 = some (.dup, 993) := by decide +kernel
theorem fX10_init_993 : a_fetch 158 993 = some (.iconst 1, 994) := by decide +kernel
theorem fX10_init_994 : a_fetch 158 994 = some (.iconst 111, 996) := by decide +kernel
theorem fX10_init_996 : a_fetch 158 996 = some (.castore, 997) := by decide +kernel
theorem fX10_init_997 : a_fetch 158 997 = some (.dup, 998) := by decide +kernel
theorem fX10_init_998 : a_fetch 158 998 = some (.iconst 2, 999) := by decide +kernel
theorem fX10_init_999 : a_fetch 158 999 = some (.iconst 116, 1001) := by decide +kernel
theorem fX10_init_1001 : a_fetch 158 1001 = some (.castore, 1002) := by decide +kernel
theorem fX10_init_1002 : a_fetch 158 1002 = some (.dup, 1003) := by decide +kernel
theorem fX10_init_1003 : a_fetch 158 1003 = some (.iconst 3, 1004) := by decide +kernel
theorem fX10_init_1004 : a_fetch 158 1004 = some (.iconst 97, 1006) := by decide +kernel
theorem fX10_init_1006 : a_fetch 158 1006 = some (.castore, 1007) := by decide +kernel
theorem fX10_init_1007 : a_fetch 158 1007 = some (.dup, 1008) := by decide +kernel
theorem fX10_init_1008 : a_fetch 158 1008 = some (.iconst 4, 1009) := by decide +kernel
theorem fX10_init_1009 : a_fetch 158 1009 = some (.iconst 108, 1011) := by decide +kernel
theorem fX10_init_1011 : a_fetch 158 1011 = some (.castore, 1012) := by decide +kernel
theorem fX10_init_1012 : a_fetch 158 1012 = some (.multianewarray 10 78, 1015) := by decide +kernel
theorem fX10_init_1015 : a_fetch 158 1015 = some (.aload 0, 1016) := by decide +kernel
theorem fX10_init_1016 : a_fetch 158 1016 = some (.iconst 4, 1017) := by decide +kernel
theorem fX10_init_1017 : a_fetch 158 1017 = some (.newarray .char, 1019) := by decide +kernel
theorem fX10_init_1019 : a_fetch 158 1019 = some (.dup, 1020) := by decide +kernel
theorem fX10_init_1020 : a_fetch 158 1020 = some (.iconst 0, 1021) := by decide +kernel
theorem fX10_init_1021 : a_fetch 158 1021 = some (.iconst 109, 1023) := by decide +kernel
theorem fX10_init_1023 : a_fetch 158 1023 = some (.castore, 1024) := by decide +kernel
theorem fX10_init_1024 : a_fetch 158 1024 = some (.dup, 1025) := by decide +kernel
theorem fX10_init_1025 : a_fetch 158 1025 = some (.iconst 1, 1026) := by decide +kernel
theorem fX10_init_1026 : a_fetch 158 1026 = some (.iconst 111, 1028) := by decide +kernel
theorem fX10_init_1028 : a_fetch 158 1028 = some (.castore, 1029) := by decide +kernel
theorem fX10_init_1029 : a_fetch 158 1029 = some (.dup, 1030) := by decide +kernel
theorem fX10_init_1030 : a_fetch 158 1030 = some (.iconst 2, 1031) := by decide +kernel
theorem fX10_init_1031 : a_fetch 158 1031 = some (.iconst 115, 1033) := by decide +kernel
theorem fX10_init_1033 : a_fetch 158 1033 = some (.castore, 1034) := by decide +kernel
theorem fX10_init_1034 : a_fetch 158 1034 = some (.dup, 1035) := by decide +kernel
theorem fX10_init_1035 : a_fetch 158 1035 = some (.iconst 3, 1036) := by decide +kernel
theorem fX10_init_1036 : a_fetch 158 1036 = some (.iconst 116, 1038) := by decide +kernel
theorem fX10_init_1038 : a_fetch 158 1038 = some (.castore, 1039) := by decide +kernel
theorem fX10_init_1039 : a_fetch 158 1039 = some (.multianewarray 10 79, 1042) := by decide +kernel
theorem fX10_init_1042 : a_fetch 158 1042 = some (.aload 0, 1043) := by decide +kernel
theorem fX10_init_1043 : a_fetch 158 1043 = some (.iconst 5, 1044) := by decide +kernel
theorem fX10_init_1044 : a_fetch 158 1044 = some (.newarray .char, 1046) := by decide +kernel
theorem fX10_init_1046 : a_fetch 158 1046 = some (.dup, 1047) := by decide +kernel
theorem fX10_init_1047 : a_fetch 158 1047 = some (.iconst 0, 1048) := by decide +kernel
theorem fX10_init_1048 : a_fetch 158 1048 = some (.iconst 108, 1050) := by decide +kernel
theorem fX10_init_1050 : a_fetch 158 1050 = some (.castore, 1051) := by decide +kernel
theorem fX10_init_1051 : a_fetch 158 1051 = some (.dup, 1052) := by decide +kernel
theorem fX10_init_1052 : a_fetch 158 1052 = some (.iconst 1, 1053) := by decide +kernel
theorem fX10_init_1053 : a_fetch 158 1053 = some (.iconst 101, 1055) := by decide +kernel
theorem fX10_init_1055 : a_fetch 158 1055 = some (.castore, 1056) := by decide +kernel
theorem fX10_init_1056 : a_fetch 158 1056 = some (.dup, 1057) := by decide +kernel
theorem fX10_init_1057 : a_fetch 158 1057 = some (.iconst 2, 1058) := by decide +kernel
theorem fX10_init_1058 : a_fetch 158 1058 = some (.iconst 97, 1060) := by decide +kernel
theorem fX10_init_1060 : a_fetch 158 1060 = some (.castore, 1061) := by decide +kernel
theorem fX10_init_1061 : a_fetch 158 1061 = some (.dup, 1062) := by decide +kernel
theorem fX10_init_1062 : a_fetch 158 1062 = some (.iconst 3, 1063) := by decide +kernel
theorem fX10_init_1063 : a_fetch 158 1063 = some (.iconst 115, 1065) := by decide +kernel
theorem fX10_init_1065 : a_fetch 158 1065 = some (.castore, 1066) := by decide +kernel
theorem fX10_init_1066 : a_fetch 158 1066 = some (.dup, 1067) := by decide +kernel
theorem fX10_init_1067 : a_fetch 158 1067 = some (.iconst 4, 1068) := by decide +kernel
theorem fX10_init_1068 : a_fetch 158 1068 = some (.iconst 116, 1070) := by decide +kernel
theorem fX10_init_1070 : a_fetch 158 1070 = some (.castore, 1071) := by decide +kernel
theorem fX10_init_1071 : a_fetch 158 1071 = some (.multianewarray 10 80, 1074) := by decide +kernel
theorem fX10_init_1074 : a_fetch 158 1074 = some (.aload 0, 1075) := by decide +kernel
theorem fX10_init_1075 : a_fetch 158 1075 = some (.iconst 3, 1076) := by decide +kernel
theorem fX10_init_1076 : a_fetch 158 1076 = some (.newarray .char, 1078) := by decide +kernel
theorem fX10_init_1078 : a_fetch 158 1078 = some (.dup, 1079) := by decide +kernel
theorem fX10_init_1079 : a_fetch 158 1079 = some (.iconst 0, 1080) := by decide +kernel
theorem fX10_init_1080 : a_fetch 158 1080 = some (.iconst 110, 1082) := by decide +kernel
theorem fX10_init_1082 : a_fetch 158 1082 = some (.castore, 1083) := by decide +kernel
theorem fX10_init_1083 : a_fetch 158 1083 = some (.dup, 1084) := by decide +kernel
theorem fX10_init_1084 : a_fetch 158 1084 = some (.iconst 1, 1085) := by decide +kernel
theorem fX10_init_1085 : a_fetch 158 1085 = some (.iconst 111, 1087) := by decide +kernel
theorem fX10_init_1087 : a_fetch 158 1087 = some (.castore, 1088) := by decide +kernel
theorem fX10_init_1088 : a_fetch 158 1088 = some (.dup, 1089) := by decide +kernel
theorem fX10_init_1089 : a_fetch 158 1089 = some (.iconst 2, 1090) := by decide +kernel
theorem fX10_init_1090 : a_fetch 158 1090 = some (.iconst 116, 1092) := by decide +kernel
theorem fX10_init_1092 : a_fetch 158 1092 = some (.castore, 1093) := by decide +kernel
theorem fX10_init_1093 : a_fetch 158 1093 = some (.multianewarray 10 81, 1096) := by decide +kernel
theorem fX10_init_1096 : a_fetch 158 1096 = some (.aload 0, 1097) := by decide +kernel
theorem fX10_init_1097 : a_fetch 158 1097 = some (.iconst 3, 1098) := by decide +kernel
theorem fX10_init_1098 : a_fetch 158 1098 = some (.newarray .char, 1100) := by decide +kernel
theorem fX10_init_1100 : a_fetch 158 1100 = some (.dup, 1101) := by decide +kernel
theorem fX10_init_1101 : a_fetch 158 1101 = some (.iconst 0, 1102) := by decide +kernel
theorem fX10_init_1102 : a_fetch 158 1102 = some (.iconst 97, 1104) := by decide +kernel
theorem fX10_init_1104 : a_fetch 158 1104 = some (.castore, 1105) := by decide +kernel
theorem fX10_init_1105 : a_fetch 158 1105 = some (.dup, 1106) := by decide +kernel
theorem fX10_init_1106 : a_fetch 158 1106 = some (.iconst 1, 1107) := by decide +kernel
theorem fX10_init_1107 : a_fetch 158 1107 = some (.iconst 110, 1109) := by decide +kernel
theorem fX10_init_1109 : a_fetch 158 1109 = some (.castore, 1110) := by decide +kernel
theorem fX10_init_1110 : a_fetch 158 1110 = some (.dup, 1111) := by decide +kernel
theorem fX10_init_1111 : a_fetch 158 1111 = some (.iconst 2, 1112) := by decide +kernel
theorem fX10_init_1112 : a_fetch 158 1112 = some (.iconst 100, 1114) := by decide +kernel
theorem fX10_init_1114 : a_fetch 158 1114 = some (.castore, 1115) := by decide +kernel
theorem fX10_init_1115 : a_fetch 158 1115 = some (.multianewarray 10 82, 1118) := by decide +kernel
theorem fX10_init_1118 : a_fetch 158 1118 = some (.aload 0, 1119) := by decide +kernel
theorem fX10_init_1119 : a_fetch 158 1119 = some (.iconst 2, 1120) := by decide +kernel
theorem fX10_init_1120 : a_fetch 158 1120 = some (.newarray .char, 1122) := by decide +kernel
theorem fX10_init_1122 : a_fetch 158 1122 = some (.dup, 1123) := by decide +kernel
theorem fX10_init_1123 : a_fetch 158 1123 = some (.iconst 0, 1124) := by decide +kernel
theorem fX10_init_1124 : a_fetch 158 1124 = some (.iconst 111, 1126) := by decide +kernel
theorem fX10_init_1126 : a_fetch 158 1126 = some (.castore, 1127) := by decide +kernel
theorem fX10_init_1127 : a_fetch 158 1127 = some (.dup, 1128) := by decide +kernel
theorem fX10_init_1128 : a_fetch 158 1128 = some (.iconst 1, 1129) := by decide +kernel
theorem fX10_init_1129 : a_fetch 158 1129 = some (.iconst 114, 1131) := by decide +kernel
theorem fX10_init_1131 : a_fetch 158 1131 = some (.castore, 1132) := by decide +kernel
theorem fX10_init_1132 : a_fetch 158 1132 = some (.multianewarray 10 83, 1135) := by decide +kernel
theorem fX10_init_1135 : a_fetch 158 1135 = some (.aload 0, 1136) := by decide +kernel
theorem fX10_init_1136 : a_fetch 158 1136 = some (.iconst 3, 1137) := by decide +kernel
theorem fX10_init_1137 : a_fetch 158 1137 = some (.newarray .char, 1139) := by decide +kernel
theorem fX10_init_1139 : a_fetch 158 1139 = some (.dup, 1140) := by decide +kernel
theorem fX10_init_1140 : a_fetch 158 1140 = some (.iconst 0, 1141) := by decide +kernel
theorem fX10_init_1141 : a_fetch 158 1141 = some (.iconst 97, 1143) := by decide +kernel
theorem fX10_init_1143 : a_fetch 158 1143 = some (.castore, 1144) := by decide +kernel
theorem fX10_init_1144 : a_fetch 158 1144 = some (.dup, 1145) := by decide +kernel
theorem fX10_init_1145 : a_fetch 158 1145 = some (.iconst 1, 1146) := by decide +kernel
theorem fX10_init_1146 : a_fetch 158 1146 = some (.iconst 108, 1148) := by decide +kernel
theorem fX10_init_1148 : a_fetch 158 1148 = some (.castore, 1149) := by decide +kernel
theorem fX10_init_1149 : a_fetch 158 1149 = some (.dup, 1150) := by decide +kernel
theorem fX10_init_1150 : a_fetch 158 1150 = some (.iconst 2, 1151) := by decide +kernel
theorem fX10_init_1151 : a_fetch 158 1151 = some (.iconst 108, 1153) := by decide +kernel
theorem fX10_init_1153 : a_fetch 158 1153 = some (.castore, 1154) := by decide +kernel
theorem fX10_init_1154 : a_fetch 158 1154 = some (.multianewarray 10 84, 1157) := by decide +kernel
theorem fX10_init_1157 : a_fetch 158 1157 = some (.aload 0, 1158) := by decide +kernel
theorem fX10_init_1158 : a_fetch 158 1158 = some (.iconst 3, 1159) := by decide +kernel
theorem fX10_init_1159 : a_fetch 158 1159 = some (.newarray .char, 1161) := by decide +kernel
theorem fX10_init_1161 : a_fetch 158 1161 = some (.dup, 1162) := by decide +kernel
theorem fX10_init_1162 : a_fetch 158 1162 = some (.iconst 0, 1163) := by decide +kernel
theorem fX10_init_1163 : a_fetch 158 1163 = some (.iconst 109, 1165) := by decide +kernel
theorem fX10_init_1165 : a_fetch 158 1165 = some (.castore, 1166) := by decide +kernel
theorem fX10_init_1166 : a_fetch 158 1166 = some (.dup, 1167) := by decide +kernel
theorem fX10_init_1167 : a_fetch 158 1167 = some (.iconst 1, 1168) := by decide +kernel
theorem fX10_init_1168 : a_fetch 158 1168 = some (.iconst 105, 1170) := by decide +kernel
theorem fX10_init_1170 : a_fetch 158 1170 = some (.castore, 1171) := by decide +kernel
theorem fX10_init_1171 : a_fetch 158 1171 = some (.dup, 1172) := by decide +kernel
theorem fX10_init_1172 : a_fetch 158 1172 = some (.iconst 2, 1173) := by decide +kernel
theorem fX10_init_1173 : a_fetch 158 1173 = some (.iconst 110, 1175) := by decide +kernel
theorem fX10_init_1175 : a_fetch 158 1175 = some (.castore, 1176) := by decide +kernel
theorem fX10_init_1176 : a_fetch 158 1176 = some (.multianewarray 10 85, 1179) := by decide +kernel
theorem fX10_init_1179 : a_fetch 158 1179 = some (.aload 0, 1180) := by decide +kernel
theorem fX10_init_1180 : a_fetch 158 1180 = some (.iconst 3, 1181) := by decide +kernel
theorem fX10_init_1181 : a_fetch 158 1181 = some (.newarray .char, 1183) := by decide +kernel
theorem fX10_init_1183 : a_fetch 158 1183 = some (.dup, 1184) := by decide +kernel
theorem fX10_init_1184 : a_fetch 158 1184 = some (.iconst 0, 1185) := by decide +kernel
theorem fX10_init_1185 : a_fetch 158 1185 = some (.iconst 109, 1187) := by decide +kernel
theorem fX10_init_1187 : a_fetch 158 1187 = some (.castore, 1188) := by decide +kernel
theorem fX10_init_1188 : a_fetch 158 1188 = some (.dup, 1189) := by decide +kernel
theorem fX10_init_1189 : a_fetch 158 1189 = some (.iconst 1, 1190) := by decide +kernel
theorem fX10_init_1190 : a_fetch 158 1190 = some (.iconst 97, 1192) := by decide +kernel
theorem fX10_init_1192 : a_fetch 158 1192 = some (.castore, 1193) := by decide +kernel
theorem fX10_init_1193 : a_fetch 158 1193 = some (.dup, 1194) := by decide +kernel
theorem fX10_init_1194 : a_fetch 158 1194 = some (.iconst 2, 1195) := by decide +kernel
theorem fX10_init_1195 : a_fetch 158 1195 = some (.iconst 120, 1197) := by decide +kernel
theorem fX10_init_1197 : a_fetch 158 1197 = some (.castore, 1198) := by decide +kernel
theorem fX10_init_1198 : a_fetch 158 1198 = some (.multianewarray 10 86, 1201) := by decide +kernel
theorem fX10_init_1201 : a_fetch 158 1201 = some (.aload 0, 1202) := by decide +kernel
theorem fX10_init_1202 : a_fetch 158 1202 = some (.iconst 5, 1203) := by decide +kernel
theorem fX10_init_1203 : a_fetch 158 1203 = some (.newarray .char, 1205) := by decide +kernel
theorem fX10_init_1205 : a_fetch 158 1205 = some (.dup, 1206) := by decide +kernel
theorem fX10_init_1206 : a_fetch 158 1206 = some (.iconst 0, 1207) := by decide +kernel
theorem fX10_init_1207 : a_fetch 158 1207 = some (.iconst 99, 1209) := by decide +kernel
theorem fX10_init_1209 : a_fetch 158 1209 = some (.castore, 1210) := by decide +kernel
theorem fX10_init_1210 : a_fetch 158 1210 = some (.dup, 1211) := by decide +kernel
theorem fX10_init_1211 : a_fetch 158 1211 = some (.iconst 1, 1212) := by decide +kernel
theorem fX10_init_1212 : a_fetch 158 1212 = some (.iconst 108, 1214) := by decide +kernel
theorem fX10_init_1214 : a_fetch 158 1214 = some (.castore, 1215) := by decide +kernel
theorem fX10_init_1215 : a_fetch 158 1215 = some (.dup, 1216) := by decide +kernel
theorem fX10_init_1216 : a_fetch 158 1216 = some (.iconst 2, 1217) := by decide +kernel
theorem fX10_init_1217 : a_fetch 158 1217 = some (.iconst 111, 1219) := by decide +kernel
theorem fX10_init_1219 : a_fetch 158 1219 = some (.castore, 1220) := by decide +kernel
theorem fX10_init_1220 : a_fetch 158 1220 = some (.dup, 1221) := by decide +kernel
theorem fX10_init_1221 : a_fetch 158 1221 = some (.iconst 3, 1222) := by decide +kernel
theorem fX10_init_1222 : a_fetch 158 1222 = some (.iconst 99, 1224) := by decide +kernel
theorem fX10_init_1224 : a_fetch 158 1224 = some (.castore, 1225) := by decide +kernel
theorem fX10_init_1225 : a_fetch 158 1225 = some (.dup, 1226) := by decide +kernel
theorem fX10_init_1226 : a_fetch 158 1226 = some (.iconst 4, 1227) := by decide +kernel
theorem fX10_init_1227 : a_fetch 158 1227 = some (.iconst 107, 1229) := by decide +kernel
theorem fX10_init_1229 : a_fetch 158 1229 = some (.castore, 1230) := by decide +kernel
theorem fX10_init_1230 : a_fetch 158 1230 = some (.multianewarray 10 87, 1233) := by decide +kernel
theorem fX10_init_1233 : a_fetch 158 1233 = some (.aload 0, 1234) := by decide +kernel
theorem fX10_init_1234 : a_fetch 158 1234 = some (.iconst 3, 1235) := by decide +kernel
theorem fX10_init_1235 : a_fetch 158 1235 = some (.newarray .char, 1237) := by decide +kernel
theorem fX10_init_1237 : a_fetch 158 1237 = some (.dup, 1238) := by decide +kernel
theorem fX10_init_1238 : a_fetch 158 1238 = some (.iconst 0, 1239) := by decide +kernel
theorem fX10_init_1239 : a_fetch 158 1239 = some (.iconst 100, 1241) := by decide +kernel
theorem fX10_init_1241 : a_fetch 158 1241 = some (.castore, 1242) := by decide +kernel
theorem fX10_init_1242 : a_fetch 158 1242 = some (.dup, 1243) := by decide +kernel
theorem fX10_init_1243 : a_fetch 158 1243 = some (.iconst 1, 1244) := by decide +kernel
theorem fX10_init_1244 : a_fetch 158 1244 = some (.iconst 97, 1246) := by decide +kernel
theorem fX10_init_1246 : a_fetch 158 1246 = some (.castore, 1247) := by decide +kernel
theorem fX10_init_1247 : a_fetch 158 1247 = some (.dup, 1248) := by decide +kernel
theorem fX10_init_1248 : a_fetch 158 1248 = some (.iconst 2, 1249) := by decide +kernel
theorem fX10_init_1249 : a_fetch 158 1249 = some (.iconst 121, 1251) := by decide +kernel
theorem fX10_init_1251 : a_fetch 158 1251 = some (.castore, 1252) := by decide +kernel
theorem fX10_init_1252 : a_fetch 158 1252 = some (.multianewarray 10 88, 1255) := by decide +kernel
theorem fX10_init_1255 : a_fetch 158 1255 = some (.aload 0, 1256) := by decide +kernel
theorem fX10_init_1256 : a_fetch 158 1256 = some (.iconst 6, 1258) := by decide +kernel
theorem fX10_init_1258 : a_fetch 158 1258 = some (.newarray .char, 1260) := by decide +kernel
theorem fX10_init_1260 : a_fetch 158 1260 = some (.dup, 1261) := by decide +kernel
theorem fX10_init_1261 : a_fetch 158 1261 = some (.iconst 0, 1262) := by decide +kernel
theorem fX10_init_1262 : a_fetch 158 1262 = some (.iconst 112, 1264) := by decide +kernel
theorem fX10_init_1264 : a_fetch 158 1264 = some (.castore, 1265) := by decide +kernel
theorem fX10_init_1265 : a_fetch 158 1265 = some (.dup, 1266) := by decide +kernel
theorem fX10_init_1266 : a_fetch 158 1266 = some (.iconst 1, 1267) := by decide +kernel
theorem fX10_init_1267 : a_fetch 158 1267 = some (.iconst 111, 1269) := by decide +kernel
theorem fX10_init_1269 : a_fetch 158 1269 = some (.castore, 1270) := by decide +kernel
theorem fX10_init_1270 : a_fetch 158 1270 = some (.dup, 1271) := by decide +kernel
theorem fX10_init_1271 : a_fetch 158 1271 = some (.iconst 2, 1272) := by decide +kernel
theorem fX10_init_1272 : a_fetch 158 1272 = some (.iconst 105, 1274) := by decide +kernel
theorem fX10_init_1274 : a_fetch 158 1274 = some (.castore, 1275) := by decide +kernel
theorem fX10_init_1275 : a_fetch 158 1275 = some (.dup, 1276) := by decide +kernel
theorem fX10_init_1276 : a_fetch 158 1276 = some (.iconst 3, 1277) := by decide +kernel
theorem fX10_init_1277 : a_fetch 158 1277 = some (.iconst 110, 1279) := by decide +kernel
theorem fX10_init_1279 : a_fetch 158 1279 = some (.castore, 1280) := by decide +kernel
theorem fX10_init_1280 : a_fetch 158 1280 = some (.dup, 1281) := by decide +kernel
theorem fX10_init_1281 : a_fetch 158 1281 = some (.iconst 4, 1282) := by decide +kernel
theorem fX10_init_1282 : a_fetch 158 1282 = some (.iconst 116, 1284) := by decide +kernel
theorem fX10_init_1284 : a_fetch 158 1284 = some (.castore, 1285) := by decide +kernel
theorem fX10_init_1285 : a_fetch 158 1285 = some (.dup, 1286) := by decide +kernel
theorem fX10_init_1286 : a_fetch 158 1286 = some (.iconst 5, 1287) := by decide +kernel
theorem fX10_init_1287 : a_fetch 158 1287 = some (.iconst 115, 1289) := by decide +kernel
theorem fX10_init_1289 : a_fetch 158 1289 = some (.castore, 1290) := by decide +kernel
theorem fX10_init_1290 : a_fetch 158 1290 = some (.multianewarray 10 89, 1293) := by decide +kernel
theorem fX10_init_1293 : a_fetch 158 1293 = some (.aload 0, 1294) := by decide +kernel
theorem fX10_init_1294 : a_fetch 158 1294 = some (.iconst 4, 1295) := by decide +kernel
theorem fX10_init_1295 : a_fetch 158 1295 = some (.newarray .char, 1297) := by decide +kernel
theorem fX10_init_1297 : a_fetch 158 1297 = some (.dup, 1298) := by decide +kernel
theorem fX10_init_1298 : a_fetch 158 1298 = some (.iconst 0, 1299) := by decide +kernel
theorem fX10_init_1299 : a_fetch 158 1299 = some (.iconst 115, 1301) := by decide +kernel
theorem fX10_init_1301 : a_fetch 158 1301 = some (.castore, 1302) := by decide +kernel
theorem fX10_init_1302 : a_fetch 158 1302 = some (.dup, 1303) := by decide +kernel
theorem fX10_init_1303 : a_fetch 158 1303 = some (.iconst 1, 1304) := by decide +kernel
theorem fX10_init_1304 : a_fetch 158 1304 = some (.iconst 97, 1306) := by decide +kernel
theorem fX10_init_1306 : a_fetch 158 1306 = some (.castore, 1307) := by decide +kernel
theorem fX10_init_1307 : a_fetch 158 1307 = some (.dup, 1308) := by decide +kernel
theorem fX10_init_1308 : a_fetch 158 1308 = some (.iconst 2, 1309) := by decide +kernel
theorem fX10_init_1309 : a_fetch 158 1309 = some (.iconst 109, 1311) := by decide +kernel
theorem fX10_init_1311 : a_fetch 158 1311 = some (.castore, 1312) := by decide +kernel
theorem fX10_init_1312 : a_fetch 158 1312 = some (.dup, 1313) := by decide +kernel
theorem fX10_init_1313 : a_fetch 158 1313 = some (.iconst 3, 1314) := by decide +kernel
theorem fX10_init_1314 : a_fetch 158 1314 = some (.iconst 101, 1316) := by decide +kernel
theorem fX10_init_1316 : a_fetch 158 1316 = some (.castore, 1317) := by decide +kernel
theorem fX10_init_1317 : a_fetch 158 1317 = some (.multianewarray 10 90, 1320) := by decide +kernel
theorem fX10_init_1320 : a_fetch 158 1320 = some (.aload 0, 1321) := by decide +kernel
theorem fX10_init_1321 : a_fetch 158 1321 = some (.iconst 4, 1322) := by decide +kernel
theorem fX10_init_1322 : a_fetch 158 1322 = some (.newarray .char, 1324) := by decide +kernel
theorem fX10_init_1324 : a_fetch 158 1324 = some (.dup, 1325) := by decide +kernel
theorem fX10_init_1325 : a_fetch 158 1325 = some (.iconst 0, 1326) := by decide +kernel
theorem fX10_init_1326 : a_fetch 158 1326 = some (.iconst 104, 1328) := by decide +kernel
theorem fX10_init_1328 : a_fetch 158 1328 = some (.castore, 1329) := by decide +kernel
theorem fX10_init_1329 : a_fetch 158 1329 = some (.dup, 1330) := by decide +kernel
theorem fX10_init_1330 : a_fetch 158 1330 = some (.iconst 1, 1331) := by decide +kernel
theorem fX10_init_1331 : a_fetch 158 1331 = some (.iconst 97, 1333) := by decide +kernel
theorem fX10_init_1333 : a_fetch 158 1333 = some (.castore, 1334) := by decide +kernel
theorem fX10_init_1334 : a_fetch 158 1334 = some (.dup, 1335) := by decide +kernel
theorem fX10_init_1335 : a_fetch 158 1335 = some (.iconst 2, 1336) := by decide +kernel
theorem fX10_init_1336 : a_fetch 158 1336 = some (.iconst 114, 1338) := by decide +kernel
theorem fX10_init_1338 : a_fetch 158 1338 = some (.castore, 1339) := by decide +kernel
theorem fX10_init_1339 : a_fetch 158 1339 = some (.dup, 1340) := by decide +kernel
theorem fX10_init_1340 : a_fetch 158 1340 = some (.iconst 3, 1341) := by decide +kernel
theorem fX10_init_1341 : a_fetch 158 1341 = some (.iconst 100, 1343) := by decide +kernel
theorem fX10_init_1343 : a_fetch 158 1343 = some (.castore, 1344) := by decide +kernel
theorem fX10_init_1344 : a_fetch 158 1344 = some (.multianewarray 10 91, 1347) := by decide +kernel
theorem fX10_init_1347 : a_fetch 158 1347 = some (.aload 0, 1348) := by decide +kernel
theorem fX10_init_1348 : a_fetch 158 1348 = some (.iconst 3, 1349) := by decide +kernel
theorem fX10_init_1349 : a_fetch 158 1349 = some (.newarray .char, 1351) := by decide +kernel
theorem fX10_init_1351 : a_fetch 158 1351 = some (.dup, 1352) := by decide +kernel
theorem fX10_init_1352 : a_fetch 158 1352 = some (.iconst 0, 1353) := by decide +kernel
theorem fX10_init_1353 : a_fetch 158 1353 = some (.iconst 111, 1355) := by decide +kernel
theorem fX10_init_1355 : a_fetch 158 1355 = some (.castore, 1356) := by decide +kernel
theorem fX10_init_1356 : a_fetch 158 1356 = some (.dup, 1357) := by decide +kernel
theorem fX10_init_1357 : a_fetch 158 1357 = some (.iconst 1, 1358) := by decide +kernel
theorem fX10_init_1358 : a_fetch 158 1358 = some (.iconst 119, 1360) := by decide +kernel
theorem fX10_init_1360 : a_fetch 158 1360 = some (.castore, 1361) := by decide +kernel
theorem fX10_init_1361 : a_fetch 158 1361 = some (.dup, 1362) := by decide +kernel
theorem fX10_init_1362 : a_fetch 158 1362 = some (.iconst 2, 1363) := by decide +kernel
theorem fX10_init_1363 : a_fetch 158 1363 = some (.iconst 110, 1365) := by decide +kernel
theorem fX10_init_1365 : a_fetch 158 1365 = some (.castore, 1366) := by decide +kernel
theorem fX10_init_1366 : a_fetch 158 1366 = some (.multianewarray 10 92, 1369) := by decide +kernel
theorem fX10_init_1369 : a_fetch 158 1369 = some (.aload 0, 1370) := by decide +kernel
theorem fX10_init_1370 : a_fetch 158 1370 = some (.iconst 6, 1372) := by decide +kernel
theorem fX10_init_1372 : a_fetch 158 1372 = some (.newarray .char, 1374) := by decide +kernel
theorem fX10_init_1374 : a_fetch 158 1374 = some (.dup, 1375) := by decide +kernel
theorem fX10_init_1375 : a_fetch 158 1375 = some (.iconst 0, 1376) := by decide +kernel
theorem fX10_init_1376 : a_fetch 158 1376 = some (.iconst 116, 1378) := by decide +kernel
theorem fX10_init_1378 : a_fetch 158 1378 = some (.castore, 1379) := by decide +kernel
theorem fX10_init_1379 : a_fetch 158 1379 = some (.dup, 1380) := by decide +kernel
theorem fX10_init_1380 : a_fetch 158 1380 = some (.iconst 1, 1381) := by decide +kernel
theorem fX10_init_1381 : a_fetch 158 1381 = some (.iconst 104, 1383) := by decide +kernel
theorem fX10_init_1383 : a_fetch 158 1383 = some (.castore, 1384) := by decide +kernel
theorem fX10_init_1384 : a_fetch 158 1384 = some (.dup, 1385) := by decide +kernel
theorem fX10_init_1385 : a_fetch 158 1385 = some (.iconst 2, 1386) := by decide +kernel
theorem fX10_init_1386 : a_fetch 158 1386 = some (.iconst 101, 1388) := by decide +kernel
theorem fX10_init_1388 : a_fetch 158 1388 = some (.castore, 1389) := by decide +kernel
theorem fX10_init_1389 : a_fetch 158 1389 = some (.dup, 1390) := by decide +kernel
theorem fX10_init_1390 : a_fetch 158 1390 = some (.iconst 3, 1391) := by decide +kernel
theorem fX10_init_1391 : a_fetch 158 1391 = some (.iconst 105, 1393) := by decide +kernel
theorem fX10_init_1393 : a_fetch 158 1393 = some (.castore, 1394) := by decide +kernel
theorem fX10_init_1394 : a_fetch 158 1394 = some (.dup, 1395) := by decide +kernel
theorem fX10_init_1395 : a_fetch 158 1395 = some (.iconst 4, 1396) := by decide +kernel
theorem fX10_init_1396 : a_fetch 158 1396 = some (.iconst 114, 1398) := by decide +kernel
theorem fX10_init_1398 : a_fetch 158 1398 = some (.castore, 1399) := by decide +kernel
theorem fX10_init_1399 : a_fetch 158 1399 = some (.dup, 1400) := by decide +kernel
theorem fX10_init_1400 : a_fetch 158 1400 = some (.iconst 5, 1401) := by decide +kernel
theorem fX10_init_1401 : a_fetch 158 1401 = some (.iconst 115, 1403) := by decide +kernel
theorem fX10_init_1403 : a_fetch 158 1403 = some (.castore, 1404) := by decide +kernel
theorem fX10_init_1404 : a_fetch 158 1404 = some (.multianewarray 10 93, 1407) := by decide +kernel
theorem fX10_init_1407 : a_fetch 158 1407 = some (.aload 0, 1408) := by decide +kernel
theorem fX10_init_1408 : a_fetch 158 1408 = some (.iconst 4, 1409) := by decide +kernel
theorem fX10_init_1409 : a_fetch 158 1409 = some (.newarray .char, 1411) := by decide +kernel
theorem fX10_init_1411 : a_fetch 158 1411 = some (.dup, 1412) := by decide +kernel
theorem fX10_init_1412 : a_fetch 158 1412 = some (.iconst 0, 1413) := by decide +kernel
theorem fX10_init_1413 : a_fetch 158 1413 = some (.iconst 104, 1415) := by decide +kernel
theorem fX10_init_1415 : a_fetch 158 1415 = some (.castore, 1416) := by decide +kernel
theorem fX10_init_1416 : a_fetch 158 1416 = some (.dup, 1417) := by decide +kernel
theorem fX10_init_1417 : a_fetch 158 1417 = some (.iconst 1, 1418) := by decide +kernel
theorem fX10_init_1418 : a_fetch 158 1418 = some (.iconst 111, 1420) := by decide +kernel
theorem fX10_init_1420 : a_fetch 158 1420 = some (.castore, 1421) := by decide +kernel
theorem fX10_init_1421 : a_fetch 158 1421 = some (.dup, 1422) := by decide +kernel
theorem fX10_init_1422 : a_fetch 158 1422 = some (.iconst 2, 1423) := by decide +kernel
theorem fX10_init_1423 : a_fetch 158 1423 = some (.iconst 117, 1425) := by decide +kernel
theorem fX10_init_1425 : a_fetch 158 1425 = some (.castore, 1426) := by decide +kernel
theorem fX10_init_1426 : a_fetch 158 1426 = some (.dup, 1427) := by decide +kernel
theorem fX10_init_1427 : a_fetch 158 1427 = some (.iconst 3, 1428) := by decide +kernel
theorem fX10_init_1428 : a_fetch 158 1428 = some (.iconst 114, 1430) := by decide +kernel
theorem fX10_init_1430 : a_fetch 158 1430 = some (.castore, 1431) := by decide +kernel
theorem fX10_init_1431 : a_fetch 158 1431 = some (.multianewarray 10 94, 1434) := by decide +kernel
theorem fX10_init_1434 : a_fetch 158 1434 = some (.aload 0, 1435) := by decide +kernel
theorem fX10_init_1435 : a_fetch 158 1435 = some (.iconst 4, 1436) := by decide +kernel
theorem fX10_init_1436 : a_fetch 158 1436 = some (.newarray .char, 1438) := by decide +kernel
theorem fX10_init_1438 : a_fetch 158 1438 = some (.dup, 1439) := by decide +kernel
theorem fX10_init_1439 : a_fetch 158 1439 = some (.iconst 0, 1440) := by decide +kernel
theorem fX10_init_1440 : a_fetch 158 1440 = some (.iconst 108, 1442) := by decide +kernel
theorem fX10_init_1442 : a_fetch 158 1442 = some (.castore, 1443) := by decide +kernel
theorem fX10_init_1443 : a_fetch 158 1443 = some (.dup, 1444) := by decide +kernel
theorem fX10_init_1444 : a_fetch 158 1444 = some (.iconst 1, 1445) := by decide +kernel
theorem fX10_init_1445 : a_fetch 158 1445 = some (.iconst 105, 1447) := by decide +kernel
theorem fX10_init_1447 : a_fetch 158 1447 = some (.castore, 1448) := by decide +kernel
theorem fX10_init_1448 : a_fetch 158 1448 = some (.dup, 1449) := by decide +kernel
theorem fX10_init_1449 : a_fetch 158 1449 = some (.iconst 2, 1450) := by decide +kernel
theorem fX10_init_1450 : a_fetch 158 1450 = some (.iconst 102, 1452) := by decide +kernel
theorem fX10_init_1452 : a_fetch 158 1452 = some (.castore, 1453) := by decide +kernel
theorem fX10_init_1453 : a_fetch 158 1453 = some (.dup, 1454) := by decide +kernel
theorem fX10_init_1454 : a_fetch 158 1454 = some (.iconst 3, 1455) := by decide +kernel
theorem fX10_init_1455 : a_fetch 158 1455 = some (.iconst 101, 1457) := by decide +kernel
theorem fX10_init_1457 : a_fetch 158 1457 = some (.castore, 1458) := by decide +kernel
theorem fX10_init_1458 : a_fetch 158 1458 = some (.multianewarray 10 95, 1461) := by decide +kernel
theorem fX10_init_1461 : a_fetch 158 1461 = some (.aload 0, 1462) := by decide +kernel
theorem fX10_init_1462 : a_fetch 158 1462 = some (.iconst 5, 1463) := by decide +kernel
theorem fX10_init_1463 : a_fetch 158 1463 = some (.newarray .char, 1465) := by decide +kernel
theorem fX10_init_1465 : a_fetch 158 1465 = some (.dup, 1466) := by decide +kernel
theorem fX10_init_1466 : a_fetch 158 1466 = some (.iconst 0, 1467) := by decide +kernel
theorem fX10_init_1467 : a_fetch 158 1467 = some (.iconst 100, 1469) := by decide +kernel
theorem fX10_init_1469 : a_fetch 158 1469 = some (.castore, 1470) := by decide +kernel
theorem fX10_init_1470 : a_fetch 158 1470 = some (.dup, 1471) := by decide +kernel
theorem fX10_init_1471 : a_fetch 158 1471 = some (.iconst 1, 1472) := by decide +kernel
theorem fX10_init_1472 : a_fetch 158 1472 = some (.iconst 114, 1474) := by decide +kernel
theorem fX10_init_1474 : a_fetch 158 1474 = some (.castore, 1475) := by decide +kernel
theorem fX10_init_1475 : a_fetch 158 1475 = some (.dup, 1476) := by decide +kernel
theorem fX10_init_1476 : a_fetch 158 1476 = some (.iconst 2, 1477) := by decide +kernel
theorem fX10_init_1477 : a_fetch 158 1477 = some (.iconst 105, 1479) := by decide +kernel
theorem fX10_init_1479 : a_fetch 158 1479 = some (.castore, 1480) := by decide +kernel
theorem fX10_init_1480 : a_fetch 158 1480 = some (.dup, 1481) := by decide +kernel
theorem fX10_init_1481 : a_fetch 158 1481 = some (.iconst 3, 1482) := by decide +kernel
theorem fX10_init_1482 : a_fetch 158 1482 = some (.iconst 101, 1484) := by decide +kernel
theorem fX10_init_1484 : a_fetch 158 1484 = some (.castore, 1485) := by decide +kernel
theorem fX10_init_1485 : a_fetch 158 1485 = some (.dup, 1486) := by decide +kernel
theorem fX10_init_1486 : a_fetch 158 1486 = some (.iconst 4, 1487) := by decide +kernel
theorem fX10_init_1487 : a_fetch 158 1487 = some (.iconst 115, 1489) := by decide +kernel
theorem fX10_init_1489 : a_fetch 158 1489 = some (.castore, 1490) := by decide +kernel
theorem fX10_init_1490 : a_fetch 158 1490 = some (.multianewarray 10 96, 1493) := by decide +kernel
theorem fX10_init_1493 : a_fetch 158 1493 = some (.aload 0, 1494) := by decide +kernel
theorem fX10_init_1494 : a_fetch 158 1494 = some (.iconst 1700, 1497) := by decide +kernel
theorem fX10_init_1497 : a_fetch 158 1497 = some (.newarray .int, 1499) := by decide +kernel
theorem fX10_init_1499 : a_fetch 158 1499 = some (.multianewarray 10 97, 1502) := by decide +kernel
theorem fX10_init_1502 : a_fetch 158 1502 = some (.aload 0, 1503) := by decide +kernel
theorem fX10_init_1503 : a_fetch 158 1503 = some (.iconst 1700, 1506) := by decide +kernel
theorem fX10_init_1506 : a_fetch 158 1506 = some (.newarray .int, 1508) := by decide +kernel
theorem fX10_init_1508 : a_fetch 158 1508 = some (.multianewarray 10 99, 1511) := by decide +kernel
theorem fX10_init_1511 : a_fetch 158 1511 = some (.aload 0, 1512) := by decide +kernel
theorem fX10_init_1512 : a_fetch 158 1512 = some (.iconst 1700, 1515) := by decide +kernel
theorem fX10_init_1515 : a_fetch 158 1515 = some (.newarray .long, 1517) := by decide +kernel
theorem fX10_init_1517 : a_fetch 158 1517 = some (.multianewarray 10 103, 1520) := by decide +kernel
theorem fX10_init_1520 : a_fetch 158 1520 = some (.aload 0, 1521) := by decide +kernel
theorem fX10_init_1521 : a_fetch 158 1521 = some (.iconst 123, 1523) := by decide +kernel
theorem fX10_init_1523 : a_fetch 158 1523 = some (.newarray .int, 1525) := by decide +kernel
theorem fX10_init_1525 : a_fetch 158 1525 = some (.multianewarray 10 107, 1528) := by decide +kernel
theorem fX10_init_1528 : a_fetch 158 1528 = some (.return_, 1529) := by decide +kernel
theorem fX10_isIn_0 : a_fetch 159 0 = some (.lload 0, 1) := by decide +kernel
theorem fX10_isIn_1 : a_fetch 159 1 = some (.lload 2, 2) := by decide +kernel
theorem fX10_isIn_2 : a_fetch 159 2 = some (.lcmp, 3) := by decide +kernel
theorem fX10_isIn_3 : a_fetch 159 3 = some (.ifCond .lt 17, 6) := by decide +kernel
theorem fX10_isIn_6 : a_fetch 159 6 = some (.lload 0, 7) := by decide +kernel
theorem fX10_isIn_7 : a_fetch 159 7 = some (.lload 4, 9) := by decide +kernel
theorem fX10_isIn_9 : a_fetch 159 9 = some (.lcmp, 10) := by decide +kernel
theorem fX10_isIn_10 : a_fetch 159 10 = some (.ifCond .gt 17, 13) := by decide +kernel
theorem fX10_isIn_13 : a_fetch 159 13 = some (.iconst 1, 14) := by decide +kernel
theorem fX10_isIn_14 : a_fetch 159 14 = some (.goto 18, 17) := by decide +kernel
theorem fX10_isIn_17 : a_fetch 159 17 = some (.iconst 0, 18) := by decide +kernel
theorem fX10_isIn_18 : a_fetch 159 18 = some (.ireturn, 19) := by decide +kernel
theorem fX10_feed_0 : a_fetch 160 0 = some (.aload 0, 1) := by decide +kernel
theorem fX10_feed_1 : a_fetch 160 1 = some (.invokeinterface 10 1, 4) := by decide +kernel
theorem fX10_feed_4 : a_fetch 160 4 = some (.iconst 20, 6) := by decide +kernel
theorem fX10_feed_6 : a_fetch 160 6 = some (.iadd, 7) := by decide +kernel
theorem fX10_feed_7 : a_fetch 160 7 = some (.iconst 1600, 10) := by decide +kernel
theorem fX10_feed_10 : a_fetch 160 10 = some (.if_icmp .le 25, 13) := by decide +kernel
theorem fX10_feed_13 : a_fetch 160 13 = some (.aload 0, 14) := by decide +kernel
theorem fX10_feed_14 : a_fetch 160 14 = some (.invokeinterface 10 9, 17) := by decide +kernel
theorem fX10_feed_17 : a_fetch 160 17 = some (.iconst 0, 18) := by decide +kernel
theorem fX10_feed_18 : a_fetch 160 18 = some (.dup2, 19) := by decide +kernel
theorem fX10_feed_19 : a_fetch 160 19 = some (.iaload, 20) := by decide +kernel
theorem fX10_feed_20 : a_fetch 160 20 = some (.iconst 1, 21) := by decide +kernel
theorem fX10_feed_21 : a_fetch 160 21 = some (.iadd, 22) := by decide +kernel
theorem fX10_feed_22 : a_fetch 160 22 = some (.iastore, 23) := by decide +kernel
theorem fX10_feed_23 : a_fetch 160 23 = some (.iconst (-1), 24) := by decide +kernel
theorem fX10_feed_24 : a_fetch 160 24 = some (.ireturn, 25) := by decide +kernel
theorem fX10_feed_25 : a_fetch 160 25 = some (.iconst 0, 26) := by decide +kernel
theorem fX10_feed_26 : a_fetch 160 26 = some (.istore 6, 28) := by decide +kernel
theorem fX10_feed_28 : a_fetch 160 28 = some (.iload 6, 30) := by decide +kernel
theorem fX10_feed_30 : a_fetch 160 30 = some (.iconst 20, 32) := by decide +kernel
theorem fX10_feed_32 : a_fetch 160 32 = some (.if_icmp .ge 124, 35) := by decide +kernel
theorem fX10_feed_35 : a_fetch 160 35 = some (.iload 6, 37) := by decide +kernel
theorem fX10_feed_37 : a_fetch 160 37 = some (.iconst 4, 38) := by decide +kernel
theorem fX10_feed_38 : a_fetch 160 38 = some (.if_icmp .ge 45, 41) := by decide +kernel
theorem fX10_feed_41 : a_fetch 160 41 = some (.iload 1, 42) := by decide +kernel
theorem fX10_feed_42 : a_fetch 160 42 = some (.goto 81, 45) := by decide +kernel
theorem fX10_feed_45 : a_fetch 160 45 = some (.iload 6, 47) := by decide +kernel
theorem fX10_feed_47 : a_fetch 160 47 = some (.iconst 8, 49) := by decide +kernel
theorem fX10_feed_49 : a_fetch 160 49 = some (.if_icmp .ge 56, 52) := by decide +kernel
theorem fX10_feed_52 : a_fetch 160 52 = some (.iload 2, 53) := by decide +kernel
theorem fX10_feed_53 : a_fetch 160 53 = some (.goto 81, 56) := by decide +kernel
theorem fX10_feed_56 : a_fetch 160 56 = some (.iload 6, 58) := by decide +kernel
theorem fX10_feed_58 : a_fetch 160 58 = some (.iconst 12, 60) := by decide +kernel
theorem fX10_feed_60 : a_fetch 160 60 = some (.if_icmp .ge 67, 63) := by decide +kernel
theorem fX10_feed_63 : a_fetch 160 63 = some (.iload 3, 64) := by decide +kernel
theorem fX10_feed_64 : a_fetch 160 64 = some (.goto 81, 67) := by decide +kernel
theorem fX10_feed_67 : a_fetch 160 67 = some (.iload 6, 69) := by decide +kernel
theorem fX10_feed_69 : a_fetch 160 69 = some (.iconst 16, 71) := by decide +kernel
theorem fX10_feed_71 : a_fetch 160 71 = some (.if_icmp .ge 79, 74) := by decide +kernel
theorem fX10_feed_74 : a_fetch 160 74 = some (.iload 4, 76) := by decide +kernel
theorem fX10_feed_76 : a_fetch 160 76 = some (.goto 81, 79) := by decide +kernel
theorem fX10_feed_79 : a_fetch 160 79 = some (.iload 5, 81) := by decide +kernel
theorem fX10_feed_81 : a_fetch 160 81 = some (.istore 7, 83) := by decide +kernel
theorem fX10_feed_83 : a_fetch 160 83 = some (.aload 0, 84) := by decide +kernel
theorem fX10_feed_84 : a_fetch 160 84 = some (.invokeinterface 10 0, 87) := by decide +kernel
theorem fX10_feed_87 : a_fetch 160 87 = some (.aload 0, 88) := by decide +kernel
theorem fX10_feed_88 : a_fetch 160 88 = some (.invokeinterface 10 1, 91) := by decide +kernel
theorem fX10_feed_91 : a_fetch 160 91 = some (.iload 7, 93) := by decide +kernel
theorem fX10_feed_93 : a_fetch 160 93 = some (.iconst 8, 95) := by decide +kernel
theorem fX10_feed_95 : a_fetch 160 95 = some (.iconst 3, 96) := by decide +kernel
theorem fX10_feed_96 : a_fetch 160 96 = some (.iload 6, 98) := by decide +kernel
theorem fX10_feed_98 : a_fetch 160 98 = some (.iconst 4, 99) := by decide +kernel
theorem fX10_feed_99 : a_fetch 160 99 = some (.irem, 100) := by decide +kernel
theorem fX10_feed_100 : a_fetch 160 100 = some (.isub, 101) := by decide +kernel
theorem fX10_feed_101 : a_fetch 160 101 = some (.imul, 102) := by decide +kernel
theorem fX10_feed_102 : a_fetch 160 102 = some (.ishr, 103) := by decide +kernel
theorem fX10_feed_103 : a_fetch 160 103 = some (.iconst 255, 106) := by decide +kernel
theorem fX10_feed_106 : a_fetch 160 106 = some (.iand, 107) := by decide +kernel
theorem fX10_feed_107 : a_fetch 160 107 = some (.iastore, 108) := by decide +kernel
theorem fX10_feed_108 : a_fetch 160 108 = some (.aload 0, 109) := by decide +kernel
theorem fX10_feed_109 : a_fetch 160 109 = some (.dup, 110) := by decide +kernel
theorem fX10_feed_110 : a_fetch 160 110 = some (.invokeinterface 10 1, 113) := by decide +kernel
theorem fX10_feed_113 : a_fetch 160 113 = some (.iconst 1, 114) := by decide +kernel
theorem fX10_feed_114 : a_fetch 160 114 = some (.iadd, 115) := by decide +kernel
theorem fX10_feed_115 : a_fetch 160 115 = some (.multianewarray 10 1, 118) := by decide +kernel
theorem fX10_feed_118 : a_fetch 160 118 = some (.iinc 6 1, 121) := by decide +kernel
theorem fX10_feed_121 : a_fetch 160 121 = some (.goto 28, 124) := by decide +kernel
theorem fX10_feed_124 : a_fetch 160 124 = some (.aload 0, 125) := by decide +kernel
theorem fX10_feed_125 : a_fetch 160 125 = some (.invokeinterface 10 1, 128) := by decide +kernel
theorem fX10_feed_128 : a_fetch 160 128 = some (.ireturn, 129) := by decide +kernel
theorem fX10_end_0 : a_fetch 161 0 = some (.iload 1, 1) := by decide +kernel
theorem fX10_end_1 : a_fetch 161 1 = some (.ifCond .lt 12, 4) := by decide +kernel
theorem fX10_end_4 : a_fetch 161 4 = some (.iload 1, 5) := by decide +kernel
theorem fX10_end_5 : a_fetch 161 5 = some (.aload 0, 6) := by decide +kernel
theorem fX10_end_6 : a_fetch 161 6 = some (.invokeinterface 10 1, 9) := by decide +kernel
theorem fX10_end_9 : a_fetch 161 9 = some (.if_icmp .le 24, 12) := by decide +kernel
theorem fX10_end_12 : a_fetch 161 12 = some (.aload 0, 13) := by decide +kernel
theorem fX10_end_13 : a_fetch 161 13 = some (.invokeinterface 10 9, 16) := by decide +kernel
theorem fX10_end_16 : a_fetch 161 16 = some (.iconst 0, 17) := by decide +kernel
theorem fX10_end_17 : a_fetch 161 17 = some (.dup2, 18) := by decide +kernel
theorem fX10_end_18 : a_fetch 161 18 = some (.iaload, 19) := by decide +kernel
theorem fX10_end_19 : a_fetch 161 19 = some (.iconst 1, 20) := by decide +kernel
theorem fX10_end_20 : a_fetch 161 20 = some (.iadd, 21) := by decide +kernel
theorem fX10_end_21 : a_fetch 161 21 = some (.iastore, 22) := by decide +kernel
theorem fX10_end_22 : a_fetch 161 22 = some (.iconst 0, 23) := by decide +kernel
theorem fX10_end_23 : a_fetch 161 23 = some (.ireturn, 24) := by decide +kernel
theorem fX10_end_24 : a_fetch 161 24 = some (.aload 0, 25) := by decide +kernel
theorem fX10_end_25 : a_fetch 161 25 = some (.iload 1, 26) := by decide +kernel
theorem fX10_end_26 : a_fetch 161 26 = some (.multianewarray 10 1, 29) := by decide +kernel
theorem fX10_end_29 : a_fetch 161 29 = some (.iconst 1, 30) := by decide +kernel
theorem fX10_end_30 : a_fetch 161 30 = some (.ireturn, 31) := by decide +kernel
theorem fX10_fail_0 : a_fetch 162 0 = some (.aload 0, 1) := by decide +kernel
theorem fX10_fail_1 : a_fetch 162 1 = some (.invokeinterface 10 5, 4) := by decide +kernel
theorem fX10_fail_4 : a_fetch 162 4 = some (.ifCond .eq 8, 7) := by decide +kernel
theorem fX10_fail_7 : a_fetch 162 7 = some (.return_, 8) := by decide +kernel
theorem fX10_fail_8 : a_fetch 162 8 = some (.aload 0, 9) := by decide +kernel
theorem fX10_fail_9 : a_fetch 162 9 = some (.iload 1, 10) := by decide +kernel
theorem fX10_fail_10 : a_fetch 162 10 = some (.multianewarray 10 5, 13) := by decide +kernel
theorem fX10_fail_13 : a_fetch 162 13 = some (.aload 0, 14) := by decide +kernel
theorem fX10_fail_14 : a_fetch 162 14 = some (.iload 2, 15) := by decide +kernel
theorem fX10_fail_15 : a_fetch 162 15 = some (.multianewarray 10 6, 18) := by decide +kernel
theorem fX10_fail_18 : a_fetch 162 18 = some (.return_, 19) := by decide +kernel
theorem fX10_isLetter_0 : a_fetch 163 0 = some (.iload 0, 1) := by decide +kernel
theorem fX10_isLetter_1 : a_fetch 163 1 = some (.iconst 97, 3) := by decide +kernel
theorem fX10_isLetter_3 : a_fetch 163 3 = some (.if_icmp .lt 16, 6) := by decide +kernel
theorem fX10_isLetter_6 : a_fetch 163 6 = some (.iload 0, 7) := by decide +kernel
theorem fX10_isLetter_7 : a_fetch 163 7 = some (.iconst 122, 9) := by decide +kernel
theorem fX10_isLetter_9 : a_fetch 163 9 = some (.if_icmp .gt 16, 12) := by decide +kernel
theorem fX10_isLetter_12 : a_fetch 163 12 = some (.iconst 1, 13) := by decide +kernel
theorem fX10_isLetter_13 : a_fetch 163 13 = some (.goto 17, 16) := by decide +kernel
theorem fX10_isLetter_16 : a_fetch 163 16 = some (.iconst 0, 17) := by decide +kernel
theorem fX10_isLetter_17 : a_fetch 163 17 = some (.ireturn, 18) := by decide +kernel
theorem fX10_isDigit_0 : a_fetch 164 0 = some (.iload 0, 1) := by decide +kernel
theorem fX10_isDigit_1 : a_fetch 164 1 = some (.iconst 48, 3) := by decide +kernel
theorem fX10_isDigit_3 : a_fetch 164 3 = some (.if_icmp .lt 16, 6) := by decide +kernel
theorem fX10_isDigit_6 : a_fetch 164 6 = some (.iload 0, 7) := by decide +kernel
theorem fX10_isDigit_7 : a_fetch 164 7 = some (.iconst 57, 9) := by decide +kernel
theorem fX10_isDigit_9 : a_fetch 164 9 = some (.if_icmp .gt 16, 12) := by decide +kernel
theorem fX10_isDigit_12 : a_fetch 164 12 = some (.iconst 1, 13) := by decide +kernel
theorem fX10_isDigit_13 : a_fetch 164 13 = some (.goto 17, 16) := by decide +kernel
theorem fX10_isDigit_16 : a_fetch 164 16 = some (.iconst 0, 17) := by decide +kernel
theorem fX10_isDigit_17 : a_fetch 164 17 = some (.ireturn, 18) := by decide +kernel
theorem fX10_look_0 : a_fetch 165 0 = some (.aload 0, 1) := by decide +kernel
theorem fX10_look_1 : a_fetch 165 1 = some (.invokeinterface 10 2, 4) := by decide +kernel
theorem fX10_look_4 : a_fetch 165 4 = some (.aload 0, 5) := by decide +kernel
theorem fX10_look_5 : a_fetch 165 5 = some (.invokeinterface 10 3, 8) := by decide +kernel
theorem fX10_look_8 : a_fetch 165 8 = some (.if_icmp .ge 52, 11) := by decide +kernel
theorem fX10_look_11 : a_fetch 165 11 = some (.aload 0, 12) := by decide +kernel
theorem fX10_look_12 : a_fetch 165 12 = some (.invokeinterface 10 0, 15) := by decide +kernel
theorem fX10_look_15 : a_fetch 165 15 = some (.aload 0, 16) := by decide +kernel
theorem fX10_look_16 : a_fetch 165 16 = some (.invokeinterface 10 2, 19) := by decide +kernel
theorem fX10_look_19 : a_fetch 165 19 = some (.iaload, 20) := by decide +kernel
theorem fX10_look_20 : a_fetch 165 20 = some (.iconst 10, 22) := by decide +kernel
theorem fX10_look_22 : a_fetch 165 22 = some (.if_icmp .eq 39, 25) := by decide +kernel
theorem fX10_look_25 : a_fetch 165 25 = some (.aload 0, 26) := by decide +kernel
theorem fX10_look_26 : a_fetch 165 26 = some (.invokeinterface 10 0, 29) := by decide +kernel
theorem fX10_look_29 : a_fetch 165 29 = some (.aload 0, 30) := by decide +kernel
theorem fX10_look_30 : a_fetch 165 30 = some (.invokeinterface 10 2, 33) := by decide +kernel
theorem fX10_look_33 : a_fetch 165 33 = some (.iaload, 34) := by decide +kernel
theorem fX10_look_34 : a_fetch 165 34 = some (.iconst 32, 36) := by decide +kernel
theorem fX10_look_36 : a_fetch 165 36 = some (.if_icmp .ne 52, 39) := by decide +kernel
theorem fX10_look_39 : a_fetch 165 39 = some (.aload 0, 40) := by decide +kernel
theorem fX10_look_40 : a_fetch 165 40 = some (.dup, 41) := by decide +kernel
theorem fX10_look_41 : a_fetch 165 41 = some (.invokeinterface 10 2, 44) := by decide +kernel
theorem fX10_look_44 : a_fetch 165 44 = some (.iconst 1, 45) := by decide +kernel
theorem fX10_look_45 : a_fetch 165 45 = some (.iadd, 46) := by decide +kernel
theorem fX10_look_46 : a_fetch 165 46 = some (.multianewarray 10 2, 49) := by decide +kernel
theorem fX10_look_49 : a_fetch 165 49 = some (.goto 0, 52) := by decide +kernel
theorem fX10_look_52 : a_fetch 165 52 = some (.aload 0, 53) := by decide +kernel
theorem fX10_look_53 : a_fetch 165 53 = some (.invokeinterface 10 2, 56) := by decide +kernel
theorem fX10_look_56 : a_fetch 165 56 = some (.aload 0, 57) := by decide +kernel
theorem fX10_look_57 : a_fetch 165 57 = some (.invokeinterface 10 3, 60) := by decide +kernel
theorem fX10_look_60 : a_fetch 165 60 = some (.if_icmp .ge 75, 63) := by decide +kernel
theorem fX10_look_63 : a_fetch 165 63 = some (.aload 0, 64) := by decide +kernel
theorem fX10_look_64 : a_fetch 165 64 = some (.invokeinterface 10 0, 67) := by decide +kernel
theorem fX10_look_67 : a_fetch 165 67 = some (.aload 0, 68) := by decide +kernel
theorem fX10_look_68 : a_fetch 165 68 = some (.invokeinterface 10 2, 71) := by decide +kernel
theorem fX10_look_71 : a_fetch 165 71 = some (.iaload, 72) := by decide +kernel
theorem fX10_look_72 : a_fetch 165 72 = some (.goto 76, 75) := by decide +kernel
theorem fX10_look_75 : a_fetch 165 75 = some (.iconst (-1), 76) := by decide +kernel
theorem fX10_look_76 : a_fetch 165 76 = some (.ireturn, 77) := by decide +kernel
theorem fX10_isHere_0 : a_fetch 166 0 = some (.aload 0, 1) := by decide +kernel
theorem fX10_isHere_1 : a_fetch 166 1 = some (.invokeinterface 10 5, 4) := by decide +kernel
theorem fX10_isHere_4 : a_fetch 166 4 = some (.ifCond .ne 28, 7) := by decide +kernel
theorem fX10_isHere_7 : a_fetch 166 7 = some (.aload 0, 8) := by decide +kernel
theorem fX10_isHere_8 : a_fetch 166 8 = some (.invokevirtual 165, 11) := by decide +kernel
theorem fX10_isHere_11 : a_fetch 166 11 = some (.invokestatic 163, 14) := by decide +kernel
theorem fX10_isHere_14 : a_fetch 166 14 = some (.ifCond .eq 28, 17) := by decide +kernel
theorem fX10_isHere_17 : a_fetch 166 17 = some (.aload 0, 18) := by decide +kernel
theorem fX10_isHere_18 : a_fetch 166 18 = some (.invokeinterface 10 2, 21) := by decide +kernel
theorem fX10_isHere_21 : a_fetch 166 21 = some (.aload 0, 22) := by decide +kernel
theorem fX10_isHere_22 : a_fetch 166 22 = some (.invokeinterface 10 4, 25) := by decide +kernel
theorem fX10_isHere_25 : a_fetch 166 25 = some (.if_icmp .ne 30, 28) := by decide +kernel
theorem fX10_isHere_28 : a_fetch 166 28 = some (.iconst 0, 29) := by decide +kernel
theorem fX10_isHere_29 : a_fetch 166 29 = some (.ireturn, 30) := by decide +kernel
theorem fX10_isHere_30 : a_fetch 166 30 = some (.aload 0, 31) := by decide +kernel
theorem fX10_isHere_31 : a_fetch 166 31 = some (.invokeinterface 10 2, 34) := by decide +kernel
theorem fX10_isHere_34 : a_fetch 166 34 = some (.istore 2, 35) := by decide +kernel
theorem fX10_isHere_35 : a_fetch 166 35 = some (.iload 2, 36) := by decide +kernel
theorem fX10_isHere_36 : a_fetch 166 36 = some (.aload 0, 37) := by decide +kernel
theorem fX10_isHere_37 : a_fetch 166 37 = some (.invokeinterface 10 3, 40) := by decide +kernel
theorem fX10_isHere_40 : a_fetch 166 40 = some (.if_icmp .ge 61, 43) := by decide +kernel
theorem fX10_isHere_43 : a_fetch 166 43 = some (.aload 0, 44) := by decide +kernel
theorem fX10_isHere_44 : a_fetch 166 44 = some (.invokeinterface 10 0, 47) := by decide +kernel
theorem fX10_isHere_47 : a_fetch 166 47 = some (.iload 2, 48) := by decide +kernel
theorem fX10_isHere_48 : a_fetch 166 48 = some (.iaload, 49) := by decide +kernel
theorem fX10_isHere_49 : a_fetch 166 49 = some (.invokestatic 163, 52) := by decide +kernel
theorem fX10_isHere_52 : a_fetch 166 52 = some (.ifCond .eq 61, 55) := by decide +kernel
theorem fX10_isHere_55 : a_fetch 166 55 = some (.iinc 2 1, 58) := by decide +kernel
theorem fX10_isHere_58 : a_fetch 166 58 = some (.goto 35, 61) := by decide +kernel
theorem fX10_isHere_61 : a_fetch 166 61 = some (.iload 2, 62) := by decide +kernel
theorem fX10_isHere_62 : a_fetch 166 62 = some (.aload 0, 63) := by decide +kernel
theorem fX10_isHere_63 : a_fetch 166 63 = some (.invokeinterface 10 2, 66) := by decide +kernel
theorem fX10_isHere_66 : a_fetch 166 66 = some (.isub, 67) := by decide +kernel
theorem fX10_isHere_67 : a_fetch 166 67 = some (.aload 1, 68) := by decide +kernel
theorem fX10_isHere_68 : a_fetch 166 68 = some (.arraylength, 69) := by decide +kernel
theorem fX10_isHere_69 : a_fetch 166 69 = some (.if_icmp .eq 74, 72) := by decide +kernel
theorem fX10_isHere_72 : a_fetch 166 72 = some (.iconst 0, 73) := by decide +kernel
theorem fX10_isHere_73 : a_fetch 166 73 = some (.ireturn, 74) := by decide +kernel
theorem fX10_isHere_74 : a_fetch 166 74 = some (.iconst 0, 75) := by decide +kernel
theorem fX10_isHere_75 : a_fetch 166 75 = some (.istore 3, 76) := by decide +kernel
theorem fX10_isHere_76 : a_fetch 166 76 = some (.iload 3, 77) := by decide +kernel
theorem fX10_isHere_77 : a_fetch 166 77 = some (.aload 1, 78) := by decide +kernel
theorem fX10_isHere_78 : a_fetch 166 78 = some (.arraylength, 79) := by decide +kernel
theorem fX10_isHere_79 : a_fetch 166 79 = some (.if_icmp .ge 107, 82) := by decide +kernel
theorem fX10_isHere_82 : a_fetch 166 82 = some (.aload 0, 83) := by decide +kernel
theorem fX10_isHere_83 : a_fetch 166 83 = some (.invokeinterface 10 0, 86) := by decide +kernel
theorem fX10_isHere_86 : a_fetch 166 86 = some (.aload 0, 87) := by decide +kernel
theorem fX10_isHere_87 : a_fetch 166 87 = some (.invokeinterface 10 2, 90) := by decide +kernel
theorem fX10_isHere_90 : a_fetch 166 90 = some (.iload 3, 91) := by decide +kernel
theorem fX10_isHere_91 : a_fetch 166 91 = some (.iadd, 92) := by decide +kernel
theorem fX10_isHere_92 : a_fetch 166 92 = some (.iaload, 93) := by decide +kernel
theorem fX10_isHere_93 : a_fetch 166 93 = some (.aload 1, 94) := by decide +kernel
theorem fX10_isHere_94 : a_fetch 166 94 = some (.iload 3, 95) := by decide +kernel
theorem fX10_isHere_95 : a_fetch 166 95 = some (.caload, 96) := by decide +kernel
theorem fX10_isHere_96 : a_fetch 166 96 = some (.if_icmp .eq 101, 99) := by decide +kernel
theorem fX10_isHere_99 : a_fetch 166 99 = some (.iconst 0, 100) := by decide +kernel
theorem fX10_isHere_100 : a_fetch 166 100 = some (.ireturn, 101) := by decide +kernel
theorem fX10_isHere_101 : a_fetch 166 101 = some (.iinc 3 1, 104) := by decide +kernel
theorem fX10_isHere_104 : a_fetch 166 104 = some (.goto 76, 107) := by decide +kernel
theorem fX10_isHere_107 : a_fetch 166 107 = some (.iconst 1, 108) := by decide +kernel
theorem fX10_isHere_108 : a_fetch 166 108 = some (.ireturn, 109) := by decide +kernel
theorem fX10_takes_0 : a_fetch 167 0 = some (.aload 0, 1) := by decide +kernel
theorem fX10_takes_1 : a_fetch 167 1 = some (.aload 1, 2) := by decide +kernel
theorem fX10_takes_2 : a_fetch 167 2 = some (.invokevirtual 166, 5) := by decide +kernel
theorem fX10_takes_5 : a_fetch 167 5 = some (.ifCond .ne 10, 8) := by decide +kernel
theorem fX10_takes_8 : a_fetch 167 8 = some (.iconst 0, 9) := by decide +kernel
theorem fX10_takes_9 : a_fetch 167 9 = some (.ireturn, 10) := by decide +kernel
theorem fX10_takes_10 : a_fetch 167 10 = some (.aload 0, 11) := by decide +kernel
theorem fX10_takes_11 : a_fetch 167 11 = some (.dup, 12) := by decide +kernel
theorem fX10_takes_12 : a_fetch 167 12 = some (.invokeinterface 10 2, 15) := by decide +kernel
theorem fX10_takes_15 : a_fetch 167 15 = some (.aload 1, 16) := by decide +kernel
theorem fX10_takes_16 : a_fetch 167 16 = some (.arraylength, 17) := by decide +kernel
theorem fX10_takes_17 : a_fetch 167 17 = some (.iadd, 18) := by decide +kernel
theorem fX10_takes_18 : a_fetch 167 18 = some (.multianewarray 10 2, 21) := by decide +kernel
theorem fX10_takes_21 : a_fetch 167 21 = some (.aload 0, 22) := by decide +kernel
theorem fX10_takes_22 : a_fetch 167 22 = some (.aload 0, 23) := by decide +kernel
theorem fX10_takes_23 : a_fetch 167 23 = some (.invokeinterface 10 2, 26) := by decide +kernel
theorem fX10_takes_26 : a_fetch 167 26 = some (.multianewarray 10 4, 29) := by decide +kernel
theorem fX10_takes_29 : a_fetch 167 29 = some (.iconst 1, 30) := by decide +kernel
theorem fX10_takes_30 : a_fetch 167 30 = some (.ireturn, 31) := by decide +kernel
theorem fX10_asks_0 : a_fetch 168 0 = some (.aload 0, 1) := by decide +kernel
theorem fX10_asks_1 : a_fetch 168 1 = some (.invokeinterface 10 5, 4) := by decide +kernel
theorem fX10_asks_4 : a_fetch 168 4 = some (.ifCond .ne 24, 7) := by decide +kernel
theorem fX10_asks_7 : a_fetch 168 7 = some (.aload 0, 8) := by decide +kernel
theorem fX10_asks_8 : a_fetch 168 8 = some (.aload 1, 9) := by decide +kernel
theorem fX10_asks_9 : a_fetch 168 9 = some (.invokevirtual 167, 12) := by decide +kernel
theorem fX10_asks_12 : a_fetch 168 12 = some (.ifCond .ne 24, 15) := by decide +kernel
theorem fX10_asks_15 : a_fetch 168 15 = some (.aload 0, 16) := by decide +kernel
theorem fX10_asks_16 : a_fetch 168 16 = some (.iconst 1, 17) := by decide +kernel
theorem fX10_asks_17 : a_fetch 168 17 = some (.aload 0, 18) := by decide +kernel
theorem fX10_asks_18 : a_fetch 168 18 = some (.invokeinterface 10 2, 21) := by decide +kernel
theorem fX10_asks_21 : a_fetch 168 21 = some (.invokevirtual 162, 24) := by decide +kernel
theorem fX10_asks_24 : a_fetch 168 24 = some (.return_, 25) := by decide +kernel
theorem fX10_takesSign_0 : a_fetch 169 0 = some (.aload 0, 1) := by decide +kernel
theorem fX10_takesSign_1 : a_fetch 169 1 = some (.invokeinterface 10 5, 4) := by decide +kernel
theorem fX10_takesSign_4 : a_fetch 169 4 = some (.ifCond .ne 15, 7) := by decide +kernel
theorem fX10_takesSign_7 : a_fetch 169 7 = some (.aload 0, 8) := by decide +kernel
theorem fX10_takesSign_8 : a_fetch 169 8 = some (.invokevirtual 165, 11) := by decide +kernel
theorem fX10_takesSign_11 : a_fetch 169 11 = some (.iload 1, 12) := by decide +kernel
theorem fX10_takesSign_12 : a_fetch 169 12 = some (.if_icmp .eq 17, 15) := by decide +kernel
theorem fX10_takesSign_15 : a_fetch 169 15 = some (.iconst 0, 16) := by decide +kernel
theorem fX10_takesSign_16 : a_fetch 169 16 = some (.ireturn, 17) := by decide +kernel
theorem fX10_takesSign_17 : a_fetch 169 17 = some (.aload 0, 18) := by decide +kernel
theorem fX10_takesSign_18 : a_fetch 169 18 = some (.dup, 19) := by decide +kernel
theorem fX10_takesSign_19 : a_fetch 169 19 = some (.invokeinterface 10 2, 22) := by decide +kernel
theorem fX10_takesSign_22 : a_fetch 169 22 = some (.iconst 1, 23) := by decide +kernel
theorem fX10_takesSign_23 : a_fetch 169 23 = some (.iadd, 24) := by decide +kernel
theorem fX10_takesSign_24 : a_fetch 169 24 = some (.multianewarray 10 2, 27) := by decide +kernel
theorem fX10_takesSign_27 : a_fetch 169 27 = some (.iconst 1, 28) := by decide +kernel
theorem fX10_takesSign_28 : a_fetch 169 28 = some (.ireturn, 29) := by decide +kernel
theorem fX10_asksSign_0 : a_fetch 170 0 = some (.aload 0, 1) := by decide +kernel
theorem fX10_asksSign_1 : a_fetch 170 1 = some (.invokeinterface 10 5, 4) := by decide +kernel
theorem fX10_asksSign_4 : a_fetch 170 4 = some (.ifCond .ne 24, 7) := by decide +kernel
theorem fX10_asksSign_7 : a_fetch 170 7 = some (.aload 0, 8) := by decide +kernel
theorem fX10_asksSign_8 : a_fetch 170 8 = some (.iload 1, 9) := by decide +kernel
theorem fX10_asksSign_9 : a_fetch 170 9 = some (.invokevirtual 169, 12) := by decide +kernel
theorem fX10_asksSign_12 : a_fetch 170 12 = some (.ifCond .ne 24, 15) := by decide +kernel
theorem fX10_asksSign_15 : a_fetch 170 15 = some (.aload 0, 16) := by decide +kernel
theorem fX10_asksSign_16 : a_fetch 170 16 = some (.iconst 1, 17) := by decide +kernel
theorem fX10_asksSign_17 : a_fetch 170 17 = some (.aload 0, 18) := by decide +kernel
theorem fX10_asksSign_18 : a_fetch 170 18 = some (.invokeinterface 10 2, 21) := by decide +kernel
theorem fX10_asksSign_21 : a_fetch 170 21 = some (.invokevirtual 162, 24) := by decide +kernel
theorem fX10_asksSign_24 : a_fetch 170 24 = some (.return_, 25) := by decide +kernel
theorem fX10_number_0 : a_fetch 171 0 = some (.aload 0, 1) := by decide +kernel
theorem fX10_number_1 : a_fetch 171 1 = some (.invokeinterface 10 5, 4) := by decide +kernel
theorem fX10_number_4 : a_fetch 171 4 = some (.ifCond .eq 9, 7) := by decide +kernel
theorem fX10_number_7 : a_fetch 171 7 = some (.iconst 0, 8) := by decide +kernel
theorem fX10_number_8 : a_fetch 171 8 = some (.ireturn, 9) := by decide +kernel
theorem fX10_number_9 : a_fetch 171 9 = some (.aload 0, 10) := by decide +kernel
theorem fX10_number_10 : a_fetch 171 10 = some (.invokevirtual 165, 13) := by decide +kernel
theorem fX10_number_13 : a_fetch 171 13 = some (.invokestatic 164, 16) := by decide +kernel
theorem fX10_number_16 : a_fetch 171 16 = some (.ifCond .eq 30, 19) := by decide +kernel
theorem fX10_number_19 : a_fetch 171 19 = some (.aload 0, 20) := by decide +kernel
theorem fX10_number_20 : a_fetch 171 20 = some (.invokeinterface 10 2, 23) := by decide +kernel
theorem fX10_number_23 : a_fetch 171 23 = some (.aload 0, 24) := by decide +kernel
theorem fX10_number_24 : a_fetch 171 24 = some (.invokeinterface 10 4, 27) := by decide +kernel
theorem fX10_number_27 : a_fetch 171 27 = some (.if_icmp .ne 41, 30) := by decide +kernel
theorem fX10_number_30 : a_fetch 171 30 = some (.aload 0, 31) := by decide +kernel
theorem fX10_number_31 : a_fetch 171 31 = some (.iconst 1, 32) := by decide +kernel
theorem fX10_number_32 : a_fetch 171 32 = some (.aload 0, 33) := by decide +kernel
theorem fX10_number_33 : a_fetch 171 33 = some (.invokeinterface 10 2, 36) := by decide +kernel
theorem fX10_number_36 : a_fetch 171 36 = some (.invokevirtual 162, 39) := by decide +kernel
theorem fX10_number_39 : a_fetch 171 39 = some (.iconst 0, 40) := by decide +kernel
theorem fX10_number_40 : a_fetch 171 40 = some (.ireturn, 41) := by decide +kernel
theorem fX10_number_41 : a_fetch 171 41 = some (.aload 0, 42) := by decide +kernel
theorem fX10_number_42 : a_fetch 171 42 = some (.invokeinterface 10 2, 45) := by decide +kernel
theorem fX10_number_45 : a_fetch 171 45 = some (.istore 3, 46) := by decide +kernel
theorem fX10_number_46 : a_fetch 171 46 = some (.iconst 0, 47) := by decide +kernel
theorem fX10_number_47 : a_fetch 171 47 = some (.istore 4, 49) := by decide +kernel
theorem fX10_number_49 : a_fetch 171 49 = some (.aload 0, 50) := by decide +kernel
theorem fX10_number_50 : a_fetch 171 50 = some (.invokeinterface 10 2, 53) := by decide +kernel
theorem fX10_number_53 : a_fetch 171 53 = some (.aload 0, 54) := by decide +kernel
theorem fX10_number_54 : a_fetch 171 54 = some (.invokeinterface 10 3, 57) := by decide +kernel
theorem fX10_number_57 : a_fetch 171 57 = some (.if_icmp .ge 129, 60) := by decide +kernel
theorem fX10_number_60 : a_fetch 171 60 = some (.aload 0, 61) := by decide +kernel
theorem fX10_number_61 : a_fetch 171 61 = some (.invokeinterface 10 0, 64) := by decide +kernel
theorem fX10_number_64 : a_fetch 171 64 = some (.aload 0, 65) := by decide +kernel
theorem fX10_number_65 : a_fetch 171 65 = some (.invokeinterface 10 2, 68) := by decide +kernel
theorem fX10_number_68 : a_fetch 171 68 = some (.iaload, 69) := by decide +kernel
theorem fX10_number_69 : a_fetch 171 69 = some (.invokestatic 164, 72) := by decide +kernel
theorem fX10_number_72 : a_fetch 171 72 = some (.ifCond .eq 129, 75) := by decide +kernel
theorem fX10_number_75 : a_fetch 171 75 = some (.aload 0, 76) := by decide +kernel
theorem fX10_number_76 : a_fetch 171 76 = some (.invokeinterface 10 2, 79) := by decide +kernel
theorem fX10_number_79 : a_fetch 171 79 = some (.iload 3, 80) := by decide +kernel
theorem fX10_number_80 : a_fetch 171 80 = some (.isub, 81) := by decide +kernel
theorem fX10_number_81 : a_fetch 171 81 = some (.iconst 4, 82) := by decide +kernel
theorem fX10_number_82 : a_fetch 171 82 = some (.if_icmp .ne 96, 85) := by decide +kernel
theorem fX10_number_85 : a_fetch 171 85 = some (.aload 0, 86) := by decide +kernel
theorem fX10_number_86 : a_fetch 171 86 = some (.iconst 1, 87) := by decide +kernel
theorem fX10_number_87 : a_fetch 171 87 = some (.aload 0, 88) := by decide +kernel
theorem fX10_number_88 : a_fetch 171 88 = some (.invokeinterface 10 2, 91) := by decide +kernel
theorem fX10_number_91 : a_fetch 171 91 = some (.invokevirtual 162, 94) := by decide +kernel
theorem fX10_number_94 : a_fetch 171 94 = some (.iconst 0, 95) := by decide +kernel
theorem fX10_number_95 : a_fetch 171 95 = some (.ireturn, 96) := by decide +kernel
theorem fX10_number_96 : a_fetch 171 96 = some (.iconst 10, 98) := by decide +kernel
theorem fX10_number_98 : a_fetch 171 98 = some (.iload 4, 100) := by decide +kernel
theorem fX10_number_100 : a_fetch 171 100 = some (.imul, 101) := by decide +kernel
theorem fX10_number_101 : a_fetch 171 101 = some (.aload 0, 102) := by decide +kernel
theorem fX10_number_102 : a_fetch 171 102 = some (.invokeinterface 10 0, 105) := by decide +kernel
theorem fX10_number_105 : a_fetch 171 105 = some (.aload 0, 106) := by decide +kernel
theorem fX10_number_106 : a_fetch 171 106 = some (.invokeinterface 10 2, 109) := by decide +kernel
theorem fX10_number_109 : a_fetch 171 109 = some (.iaload, 110) := by decide +kernel
theorem fX10_number_110 : a_fetch 171 110 = some (.iadd, 111) := by decide +kernel
theorem fX10_number_111 : a_fetch 171 111 = some (.iconst 48, 113) := by decide +kernel
theorem fX10_number_113 : a_fetch 171 113 = some (.isub, 114) := by decide +kernel
theorem fX10_number_114 : a_fetch 171 114 = some (.istore 4, 116) := by decide +kernel
theorem fX10_number_116 : a_fetch 171 116 = some (.aload 0, 117) := by decide +kernel
theorem fX10_number_117 : a_fetch 171 117 = some (.dup, 118) := by decide +kernel
theorem fX10_number_118 : a_fetch 171 118 = some (.invokeinterface 10 2, 121) := by decide +kernel
theorem fX10_number_121 : a_fetch 171 121 = some (.iconst 1, 122) := by decide +kernel
theorem fX10_number_122 : a_fetch 171 122 = some (.iadd, 123) := by decide +kernel
theorem fX10_number_123 : a_fetch 171 123 = some (.multianewarray 10 2, 126) := by decide +kernel
theorem fX10_number_126 : a_fetch 171 126 = some (.goto 49, 129) := by decide +kernel
theorem fX10_number_129 : a_fetch 171 129 = some (.aload 0, 130) := by decide +kernel
theorem fX10_number_130 : a_fetch 171 130 = some (.aload 0, 131) := by decide +kernel
theorem fX10_number_131 : a_fetch 171 131 = some (.invokeinterface 10 2, 134) := by decide +kernel
theorem fX10_number_134 : a_fetch 171 134 = some (.multianewarray 10 4, 137) := by decide +kernel
theorem fX10_number_137 : a_fetch 171 137 = some (.aload 0, 138) := by decide +kernel
theorem fX10_number_138 : a_fetch 171 138 = some (.iload 3, 139) := by decide +kernel
theorem fX10_number_139 : a_fetch 171 139 = some (.multianewarray 10 10, 142) := by decide +kernel
theorem fX10_number_142 : a_fetch 171 142 = some (.iload 4, 144) := by decide +kernel
theorem fX10_number_144 : a_fetch 171 144 = some (.i2l, 145) := by decide +kernel
theorem fX10_number_145 : a_fetch 171 145 = some (.iload 1, 146) := by decide +kernel
theorem fX10_number_146 : a_fetch 171 146 = some (.i2l, 147) := by decide +kernel
theorem fX10_number_147 : a_fetch 171 147 = some (.iload 2, 148) := by decide +kernel
theorem fX10_number_148 : a_fetch 171 148 = some (.i2l, 149) := by decide +kernel
theorem fX10_number_149 : a_fetch 171 149 = some (.invokestatic 159, 152) := by decide +kernel
theorem fX10_number_152 : a_fetch 171 152 = some (.ifCond .ne 161, 155) := by decide +kernel
theorem fX10_number_155 : a_fetch 171 155 = some (.aload 0, 156) := by decide +kernel
theorem fX10_number_156 : a_fetch 171 156 = some (.iconst 2, 157) := by decide +kernel
theorem fX10_number_157 : a_fetch 171 157 = some (.iload 3, 158) := by decide +kernel
theorem fX10_number_158 : a_fetch 171 158 = some (.invokevirtual 162, 161) := by decide +kernel
theorem fX10_number_161 : a_fetch 171 161 = some (.iload 4, 163) := by decide +kernel
theorem fX10_number_163 : a_fetch 171 163 = some (.ireturn, 164) := by decide +kernel
theorem fX10_isOwnHere_0 : a_fetch 172 0 = some (.aload 0, 1) := by decide +kernel
theorem fX10_isOwnHere_1 : a_fetch 172 1 = some (.aload 0, 2) := by decide +kernel
theorem fX10_isOwnHere_2 : a_fetch 172 2 = some (.invokeinterface 10 11, 5) := by decide +kernel
theorem fX10_isOwnHere_5 : a_fetch 172 5 = some (.invokevirtual 166, 8) := by decide +kernel
theorem fX10_isOwnHere_8 : a_fetch 172 8 = some (.ifCond .ne 66, 11) := by decide +kernel
theorem fX10_isOwnHere_11 : a_fetch 172 11 = some (.aload 0, 12) := by decide +kernel
theorem fX10_isOwnHere_12 : a_fetch 172 12 = some (.aload 0, 13) := by decide +kernel
theorem fX10_isOwnHere_13 : a_fetch 172 13 = some (.invokeinterface 10 12, 16) := by decide +kernel
theorem fX10_isOwnHere_16 : a_fetch 172 16 = some (.invokevirtual 166, 19) := by decide +kernel
theorem fX10_isOwnHere_19 : a_fetch 172 19 = some (.ifCond .ne 66, 22) := by decide +kernel
theorem fX10_isOwnHere_22 : a_fetch 172 22 = some (.aload 0, 23) := by decide +kernel
theorem fX10_isOwnHere_23 : a_fetch 172 23 = some (.aload 0, 24) := by decide +kernel
theorem fX10_isOwnHere_24 : a_fetch 172 24 = some (.invokeinterface 10 13, 27) := by decide +kernel
theorem fX10_isOwnHere_27 : a_fetch 172 27 = some (.invokevirtual 166, 30) := by decide +kernel
theorem fX10_isOwnHere_30 : a_fetch 172 30 = some (.ifCond .ne 66, 33) := by decide +kernel
theorem fX10_isOwnHere_33 : a_fetch 172 33 = some (.aload 0, 34) := by decide +kernel
theorem fX10_isOwnHere_34 : a_fetch 172 34 = some (.aload 0, 35) := by decide +kernel
theorem fX10_isOwnHere_35 : a_fetch 172 35 = some (.invokeinterface 10 14, 38) := by decide +kernel
theorem fX10_isOwnHere_38 : a_fetch 172 38 = some (.invokevirtual 166, 41) := by decide +kernel
theorem fX10_isOwnHere_41 : a_fetch 172 41 = some (.ifCond .ne 66, 44) := by decide +kernel
theorem fX10_isOwnHere_44 : a_fetch 172 44 = some (.aload 0, 45) := by decide +kernel
theorem fX10_isOwnHere_45 : a_fetch 172 45 = some (.aload 0, 46) := by decide +kernel
theorem fX10_isOwnHere_46 : a_fetch 172 46 = some (.invokeinterface 10 15, 49) := by decide +kernel
theorem fX10_isOwnHere_49 : a_fetch 172 49 = some (.invokevirtual 166, 52) := by decide +kernel
theorem fX10_isOwnHere_52 : a_fetch 172 52 = some (.ifCond .ne 66, 55) := by decide +kernel
theorem fX10_isOwnHere_55 : a_fetch 172 55 = some (.aload 0, 56) := by decide +kernel
theorem fX10_isOwnHere_56 : a_fetch 172 56 = some (.aload 0, 57) := by decide +kernel
theorem fX10_isOwnHere_57 : a_fetch 172 57 = some (.invokeinterface 10 16, 60) := by decide +kernel
theorem fX10_isOwnHere_60 : a_fetch 172 60 = some (.invokevirtual 166, 63) := by decide +kernel
theorem fX10_isOwnHere_63 : a_fetch 172 63 = some (.ifCond .eq 70, 66) := by decide +kernel
theorem fX10_isOwnHere_66 : a_fetch 172 66 = some (.iconst 1, 67) := by decide +kernel
theorem fX10_isOwnHere_67 : a_fetch 172 67 = some (.goto 71, 70) := by decide +kernel
theorem fX10_isOwnHere_70 : a_fetch 172 70 = some (.iconst 0, 71) := by decide +kernel
theorem fX10_isOwnHere_71 : a_fetch 172 71 = some (.istore 1, 72) := by decide +kernel
theorem fX10_isOwnHere_72 : a_fetch 172 72 = some (.iload 1, 73) := by decide +kernel
theorem fX10_isOwnHere_73 : a_fetch 172 73 = some (.ifCond .ne 142, 76) := by decide +kernel
theorem fX10_isOwnHere_76 : a_fetch 172 76 = some (.aload 0, 77) := by decide +kernel
theorem fX10_isOwnHere_77 : a_fetch 172 77 = some (.aload 0, 78) := by decide +kernel
theorem fX10_isOwnHere_78 : a_fetch 172 78 = some (.invokeinterface 10 17, 81) := by decide +kernel
theorem fX10_isOwnHere_81 : a_fetch 172 81 = some (.invokevirtual 166, 84) := by decide +kernel
theorem fX10_isOwnHere_84 : a_fetch 172 84 = some (.ifCond .ne 142, 87) := by decide +kernel
theorem fX10_isOwnHere_87 : a_fetch 172 87 = some (.aload 0, 88) := by decide +kernel
theorem fX10_isOwnHere_88 : a_fetch 172 88 = some (.aload 0, 89) := by decide +kernel
theorem fX10_isOwnHere_89 : a_fetch 172 89 = some (.invokeinterface 10 18, 92) := by decide +kernel
theorem fX10_isOwnHere_92 : a_fetch 172 92 = some (.invokevirtual 166, 95) := by decide +kernel
theorem fX10_isOwnHere_95 : a_fetch 172 95 = some (.ifCond .ne 142, 98) := by decide +kernel
theorem fX10_isOwnHere_98 : a_fetch 172 98 = some (.aload 0, 99) := by decide +kernel
theorem fX10_isOwnHere_99 : a_fetch 172 99 = some (.aload 0, 100) := by decide +kernel
theorem fX10_isOwnHere_100 : a_fetch 172 100 = some (.invokeinterface 10 19, 103) := by decide +kernel
theorem fX10_isOwnHere_103 : a_fetch 172 103 = some (.invokevirtual 166, 106) := by decide +kernel
theorem fX10_isOwnHere_106 : a_fetch 172 106 = some (.ifCond .ne 142, 109) := by decide +kernel
theorem fX10_isOwnHere_109 : a_fetch 172 109 = some (.aload 0, 110) := by decide +kernel
theorem fX10_isOwnHere_110 : a_fetch 172 110 = some (.aload 0, 111) := by decide +kernel
theorem fX10_isOwnHere_111 : a_fetch 172 111 = some (.invokeinterface 10 20, 114) := by decide +kernel
theorem fX10_isOwnHere_114 : a_fetch 172 114 = some (.invokevirtual 166, 117) := by decide +kernel
theorem fX10_isOwnHere_117 : a_fetch 172 117 = some (.ifCond .ne 142, 120) := by decide +kernel
theorem fX10_isOwnHere_120 : a_fetch 172 120 = some (.aload 0, 121) := by decide +kernel
theorem fX10_isOwnHere_121 : a_fetch 172 121 = some (.aload 0, 122) := by decide +kernel
theorem fX10_isOwnHere_122 : a_fetch 172 122 = some (.invokeinterface 10 21, 125) := by decide +kernel
theorem fX10_isOwnHere_125 : a_fetch 172 125 = some (.invokevirtual 166, 128) := by decide +kernel
theorem fX10_isOwnHere_128 : a_fetch 172 128 = some (.ifCond .ne 142, 131) := by decide +kernel
theorem fX10_isOwnHere_131 : a_fetch 172 131 = some (.aload 0, 132) := by decide +kernel
theorem fX10_isOwnHere_132 : a_fetch 172 132 = some (.aload 0, 133) := by decide +kernel
theorem fX10_isOwnHere_133 : a_fetch 172 133 = some (.invokeinterface 10 22, 136) := by decide +kernel
theorem fX10_isOwnHere_136 : a_fetch 172 136 = some (.invokevirtual 166, 139) := by decide +kernel
theorem fX10_isOwnHere_139 : a_fetch 172 139 = some (.ifCond .eq 146, 142) := by decide +kernel
theorem fX10_isOwnHere_142 : a_fetch 172 142 = some (.iconst 1, 143) := by decide +kernel
theorem fX10_isOwnHere_143 : a_fetch 172 143 = some (.goto 147, 146) := by decide +kernel
theorem fX10_isOwnHere_146 : a_fetch 172 146 = some (.iconst 0, 147) := by decide +kernel
theorem fX10_isOwnHere_147 : a_fetch 172 147 = some (.istore 1, 148) := by decide +kernel
theorem fX10_isOwnHere_148 : a_fetch 172 148 = some (.iload 1, 149) := by decide +kernel
theorem fX10_isOwnHere_149 : a_fetch 172 149 = some (.ifCond .ne 218, 152) := by decide +kernel
theorem fX10_isOwnHere_152 : a_fetch 172 152 = some (.aload 0, 153) := by decide +kernel
theorem fX10_isOwnHere_153 : a_fetch 172 153 = some (.aload 0, 154) := by decide +kernel
theorem fX10_isOwnHere_154 : a_fetch 172 154 = some (.invokeinterface 10 23, 157) := by decide +kernel
theorem fX10_isOwnHere_157 : a_fetch 172 157 = some (.invokevirtual 166, 160) := by decide +kernel
theorem fX10_isOwnHere_160 : a_fetch 172 160 = some (.ifCond .ne 218, 163) := by decide +kernel
theorem fX10_isOwnHere_163 : a_fetch 172 163 = some (.aload 0, 164) := by decide +kernel
theorem fX10_isOwnHere_164 : a_fetch 172 164 = some (.aload 0, 165) := by decide +kernel
theorem fX10_isOwnHere_165 : a_fetch 172 165 = some (.invokeinterface 10 24, 168) := by decide +kernel
theorem fX10_isOwnHere_168 : a_fetch 172 168 = some (.invokevirtual 166, 171) := by decide +kernel
theorem fX10_isOwnHere_171 : a_fetch 172 171 = some (.ifCond .ne 218, 174) := by decide +kernel
theorem fX10_isOwnHere_174 : a_fetch 172 174 = some (.aload 0, 175) := by decide +kernel
theorem fX10_isOwnHere_175 : a_fetch 172 175 = some (.aload 0, 176) := by decide +kernel
theorem fX10_isOwnHere_176 : a_fetch 172 176 = some (.invokeinterface 10 25, 179) := by decide +kernel
theorem fX10_isOwnHere_179 : a_fetch 172 179 = some (.invokevirtual 166, 182) := by decide +kernel
theorem fX10_isOwnHere_182 : a_fetch 172 182 = some (.ifCond .ne 218, 185) := by decide +kernel
theorem fX10_isOwnHere_185 : a_fetch 172 185 = some (.aload 0, 186) := by decide +kernel
theorem fX10_isOwnHere_186 : a_fetch 172 186 = some (.aload 0, 187) := by decide +kernel
theorem fX10_isOwnHere_187 : a_fetch 172 187 = some (.invokeinterface 10 26, 190) := by decide +kernel
theorem fX10_isOwnHere_190 : a_fetch 172 190 = some (.invokevirtual 166, 193) := by decide +kernel
theorem fX10_isOwnHere_193 : a_fetch 172 193 = some (.ifCond .ne 218, 196) := by decide +kernel
theorem fX10_isOwnHere_196 : a_fetch 172 196 = some (.aload 0, 197) := by decide +kernel
theorem fX10_isOwnHere_197 : a_fetch 172 197 = some (.aload 0, 198) := by decide +kernel
theorem fX10_isOwnHere_198 : a_fetch 172 198 = some (.invokeinterface 10 27, 201) := by decide +kernel
theorem fX10_isOwnHere_201 : a_fetch 172 201 = some (.invokevirtual 166, 204) := by decide +kernel
theorem fX10_isOwnHere_204 : a_fetch 172 204 = some (.ifCond .ne 218, 207) := by decide +kernel
theorem fX10_isOwnHere_207 : a_fetch 172 207 = some (.aload 0, 208) := by decide +kernel
theorem fX10_isOwnHere_208 : a_fetch 172 208 = some (.aload 0, 209) := by decide +kernel
theorem fX10_isOwnHere_209 : a_fetch 172 209 = some (.invokeinterface 10 28, 212) := by decide +kernel
theorem fX10_isOwnHere_212 : a_fetch 172 212 = some (.invokevirtual 166, 215) := by decide +kernel
theorem fX10_isOwnHere_215 : a_fetch 172 215 = some (.ifCond .eq 222, 218) := by decide +kernel
theorem fX10_isOwnHere_218 : a_fetch 172 218 = some (.iconst 1, 219) := by decide +kernel
theorem fX10_isOwnHere_219 : a_fetch 172 219 = some (.goto 223, 222) := by decide +kernel
theorem fX10_isOwnHere_222 : a_fetch 172 222 = some (.iconst 0, 223) := by decide +kernel
theorem fX10_isOwnHere_223 : a_fetch 172 223 = some (.istore 1, 224) := by decide +kernel
theorem fX10_isOwnHere_224 : a_fetch 172 224 = some (.iload 1, 225) := by decide +kernel
theorem fX10_isOwnHere_225 : a_fetch 172 225 = some (.ifCond .ne 294, 228) := by decide +kernel
theorem fX10_isOwnHere_228 : a_fetch 172 228 = some (.aload 0, 229) := by decide +kernel
theorem fX10_isOwnHere_229 : a_fetch 172 229 = some (.aload 0, 230) := by decide +kernel
theorem fX10_isOwnHere_230 : a_fetch 172 230 = some (.invokeinterface 10 29, 233) := by decide +kernel
theorem fX10_isOwnHere_233 : a_fetch 172 233 = some (.invokevirtual 166, 236) := by decide +kernel
theorem fX10_isOwnHere_236 : a_fetch 172 236 = some (.ifCond .ne 294, 239) := by decide +kernel
theorem fX10_isOwnHere_239 : a_fetch 172 239 = some (.aload 0, 240) := by decide +kernel
theorem fX10_isOwnHere_240 : a_fetch 172 240 = some (.aload 0, 241) := by decide +kernel
theorem fX10_isOwnHere_241 : a_fetch 172 241 = some (.invokeinterface 10 30, 244) := by decide +kernel
theorem fX10_isOwnHere_244 : a_fetch 172 244 = some (.invokevirtual 166, 247) := by decide +kernel
theorem fX10_isOwnHere_247 : a_fetch 172 247 = some (.ifCond .ne 294, 250) := by decide +kernel
theorem fX10_isOwnHere_250 : a_fetch 172 250 = some (.aload 0, 251) := by decide +kernel
theorem fX10_isOwnHere_251 : a_fetch 172 251 = some (.aload 0, 252) := by decide +kernel
theorem fX10_isOwnHere_252 : a_fetch 172 252 = some (.invokeinterface 10 31, 255) := by decide +kernel
theorem fX10_isOwnHere_255 : a_fetch 172 255 = some (.invokevirtual 166, 258) := by decide +kernel
theorem fX10_isOwnHere_258 : a_fetch 172 258 = some (.ifCond .ne 294, 261) := by decide +kernel
theorem fX10_isOwnHere_261 : a_fetch 172 261 = some (.aload 0, 262) := by decide +kernel
theorem fX10_isOwnHere_262 : a_fetch 172 262 = some (.aload 0, 263) := by decide +kernel
theorem fX10_isOwnHere_263 : a_fetch 172 263 = some (.invokeinterface 10 32, 266) := by decide +kernel
theorem fX10_isOwnHere_266 : a_fetch 172 266 = some (.invokevirtual 166, 269) := by decide +kernel
theorem fX10_isOwnHere_269 : a_fetch 172 269 = some (.ifCond .ne 294, 272) := by decide +kernel
theorem fX10_isOwnHere_272 : a_fetch 172 272 = some (.aload 0, 273) := by decide +kernel
theorem fX10_isOwnHere_273 : a_fetch 172 273 = some (.aload 0, 274) := by decide +kernel
theorem fX10_isOwnHere_274 : a_fetch 172 274 = some (.invokeinterface 10 33, 277) := by decide +kernel
theorem fX10_isOwnHere_277 : a_fetch 172 277 = some (.invokevirtual 166, 280) := by decide +kernel
theorem fX10_isOwnHere_280 : a_fetch 172 280 = some (.ifCond .ne 294, 283) := by decide +kernel
theorem fX10_isOwnHere_283 : a_fetch 172 283 = some (.aload 0, 284) := by decide +kernel
theorem fX10_isOwnHere_284 : a_fetch 172 284 = some (.aload 0, 285) := by decide +kernel
theorem fX10_isOwnHere_285 : a_fetch 172 285 = some (.invokeinterface 10 34, 288) := by decide +kernel
theorem fX10_isOwnHere_288 : a_fetch 172 288 = some (.invokevirtual 166, 291) := by decide +kernel
theorem fX10_isOwnHere_291 : a_fetch 172 291 = some (.ifCond .eq 298, 294) := by decide +kernel
theorem fX10_isOwnHere_294 : a_fetch 172 294 = some (.iconst 1, 295) := by decide +kernel
theorem fX10_isOwnHere_295 : a_fetch 172 295 = some (.goto 299, 298) := by decide +kernel
theorem fX10_isOwnHere_298 : a_fetch 172 298 = some (.iconst 0, 299) := by decide +kernel
theorem fX10_isOwnHere_299 : a_fetch 172 299 = some (.istore 1, 300) := by decide +kernel
theorem fX10_isOwnHere_300 : a_fetch 172 300 = some (.iload 1, 301) := by decide +kernel
theorem fX10_isOwnHere_301 : a_fetch 172 301 = some (.ireturn, 302) := by decide +kernel
theorem fX10_name_0 : a_fetch 173 0 = some (.aload 0, 1) := by decide +kernel
theorem fX10_name_1 : a_fetch 173 1 = some (.invokeinterface 10 5, 4) := by decide +kernel
theorem fX10_name_4 : a_fetch 173 4 = some (.ifCond .eq 9, 7) := by decide +kernel
theorem fX10_name_7 : a_fetch 173 7 = some (.jsr_w 0, 8) := by decide +kernel
theorem fX10_name_8 : a_fetch 173 8 = some (.lreturn, 9) := by decide +kernel
theorem fX10_name_9 : a_fetch 173 9 = some (.aload 0, 10) := by decide +kernel
theorem fX10_name_10 : a_fetch 173 10 = some (.invokevirtual 165, 13) := by decide +kernel
theorem fX10_name_13 : a_fetch 173 13 = some (.invokestatic 163, 16) := by decide +kernel
theorem fX10_name_16 : a_fetch 173 16 = some (.ifCond .eq 37, 19) := by decide +kernel
theorem fX10_name_19 : a_fetch 173 19 = some (.aload 0, 20) := by decide +kernel
theorem fX10_name_20 : a_fetch 173 20 = some (.invokeinterface 10 2, 23) := by decide +kernel
theorem fX10_name_23 : a_fetch 173 23 = some (.aload 0, 24) := by decide +kernel
theorem fX10_name_24 : a_fetch 173 24 = some (.invokeinterface 10 4, 27) := by decide +kernel
theorem fX10_name_27 : a_fetch 173 27 = some (.if_icmp .eq 37, 30) := by decide +kernel
theorem fX10_name_30 : a_fetch 173 30 = some (.aload 0, 31) := by decide +kernel
theorem fX10_name_31 : a_fetch 173 31 = some (.invokevirtual 172, 34) := by decide +kernel
theorem fX10_name_34 : a_fetch 173 34 = some (.ifCond .eq 48, 37) := by decide +kernel
theorem fX10_name_37 : a_fetch 173 37 = some (.aload 0, 38) := by decide +kernel
theorem fX10_name_38 : a_fetch 173 38 = some (.iconst 1, 39) := by decide +kernel
theorem fX10_name_39 : a_fetch 173 39 = some (.aload 0, 40) := by decide +kernel
theorem fX10_name_40 : a_fetch 173 40 = some (.invokeinterface 10 2, 43) := by decide +kernel
theorem fX10_name_43 : a_fetch 173 43 = some (.invokevirtual 162, 46) := by decide +kernel
theorem fX10_name_46 : a_fetch 173 46 = some (.jsr_w 0, 47) := by decide +kernel
theorem fX10_name_47 : a_fetch 173 47 = some (.lreturn, 48) := by decide +kernel
theorem fX10_name_48 : a_fetch 173 48 = some (.aload 0, 49) := by decide +kernel
theorem fX10_name_49 : a_fetch 173 49 = some (.aload 0, 50) := by decide +kernel
theorem fX10_name_50 : a_fetch 173 50 = some (.invokeinterface 10 2, 53) := by decide +kernel
theorem fX10_name_53 : a_fetch 173 53 = some (.multianewarray 10 35, 56) := by decide +kernel
theorem fX10_name_56 : a_fetch 173 56 = some (.jsr_w 0, 57) := by decide +kernel
theorem fX10_name_57 : a_fetch 173 57 = some (.lstore 1, 58) := by decide +kernel
theorem fX10_name_58 : a_fetch 173 58 = some (.aload 0, 59) := by decide +kernel
theorem fX10_name_59 : a_fetch 173 59 = some (.invokeinterface 10 2, 62) := by decide +kernel
theorem fX10_name_62 : a_fetch 173 62 = some (.aload 0, 63) := by decide +kernel
theorem fX10_name_63 : a_fetch 173 63 = some (.invokeinterface 10 3, 66) := by decide +kernel
theorem fX10_name_66 : a_fetch 173 66 = some (.if_icmp .ge 145, 69) := by decide +kernel
theorem fX10_name_69 : a_fetch 173 69 = some (.aload 0, 70) := by decide +kernel
theorem fX10_name_70 : a_fetch 173 70 = some (.invokeinterface 10 0, 73) := by decide +kernel
theorem fX10_name_73 : a_fetch 173 73 = some (.aload 0, 74) := by decide +kernel
theorem fX10_name_74 : a_fetch 173 74 = some (.invokeinterface 10 2, 77) := by decide +kernel
theorem fX10_name_77 : a_fetch 173 77 = some (.iaload, 78) := by decide +kernel
theorem fX10_name_78 : a_fetch 173 78 = some (.invokestatic 163, 81) := by decide +kernel
theorem fX10_name_81 : a_fetch 173 81 = some (.ifCond .eq 145, 84) := by decide +kernel
theorem fX10_name_84 : a_fetch 173 84 = some (.aload 0, 85) := by decide +kernel
theorem fX10_name_85 : a_fetch 173 85 = some (.invokeinterface 10 2, 88) := by decide +kernel
theorem fX10_name_88 : a_fetch 173 88 = some (.aload 0, 89) := by decide +kernel
theorem fX10_name_89 : a_fetch 173 89 = some (.invokeinterface 10 35, 92) := by decide +kernel
theorem fX10_name_92 : a_fetch 173 92 = some (.isub, 93) := by decide +kernel
theorem fX10_name_93 : a_fetch 173 93 = some (.iconst 6, 95) := by decide +kernel
theorem fX10_name_95 : a_fetch 173 95 = some (.if_icmp .ne 109, 98) := by decide +kernel
theorem fX10_name_98 : a_fetch 173 98 = some (.aload 0, 99) := by decide +kernel
theorem fX10_name_99 : a_fetch 173 99 = some (.iconst 1, 100) := by decide +kernel
theorem fX10_name_100 : a_fetch 173 100 = some (.aload 0, 101) := by decide +kernel
theorem fX10_name_101 : a_fetch 173 101 = some (.invokeinterface 10 2, 104) := by decide +kernel
theorem fX10_name_104 : a_fetch 173 104 = some (.invokevirtual 162, 107) := by decide +kernel
theorem fX10_name_107 : a_fetch 173 107 = some (.jsr_w 0, 108) := by decide +kernel
theorem fX10_name_108 : a_fetch 173 108 = some (.lreturn, 109) := by decide +kernel
theorem fX10_name_109 : a_fetch 173 109 = some (.jsr_w 27, 112) := by decide +kernel
theorem fX10_name_112 : a_fetch 173 112 = some (.lload 1, 113) := by decide +kernel
theorem fX10_name_113 : a_fetch 173 113 = some (.lmul, 114) := by decide +kernel
theorem fX10_name_114 : a_fetch 173 114 = some (.aload 0, 115) := by decide +kernel
theorem fX10_name_115 : a_fetch 173 115 = some (.invokeinterface 10 0, 118) := by decide +kernel
theorem fX10_name_118 : a_fetch 173 118 = some (.aload 0, 119) := by decide +kernel
theorem fX10_name_119 : a_fetch 173 119 = some (.invokeinterface 10 2, 122) := by decide +kernel
theorem fX10_name_122 : a_fetch 173 122 = some (.iaload, 123) := by decide +kernel
theorem fX10_name_123 : a_fetch 173 123 = some (.i2l, 124) := by decide +kernel
theorem fX10_name_124 : a_fetch 173 124 = some (.ladd, 125) := by decide +kernel
theorem fX10_name_125 : a_fetch 173 125 = some (.jsr_w 97, 128) := by decide +kernel
theorem fX10_name_128 : a_fetch 173 128 = some (.lsub, 129) := by decide +kernel
theorem fX10_name_129 : a_fetch 173 129 = some (.jsr_w 1, 130) := by decide +kernel
theorem fX10_name_130 : a_fetch 173 130 = some (.ladd, 131) := by decide +kernel
theorem fX10_name_131 : a_fetch 173 131 = some (.lstore 1, 132) := by decide +kernel
theorem fX10_name_132 : a_fetch 173 132 = some (.aload 0, 133) := by decide +kernel
theorem fX10_name_133 : a_fetch 173 133 = some (.dup, 134) := by decide +kernel
theorem fX10_name_134 : a_fetch 173 134 = some (.invokeinterface 10 2, 137) := by decide +kernel
theorem fX10_name_137 : a_fetch 173 137 = some (.iconst 1, 138) := by decide +kernel
theorem fX10_name_138 : a_fetch 173 138 = some (.iadd, 139) := by decide +kernel
theorem fX10_name_139 : a_fetch 173 139 = some (.multianewarray 10 2, 142) := by decide +kernel
theorem fX10_name_142 : a_fetch 173 142 = some (.goto 58, 145) := by decide +kernel
theorem fX10_name_145 : a_fetch 173 145 = some (.aload 0, 146) := by decide +kernel
theorem fX10_name_146 : a_fetch 173 146 = some (.aload 0, 147) := by decide +kernel
theorem fX10_name_147 : a_fetch 173 147 = some (.invokeinterface 10 2, 150) := by decide +kernel
theorem fX10_name_150 : a_fetch 173 150 = some (.multianewarray 10 4, 153) := by decide +kernel
theorem fX10_name_153 : a_fetch 173 153 = some (.lload 1, 154) := by decide +kernel
theorem fX10_name_154 : a_fetch 173 154 = some (.lreturn, 155) := by decide +kernel
theorem fX10_isAllowed_0 : a_fetch 174 0 = some (.iload 1, 1) := by decide +kernel
theorem fX10_isAllowed_1 : a_fetch 174 1 = some (.iconst 2, 2) := by decide +kernel
theorem fX10_isAllowed_2 : a_fetch 174 2 = some (.if_icmp .ge 7, 5) := by decide +kernel
theorem fX10_isAllowed_5 : a_fetch 174 5 = some (.iconst 1, 6) := by decide +kernel
theorem fX10_isAllowed_6 : a_fetch 174 6 = some (.ireturn, 7) := by decide +kernel
theorem fX10_isAllowed_7 : a_fetch 174 7 = some (.aload 0, 8) := by decide +kernel
theorem fX10_isAllowed_8 : a_fetch 174 8 = some (.invokeinterface 10 48, 11) := by decide +kernel
theorem fX10_isAllowed_11 : a_fetch 174 11 = some (.ifCond .ne 27, 14) := by decide +kernel
theorem fX10_isAllowed_14 : a_fetch 174 14 = some (.iload 1, 15) := by decide +kernel
theorem fX10_isAllowed_15 : a_fetch 174 15 = some (.iconst 4, 16) := by decide +kernel
theorem fX10_isAllowed_16 : a_fetch 174 16 = some (.if_icmp .ge 23, 19) := by decide +kernel
theorem fX10_isAllowed_19 : a_fetch 174 19 = some (.iconst 1, 20) := by decide +kernel
theorem fX10_isAllowed_20 : a_fetch 174 20 = some (.goto 101, 23) := by decide +kernel
theorem fX10_isAllowed_23 : a_fetch 174 23 = some (.iconst 0, 24) := by decide +kernel
theorem fX10_isAllowed_24 : a_fetch 174 24 = some (.goto 101, 27) := by decide +kernel
theorem fX10_isAllowed_27 : a_fetch 174 27 = some (.aload 0, 28) := by decide +kernel
theorem fX10_isAllowed_28 : a_fetch 174 28 = some (.invokeinterface 10 48, 31) := by decide +kernel
theorem fX10_isAllowed_31 : a_fetch 174 31 = some (.iconst 1, 32) := by decide +kernel
theorem fX10_isAllowed_32 : a_fetch 174 32 = some (.if_icmp .ne 58, 35) := by decide +kernel
theorem fX10_isAllowed_35 : a_fetch 174 35 = some (.iload 1, 36) := by decide +kernel
theorem fX10_isAllowed_36 : a_fetch 174 36 = some (.iconst 2, 37) := by decide +kernel
theorem fX10_isAllowed_37 : a_fetch 174 37 = some (.if_icmp .eq 50, 40) := by decide +kernel
theorem fX10_isAllowed_40 : a_fetch 174 40 = some (.iload 1, 41) := by decide +kernel
theorem fX10_isAllowed_41 : a_fetch 174 41 = some (.iconst 4, 42) := by decide +kernel
theorem fX10_isAllowed_42 : a_fetch 174 42 = some (.if_icmp .eq 50, 45) := by decide +kernel
theorem fX10_isAllowed_45 : a_fetch 174 45 = some (.iload 1, 46) := by decide +kernel
theorem fX10_isAllowed_46 : a_fetch 174 46 = some (.iconst 5, 47) := by decide +kernel
theorem fX10_isAllowed_47 : a_fetch 174 47 = some (.if_icmp .ne 54, 50) := by decide +kernel
theorem fX10_isAllowed_50 : a_fetch 174 50 = some (.iconst 1, 51) := by decide +kernel
theorem fX10_isAllowed_51 : a_fetch 174 51 = some (.goto 101, 54) := by decide +kernel
theorem fX10_isAllowed_54 : a_fetch 174 54 = some (.iconst 0, 55) := by decide +kernel
theorem fX10_isAllowed_55 : a_fetch 174 55 = some (.goto 101, 58) := by decide +kernel
theorem fX10_isAllowed_58 : a_fetch 174 58 = some (.aload 0, 59) := by decide +kernel
theorem fX10_isAllowed_59 : a_fetch 174 59 = some (.invokeinterface 10 48, 62) := by decide +kernel
theorem fX10_isAllowed_62 : a_fetch 174 62 = some (.iconst 2, 63) := by decide +kernel
theorem fX10_isAllowed_63 : a_fetch 174 63 = some (.if_icmp .ne 90, 66) := by decide +kernel
theorem fX10_isAllowed_66 : a_fetch 174 66 = some (.iload 1, 67) := by decide +kernel
theorem fX10_isAllowed_67 : a_fetch 174 67 = some (.iconst 2, 68) := by decide +kernel
theorem fX10_isAllowed_68 : a_fetch 174 68 = some (.if_icmp .eq 82, 71) := by decide +kernel
theorem fX10_isAllowed_71 : a_fetch 174 71 = some (.iload 1, 72) := by decide +kernel
theorem fX10_isAllowed_72 : a_fetch 174 72 = some (.iconst 3, 73) := by decide +kernel
theorem fX10_isAllowed_73 : a_fetch 174 73 = some (.if_icmp .eq 82, 76) := by decide +kernel
theorem fX10_isAllowed_76 : a_fetch 174 76 = some (.iload 1, 77) := by decide +kernel
theorem fX10_isAllowed_77 : a_fetch 174 77 = some (.iconst 6, 79) := by decide +kernel
theorem fX10_isAllowed_79 : a_fetch 174 79 = some (.if_icmp .ne 86, 82) := by decide +kernel
theorem fX10_isAllowed_82 : a_fetch 174 82 = some (.iconst 1, 83) := by decide +kernel
theorem fX10_isAllowed_83 : a_fetch 174 83 = some (.goto 101, 86) := by decide +kernel
theorem fX10_isAllowed_86 : a_fetch 174 86 = some (.iconst 0, 87) := by decide +kernel
theorem fX10_isAllowed_87 : a_fetch 174 87 = some (.goto 101, 90) := by decide +kernel
theorem fX10_isAllowed_90 : a_fetch 174 90 = some (.iload 1, 91) := by decide +kernel
theorem fX10_isAllowed_91 : a_fetch 174 91 = some (.iconst 6, 93) := by decide +kernel
theorem fX10_isAllowed_93 : a_fetch 174 93 = some (.if_icmp .le 100, 96) := by decide +kernel
theorem fX10_isAllowed_96 : a_fetch 174 96 = some (.iconst 1, 97) := by decide +kernel
theorem fX10_isAllowed_97 : a_fetch 174 97 = some (.goto 101, 100) := by decide +kernel
theorem fX10_isAllowed_100 : a_fetch 174 100 = some (.iconst 0, 101) := by decide +kernel
theorem fX10_isAllowed_101 : a_fetch 174 101 = some (.ireturn, 102) := by decide +kernel
theorem fX10_isFull_0 : a_fetch 175 0 = some (.aload 0, 1) := by decide +kernel
theorem fX10_isFull_1 : a_fetch 175 1 = some (.invokeinterface 10 5, 4) := by decide +kernel
theorem fX10_isFull_4 : a_fetch 175 4 = some (.ifCond .ne 23, 7) := by decide +kernel
theorem fX10_isFull_7 : a_fetch 175 7 = some (.aload 0, 8) := by decide +kernel
theorem fX10_isFull_8 : a_fetch 175 8 = some (.invokeinterface 10 36, 11) := by decide +kernel
theorem fX10_isFull_11 : a_fetch 175 11 = some (.iload 1, 12) := by decide +kernel
theorem fX10_isFull_12 : a_fetch 175 12 = some (.iaload, 13) := by decide +kernel
theorem fX10_isFull_13 : a_fetch 175 13 = some (.iload 2, 14) := by decide +kernel
theorem fX10_isFull_14 : a_fetch 175 14 = some (.if_icmp .ne 23, 17) := by decide +kernel
theorem fX10_isFull_17 : a_fetch 175 17 = some (.aload 0, 18) := by decide +kernel
theorem fX10_isFull_18 : a_fetch 175 18 = some (.iconst 5, 19) := by decide +kernel
theorem fX10_isFull_19 : a_fetch 175 19 = some (.iload 3, 20) := by decide +kernel
theorem fX10_isFull_20 : a_fetch 175 20 = some (.invokevirtual 162, 23) := by decide +kernel
theorem fX10_isFull_23 : a_fetch 175 23 = some (.aload 0, 24) := by decide +kernel
theorem fX10_isFull_24 : a_fetch 175 24 = some (.invokeinterface 10 5, 27) := by decide +kernel
theorem fX10_isFull_27 : a_fetch 175 27 = some (.ifCond .eq 34, 30) := by decide +kernel
theorem fX10_isFull_30 : a_fetch 175 30 = some (.iconst 1, 31) := by decide +kernel
theorem fX10_isFull_31 : a_fetch 175 31 = some (.goto 35, 34) := by decide +kernel
theorem fX10_isFull_34 : a_fetch 175 34 = some (.iconst 0, 35) := by decide +kernel
theorem fX10_isFull_35 : a_fetch 175 35 = some (.ireturn, 36) := by decide +kernel
theorem fX10_nameOf_0 : a_fetch 176 0 = some (.iconst 0, 1) := by decide +kernel
theorem fX10_nameOf_1 : a_fetch 176 1 = some (.istore 4, 3) := by decide +kernel
theorem fX10_nameOf_3 : a_fetch 176 3 = some (.iload 4, 5) := by decide +kernel
theorem fX10_nameOf_5 : a_fetch 176 5 = some (.aload 0, 6) := by decide +kernel
theorem fX10_nameOf_6 : a_fetch 176 6 = some (.invokeinterface 10 36, 9) := by decide +kernel
theorem fX10_nameOf_9 : a_fetch 176 9 = some (.iload 1, 10) := by decide +kernel
theorem fX10_nameOf_10 : a_fetch 176 10 = some (.iaload, 11) := by decide +kernel
theorem fX10_nameOf_11 : a_fetch 176 11 = some (.if_icmp .ge 40, 14) := by decide +kernel
theorem fX10_nameOf_14 : a_fetch 176 14 = some (.aload 0, 15) := by decide +kernel
theorem fX10_nameOf_15 : a_fetch 176 15 = some (.invokeinterface 10 37, 18) := by decide +kernel
theorem fX10_nameOf_18 : a_fetch 176 18 = some (.iconst 10, 20) := by decide +kernel
theorem fX10_nameOf_20 : a_fetch 176 20 = some (.iload 1, 21) := by decide +kernel
theorem fX10_nameOf_21 : a_fetch 176 21 = some (.imul, 22) := by decide +kernel
theorem fX10_nameOf_22 : a_fetch 176 22 = some (.iload 4, 24) := by decide +kernel
theorem fX10_nameOf_24 : a_fetch 176 24 = some (.iadd, 25) := by decide +kernel
theorem fX10_nameOf_25 : a_fetch 176 25 = some (.laload, 26) := by decide +kernel
theorem fX10_nameOf_26 : a_fetch 176 26 = some (.lload 2, 27) := by decide +kernel
theorem fX10_nameOf_27 : a_fetch 176 27 = some (.lcmp, 28) := by decide +kernel
theorem fX10_nameOf_28 : a_fetch 176 28 = some (.ifCond .ne 34, 31) := by decide +kernel
theorem fX10_nameOf_31 : a_fetch 176 31 = some (.iload 4, 33) := by decide +kernel
theorem fX10_nameOf_33 : a_fetch 176 33 = some (.ireturn, 34) := by decide +kernel
theorem fX10_nameOf_34 : a_fetch 176 34 = some (.iinc 4 1, 37) := by decide +kernel
theorem fX10_nameOf_37 : a_fetch 176 37 = some (.goto 3, 40) := by decide +kernel
theorem fX10_nameOf_40 : a_fetch 176 40 = some (.iconst (-1), 41) := by decide +kernel
theorem fX10_nameOf_41 : a_fetch 176 41 = some (.ireturn, 42) := by decide +kernel
theorem fX10_newName_0 : a_fetch 177 0 = some (.aload 0, 1) := by decide +kernel
theorem fX10_newName_1 : a_fetch 177 1 = some (.invokevirtual 173, 4) := by decide +kernel
theorem fX10_newName_4 : a_fetch 177 4 = some (.lstore 1, 5) := by decide +kernel
theorem fX10_newName_5 : a_fetch 177 5 = some (.iconst 0, 6) := by decide +kernel
theorem fX10_newName_6 : a_fetch 177 6 = some (.istore 3, 7) := by decide +kernel
theorem fX10_newName_7 : a_fetch 177 7 = some (.iload 3, 8) := by decide +kernel
theorem fX10_newName_8 : a_fetch 177 8 = some (.iconst 2, 9) := by decide +kernel
theorem fX10_newName_9 : a_fetch 177 9 = some (.if_icmp .ge 44, 12) := by decide +kernel
theorem fX10_newName_12 : a_fetch 177 12 = some (.aload 0, 13) := by decide +kernel
theorem fX10_newName_13 : a_fetch 177 13 = some (.invokeinterface 10 5, 16) := by decide +kernel
theorem fX10_newName_16 : a_fetch 177 16 = some (.ifCond .ne 38, 19) := by decide +kernel
theorem fX10_newName_19 : a_fetch 177 19 = some (.aload 0, 20) := by decide +kernel
theorem fX10_newName_20 : a_fetch 177 20 = some (.iload 3, 21) := by decide +kernel
theorem fX10_newName_21 : a_fetch 177 21 = some (.lload 1, 22) := by decide +kernel
theorem fX10_newName_22 : a_fetch 177 22 = some (.invokevirtual 176, 25) := by decide +kernel
theorem fX10_newName_25 : a_fetch 177 25 = some (.iconst (-1), 26) := by decide +kernel
theorem fX10_newName_26 : a_fetch 177 26 = some (.if_icmp .eq 38, 29) := by decide +kernel
theorem fX10_newName_29 : a_fetch 177 29 = some (.aload 0, 30) := by decide +kernel
theorem fX10_newName_30 : a_fetch 177 30 = some (.iconst 3, 31) := by decide +kernel
theorem fX10_newName_31 : a_fetch 177 31 = some (.aload 0, 32) := by decide +kernel
theorem fX10_newName_32 : a_fetch 177 32 = some (.invokeinterface 10 35, 35) := by decide +kernel
theorem fX10_newName_35 : a_fetch 177 35 = some (.invokevirtual 162, 38) := by decide +kernel
theorem fX10_newName_38 : a_fetch 177 38 = some (.iinc 3 1, 41) := by decide +kernel
theorem fX10_newName_41 : a_fetch 177 41 = some (.goto 7, 44) := by decide +kernel
theorem fX10_newName_44 : a_fetch 177 44 = some (.lload 1, 45) := by decide +kernel
theorem fX10_newName_45 : a_fetch 177 45 = some (.lreturn, 46) := by decide +kernel
theorem fX10_oneOf_0 : a_fetch 178 0 = some (.aload 0, 1) := by decide +kernel
theorem fX10_oneOf_1 : a_fetch 178 1 = some (.invokevirtual 173, 4) := by decide +kernel
theorem fX10_oneOf_4 : a_fetch 178 4 = some (.lstore 2, 5) := by decide +kernel
theorem fX10_oneOf_5 : a_fetch 178 5 = some (.aload 0, 6) := by decide +kernel
theorem fX10_oneOf_6 : a_fetch 178 6 = some (.iload 1, 7) := by decide +kernel
theorem fX10_oneOf_7 : a_fetch 178 7 = some (.lload 2, 8) := by decide +kernel
theorem fX10_oneOf_8 : a_fetch 178 8 = some (.invokevirtual 176, 11) := by decide +kernel
theorem fX10_oneOf_11 : a_fetch 178 11 = some (.istore 4, 13) := by decide +kernel
theorem fX10_oneOf_13 : a_fetch 178 13 = some (.aload 0, 14) := by decide +kernel
theorem fX10_oneOf_14 : a_fetch 178 14 = some (.invokeinterface 10 5, 17) := by decide +kernel
theorem fX10_oneOf_17 : a_fetch 178 17 = some (.ifCond .ne 35, 20) := by decide +kernel
theorem fX10_oneOf_20 : a_fetch 178 20 = some (.iload 4, 22) := by decide +kernel
theorem fX10_oneOf_22 : a_fetch 178 22 = some (.iconst (-1), 23) := by decide +kernel
theorem fX10_oneOf_23 : a_fetch 178 23 = some (.if_icmp .ne 35, 26) := by decide +kernel
theorem fX10_oneOf_26 : a_fetch 178 26 = some (.aload 0, 27) := by decide +kernel
theorem fX10_oneOf_27 : a_fetch 178 27 = some (.iconst 3, 28) := by decide +kernel
theorem fX10_oneOf_28 : a_fetch 178 28 = some (.aload 0, 29) := by decide +kernel
theorem fX10_oneOf_29 : a_fetch 178 29 = some (.invokeinterface 10 35, 32) := by decide +kernel
theorem fX10_oneOf_32 : a_fetch 178 32 = some (.invokevirtual 162, 35) := by decide +kernel
theorem fX10_oneOf_35 : a_fetch 178 35 = some (.aload 0, 36) := by decide +kernel
theorem fX10_oneOf_36 : a_fetch 178 36 = some (.invokeinterface 10 5, 39) := by decide +kernel
theorem fX10_oneOf_39 : a_fetch 178 39 = some (.ifCond .ne 47, 42) := by decide +kernel
theorem fX10_oneOf_42 : a_fetch 178 42 = some (.iload 4, 44) := by decide +kernel
theorem fX10_oneOf_44 : a_fetch 178 44 = some (.goto 48, 47) := by decide +kernel
theorem fX10_oneOf_47 : a_fetch 178 47 = some (.iconst 0, 48) := by decide +kernel
theorem fX10_oneOf_48 : a_fetch 178 48 = some (.ireturn, 49) := by decide +kernel
theorem fX10_personTold_0 : a_fetch 179 0 = some (.aload 0, 1) := by decide +kernel
theorem fX10_personTold_1 : a_fetch 179 1 = some (.iconst 0, 2) := by decide +kernel
theorem fX10_personTold_2 : a_fetch 179 2 = some (.iconst 10, 4) := by decide +kernel
theorem fX10_personTold_4 : a_fetch 179 4 = some (.iload 1, 5) := by decide +kernel
theorem fX10_personTold_5 : a_fetch 179 5 = some (.invokevirtual 175, 8) := by decide +kernel
theorem fX10_personTold_8 : a_fetch 179 8 = some (.ifCond .eq 12, 11) := by decide +kernel
theorem fX10_personTold_11 : a_fetch 179 11 = some (.return_, 12) := by decide +kernel
theorem fX10_personTold_12 : a_fetch 179 12 = some (.aload 0, 13) := by decide +kernel
theorem fX10_personTold_13 : a_fetch 179 13 = some (.invokeinterface 10 36, 16) := by decide +kernel
theorem fX10_personTold_16 : a_fetch 179 16 = some (.iconst 0, 17) := by decide +kernel
theorem fX10_personTold_17 : a_fetch 179 17 = some (.iaload, 18) := by decide +kernel
theorem fX10_personTold_18 : a_fetch 179 18 = some (.istore 2, 19) := by decide +kernel
theorem fX10_personTold_19 : a_fetch 179 19 = some (.aload 0, 20) := by decide +kernel
theorem fX10_personTold_20 : a_fetch 179 20 = some (.invokevirtual 177, 23) := by decide +kernel
theorem fX10_personTold_23 : a_fetch 179 23 = some (.lstore 3, 24) := by decide +kernel
theorem fX10_personTold_24 : a_fetch 179 24 = some (.aload 0, 25) := by decide +kernel
theorem fX10_personTold_25 : a_fetch 179 25 = some (.aload 0, 26) := by decide +kernel
theorem fX10_personTold_26 : a_fetch 179 26 = some (.invokeinterface 10 12, 29) := by decide +kernel
theorem fX10_personTold_29 : a_fetch 179 29 = some (.invokevirtual 168, 32) := by decide +kernel
theorem fX10_personTold_32 : a_fetch 179 32 = some (.aload 0, 33) := by decide +kernel
theorem fX10_personTold_33 : a_fetch 179 33 = some (.iconst 0, 34) := by decide +kernel
theorem fX10_personTold_34 : a_fetch 179 34 = some (.iconst 9, 36) := by decide +kernel
theorem fX10_personTold_36 : a_fetch 179 36 = some (.invokevirtual 171, 39) := by decide +kernel
theorem fX10_personTold_39 : a_fetch 179 39 = some (.istore 5, 41) := by decide +kernel
theorem fX10_personTold_41 : a_fetch 179 41 = some (.aload 0, 42) := by decide +kernel
theorem fX10_personTold_42 : a_fetch 179 42 = some (.invokeinterface 10 5, 45) := by decide +kernel
theorem fX10_personTold_45 : a_fetch 179 45 = some (.ifCond .eq 49, 48) := by decide +kernel
theorem fX10_personTold_48 : a_fetch 179 48 = some (.return_, 49) := by decide +kernel
theorem fX10_personTold_49 : a_fetch 179 49 = some (.aload 0, 50) := by decide +kernel
theorem fX10_personTold_50 : a_fetch 179 50 = some (.invokeinterface 10 37, 53) := by decide +kernel
theorem fX10_personTold_53 : a_fetch 179 53 = some (.iload 2, 54) := by decide +kernel
theorem fX10_personTold_54 : a_fetch 179 54 = some (.lload 3, 55) := by decide +kernel
theorem fX10_personTold_55 : a_fetch 179 55 = some (.lastore, 56) := by decide +kernel
theorem fX10_personTold_56 : a_fetch 179 56 = some (.aload 0, 57) := by decide +kernel
theorem fX10_personTold_57 : a_fetch 179 57 = some (.invokeinterface 10 38, 60) := by decide +kernel
theorem fX10_personTold_60 : a_fetch 179 60 = some (.iload 2, 61) := by decide +kernel
theorem fX10_personTold_61 : a_fetch 179 61 = some (.iload 5, 63) := by decide +kernel
theorem fX10_personTold_63 : a_fetch 179 63 = some (.iastore, 64) := by decide +kernel
theorem fX10_personTold_64 : a_fetch 179 64 = some (.aload 0, 65) := by decide +kernel
theorem fX10_personTold_65 : a_fetch 179 65 = some (.invokeinterface 10 40, 68) := by decide +kernel
theorem fX10_personTold_68 : a_fetch 179 68 = some (.iload 2, 69) := by decide +kernel
theorem fX10_personTold_69 : a_fetch 179 69 = some (.iconst (-1), 70) := by decide +kernel
theorem fX10_personTold_70 : a_fetch 179 70 = some (.iastore, 71) := by decide +kernel
theorem fX10_personTold_71 : a_fetch 179 71 = some (.aload 0, 72) := by decide +kernel
theorem fX10_personTold_72 : a_fetch 179 72 = some (.invokeinterface 10 41, 75) := by decide +kernel
theorem fX10_personTold_75 : a_fetch 179 75 = some (.iload 2, 76) := by decide +kernel
theorem fX10_personTold_76 : a_fetch 179 76 = some (.iconst (-1), 77) := by decide +kernel
theorem fX10_personTold_77 : a_fetch 179 77 = some (.iastore, 78) := by decide +kernel
theorem fX10_personTold_78 : a_fetch 179 78 = some (.iconst 0, 79) := by decide +kernel
theorem fX10_personTold_79 : a_fetch 179 79 = some (.istore 6, 81) := by decide +kernel
theorem fX10_personTold_81 : a_fetch 179 81 = some (.iload 6, 83) := by decide +kernel
theorem fX10_personTold_83 : a_fetch 179 83 = some (.iconst 10, 85) := by decide +kernel
theorem fX10_personTold_85 : a_fetch 179 85 = some (.if_icmp .ge 142, 88) := by decide +kernel
theorem fX10_personTold_88 : a_fetch 179 88 = some (.aload 0, 89) := by decide +kernel
theorem fX10_personTold_89 : a_fetch 179 89 = some (.invokeinterface 10 42, 92) := by decide +kernel
theorem fX10_personTold_92 : a_fetch 179 92 = some (.iconst 10, 94) := by decide +kernel
theorem fX10_personTold_94 : a_fetch 179 94 = some (.iload 2, 95) := by decide +kernel
theorem fX10_personTold_95 : a_fetch 179 95 = some (.imul, 96) := by decide +kernel
theorem fX10_personTold_96 : a_fetch 179 96 = some (.iload 6, 98) := by decide +kernel
theorem fX10_personTold_98 : a_fetch 179 98 = some (.iadd, 99) := by decide +kernel
theorem fX10_personTold_99 : a_fetch 179 99 = some (.iload 6, 101) := by decide +kernel
theorem fX10_personTold_101 : a_fetch 179 101 = some (.iload 2, 102) := by decide +kernel
theorem fX10_personTold_102 : a_fetch 179 102 = some (.if_icmp .ne 110, 105) := by decide +kernel
theorem fX10_personTold_105 : a_fetch 179 105 = some (.iconst 99, 107) := by decide +kernel
theorem fX10_personTold_107 : a_fetch 179 107 = some (.goto 111, 110) := by decide +kernel
theorem fX10_personTold_110 : a_fetch 179 110 = some (.iconst 0, 111) := by decide +kernel
theorem fX10_personTold_111 : a_fetch 179 111 = some (.iastore, 112) := by decide +kernel
theorem fX10_personTold_112 : a_fetch 179 112 = some (.aload 0, 113) := by decide +kernel
theorem fX10_personTold_113 : a_fetch 179 113 = some (.invokeinterface 10 42, 116) := by decide +kernel
theorem fX10_personTold_116 : a_fetch 179 116 = some (.iconst 10, 118) := by decide +kernel
theorem fX10_personTold_118 : a_fetch 179 118 = some (.iload 6, 120) := by decide +kernel
theorem fX10_personTold_120 : a_fetch 179 120 = some (.imul, 121) := by decide +kernel
theorem fX10_personTold_121 : a_fetch 179 121 = some (.iload 2, 122) := by decide +kernel
theorem fX10_personTold_122 : a_fetch 179 122 = some (.iadd, 123) := by decide +kernel
theorem fX10_personTold_123 : a_fetch 179 123 = some (.iload 6, 125) := by decide +kernel
theorem fX10_personTold_125 : a_fetch 179 125 = some (.iload 2, 126) := by decide +kernel
theorem fX10_personTold_126 : a_fetch 179 126 = some (.if_icmp .ne 134, 129) := by decide +kernel
theorem fX10_personTold_129 : a_fetch 179 129 = some (.iconst 99, 131) := by decide +kernel
theorem fX10_personTold_131 : a_fetch 179 131 = some (.goto 135, 134) := by decide +kernel
theorem fX10_personTold_134 : a_fetch 179 134 = some (.iconst 0, 135) := by decide +kernel
theorem fX10_personTold_135 : a_fetch 179 135 = some (.iastore, 136) := by decide +kernel
theorem fX10_personTold_136 : a_fetch 179 136 = some (.iinc 6 1, 139) := by decide +kernel
theorem fX10_personTold_139 : a_fetch 179 139 = some (.goto 81, 142) := by decide +kernel
theorem fX10_personTold_142 : a_fetch 179 142 = some (.aload 0, 143) := by decide +kernel
theorem fX10_personTold_143 : a_fetch 179 143 = some (.invokeinterface 10 36, 146) := by decide +kernel
theorem fX10_personTold_146 : a_fetch 179 146 = some (.iconst 0, 147) := by decide +kernel
theorem fX10_personTold_147 : a_fetch 179 147 = some (.dup2, 148) := by decide +kernel
theorem fX10_personTold_148 : a_fetch 179 148 = some (.iaload, 149) := by decide +kernel
theorem fX10_personTold_149 : a_fetch 179 149 = some (.iconst 1, 150) := by decide +kernel
theorem fX10_personTold_150 : a_fetch 179 150 = some (.iadd, 151) := by decide +kernel
theorem fX10_personTold_151 : a_fetch 179 151 = some (.iastore, 152) := by decide +kernel
theorem fX10_personTold_152 : a_fetch 179 152 = some (.return_, 153) := by decide +kernel
theorem fX10_taskTold_0 : a_fetch 180 0 = some (.aload 0, 1) := by decide +kernel
theorem fX10_taskTold_1 : a_fetch 180 1 = some (.iconst 1, 2) := by decide +kernel
theorem fX10_taskTold_2 : a_fetch 180 2 = some (.iconst 8, 4) := by decide +kernel
theorem fX10_taskTold_4 : a_fetch 180 4 = some (.iload 1, 5) := by decide +kernel
theorem fX10_taskTold_5 : a_fetch 180 5 = some (.invokevirtual 175, 8) := by decide +kernel
theorem fX10_taskTold_8 : a_fetch 180 8 = some (.ifCond .eq 12, 11) := by decide +kernel
theorem fX10_taskTold_11 : a_fetch 180 11 = some (.return_, 12) := by decide +kernel
theorem fX10_taskTold_12 : a_fetch 180 12 = some (.aload 0, 13) := by decide +kernel
theorem fX10_taskTold_13 : a_fetch 180 13 = some (.invokevirtual 177, 16) := by decide +kernel
theorem fX10_taskTold_16 : a_fetch 180 16 = some (.lstore 2, 17) := by decide +kernel
theorem fX10_taskTold_17 : a_fetch 180 17 = some (.aload 0, 18) := by decide +kernel
theorem fX10_taskTold_18 : a_fetch 180 18 = some (.aload 0, 19) := by decide +kernel
theorem fX10_taskTold_19 : a_fetch 180 19 = some (.invokeinterface 10 14, 22) := by decide +kernel
theorem fX10_taskTold_22 : a_fetch 180 22 = some (.invokevirtual 168, 25) := by decide +kernel
theorem fX10_taskTold_25 : a_fetch 180 25 = some (.aload 0, 26) := by decide +kernel
theorem fX10_taskTold_26 : a_fetch 180 26 = some (.iconst 0, 27) := by decide +kernel
theorem fX10_taskTold_27 : a_fetch 180 27 = some (.iconst 99, 29) := by decide +kernel
theorem fX10_taskTold_29 : a_fetch 180 29 = some (.invokevirtual 171, 32) := by decide +kernel
theorem fX10_taskTold_32 : a_fetch 180 32 = some (.istore 4, 34) := by decide +kernel
theorem fX10_taskTold_34 : a_fetch 180 34 = some (.aload 0, 35) := by decide +kernel
theorem fX10_taskTold_35 : a_fetch 180 35 = some (.invokeinterface 10 5, 38) := by decide +kernel
theorem fX10_taskTold_38 : a_fetch 180 38 = some (.ifCond .eq 42, 41) := by decide +kernel
theorem fX10_taskTold_41 : a_fetch 180 41 = some (.return_, 42) := by decide +kernel
theorem fX10_taskTold_42 : a_fetch 180 42 = some (.aload 0, 43) := by decide +kernel
theorem fX10_taskTold_43 : a_fetch 180 43 = some (.invokeinterface 10 37, 46) := by decide +kernel
theorem fX10_taskTold_46 : a_fetch 180 46 = some (.iconst 10, 48) := by decide +kernel
theorem fX10_taskTold_48 : a_fetch 180 48 = some (.aload 0, 49) := by decide +kernel
theorem fX10_taskTold_49 : a_fetch 180 49 = some (.invokeinterface 10 36, 52) := by decide +kernel
theorem fX10_taskTold_52 : a_fetch 180 52 = some (.iconst 1, 53) := by decide +kernel
theorem fX10_taskTold_53 : a_fetch 180 53 = some (.iaload, 54) := by decide +kernel
theorem fX10_taskTold_54 : a_fetch 180 54 = some (.iadd, 55) := by decide +kernel
theorem fX10_taskTold_55 : a_fetch 180 55 = some (.lload 2, 56) := by decide +kernel
theorem fX10_taskTold_56 : a_fetch 180 56 = some (.lastore, 57) := by decide +kernel
theorem fX10_taskTold_57 : a_fetch 180 57 = some (.aload 0, 58) := by decide +kernel
theorem fX10_taskTold_58 : a_fetch 180 58 = some (.invokeinterface 10 38, 61) := by decide +kernel
theorem fX10_taskTold_61 : a_fetch 180 61 = some (.iconst 10, 63) := by decide +kernel
theorem fX10_taskTold_63 : a_fetch 180 63 = some (.aload 0, 64) := by decide +kernel
theorem fX10_taskTold_64 : a_fetch 180 64 = some (.invokeinterface 10 36, 67) := by decide +kernel
theorem fX10_taskTold_67 : a_fetch 180 67 = some (.iconst 1, 68) := by decide +kernel
theorem fX10_taskTold_68 : a_fetch 180 68 = some (.iaload, 69) := by decide +kernel
theorem fX10_taskTold_69 : a_fetch 180 69 = some (.iadd, 70) := by decide +kernel
theorem fX10_taskTold_70 : a_fetch 180 70 = some (.iload 4, 72) := by decide +kernel
theorem fX10_taskTold_72 : a_fetch 180 72 = some (.iastore, 73) := by decide +kernel
theorem fX10_taskTold_73 : a_fetch 180 73 = some (.aload 0, 74) := by decide +kernel
theorem fX10_taskTold_74 : a_fetch 180 74 = some (.invokeinterface 10 36, 77) := by decide +kernel
theorem fX10_taskTold_77 : a_fetch 180 77 = some (.iconst 1, 78) := by decide +kernel
theorem fX10_taskTold_78 : a_fetch 180 78 = some (.dup2, 79) := by decide +kernel
theorem fX10_taskTold_79 : a_fetch 180 79 = some (.iaload, 80) := by decide +kernel
theorem fX10_taskTold_80 : a_fetch 180 80 = some (.iconst 1, 81) := by decide +kernel
theorem fX10_taskTold_81 : a_fetch 180 81 = some (.iadd, 82) := by decide +kernel
theorem fX10_taskTold_82 : a_fetch 180 82 = some (.iastore, 83) := by decide +kernel
theorem fX10_taskTold_83 : a_fetch 180 83 = some (.return_, 84) := by decide +kernel
theorem fX10_dutyTold_0 : a_fetch 181 0 = some (.aload 0, 1) := by decide +kernel
theorem fX10_dutyTold_1 : a_fetch 181 1 = some (.iconst 2, 2) := by decide +kernel
theorem fX10_dutyTold_2 : a_fetch 181 2 = some (.iconst 24, 4) := by decide +kernel
theorem fX10_dutyTold_4 : a_fetch 181 4 = some (.iload 1, 5) := by decide +kernel
theorem fX10_dutyTold_5 : a_fetch 181 5 = some (.invokevirtual 175, 8) := by decide +kernel
theorem fX10_dutyTold_8 : a_fetch 181 8 = some (.ifCond .eq 12, 11) := by decide +kernel
theorem fX10_dutyTold_11 : a_fetch 181 11 = some (.return_, 12) := by decide +kernel
theorem fX10_dutyTold_12 : a_fetch 181 12 = some (.aload 0, 13) := by decide +kernel
theorem fX10_dutyTold_13 : a_fetch 181 13 = some (.iconst 0, 14) := by decide +kernel
theorem fX10_dutyTold_14 : a_fetch 181 14 = some (.invokevirtual 178, 17) := by decide +kernel
theorem fX10_dutyTold_17 : a_fetch 181 17 = some (.istore 2, 18) := by decide +kernel
theorem fX10_dutyTold_18 : a_fetch 181 18 = some (.aload 0, 19) := by decide +kernel
theorem fX10_dutyTold_19 : a_fetch 181 19 = some (.iconst 1, 20) := by decide +kernel
theorem fX10_dutyTold_20 : a_fetch 181 20 = some (.invokevirtual 178, 23) := by decide +kernel
theorem fX10_dutyTold_23 : a_fetch 181 23 = some (.istore 3, 24) := by decide +kernel
theorem fX10_dutyTold_24 : a_fetch 181 24 = some (.aload 0, 25) := by decide +kernel
theorem fX10_dutyTold_25 : a_fetch 181 25 = some (.aload 0, 26) := by decide +kernel
theorem fX10_dutyTold_26 : a_fetch 181 26 = some (.invokeinterface 10 16, 29) := by decide +kernel
theorem fX10_dutyTold_29 : a_fetch 181 29 = some (.invokevirtual 168, 32) := by decide +kernel
theorem fX10_dutyTold_32 : a_fetch 181 32 = some (.aload 0, 33) := by decide +kernel
theorem fX10_dutyTold_33 : a_fetch 181 33 = some (.iconst 0, 34) := by decide +kernel
theorem fX10_dutyTold_34 : a_fetch 181 34 = some (.iconst 23, 36) := by decide +kernel
theorem fX10_dutyTold_36 : a_fetch 181 36 = some (.invokevirtual 171, 39) := by decide +kernel
theorem fX10_dutyTold_39 : a_fetch 181 39 = some (.istore 4, 41) := by decide +kernel
theorem fX10_dutyTold_41 : a_fetch 181 41 = some (.iconst 0, 42) := by decide +kernel
theorem fX10_dutyTold_42 : a_fetch 181 42 = some (.istore 5, 44) := by decide +kernel
theorem fX10_dutyTold_44 : a_fetch 181 44 = some (.iload 5, 46) := by decide +kernel
theorem fX10_dutyTold_46 : a_fetch 181 46 = some (.aload 0, 47) := by decide +kernel
theorem fX10_dutyTold_47 : a_fetch 181 47 = some (.invokeinterface 10 36, 50) := by decide +kernel
theorem fX10_dutyTold_50 : a_fetch 181 50 = some (.iconst 2, 51) := by decide +kernel
theorem fX10_dutyTold_51 : a_fetch 181 51 = some (.iaload, 52) := by decide +kernel
theorem fX10_dutyTold_52 : a_fetch 181 52 = some (.if_icmp .ge 121, 55) := by decide +kernel
theorem fX10_dutyTold_55 : a_fetch 181 55 = some (.aload 0, 56) := by decide +kernel
theorem fX10_dutyTold_56 : a_fetch 181 56 = some (.invokeinterface 10 5, 59) := by decide +kernel
theorem fX10_dutyTold_59 : a_fetch 181 59 = some (.ifCond .ne 115, 62) := by decide +kernel
theorem fX10_dutyTold_62 : a_fetch 181 62 = some (.aload 0, 63) := by decide +kernel
theorem fX10_dutyTold_63 : a_fetch 181 63 = some (.invokeinterface 10 39, 66) := by decide +kernel
theorem fX10_dutyTold_66 : a_fetch 181 66 = some (.iconst 3, 67) := by decide +kernel
theorem fX10_dutyTold_67 : a_fetch 181 67 = some (.iload 5, 69) := by decide +kernel
theorem fX10_dutyTold_69 : a_fetch 181 69 = some (.imul, 70) := by decide +kernel
theorem fX10_dutyTold_70 : a_fetch 181 70 = some (.iaload, 71) := by decide +kernel
theorem fX10_dutyTold_71 : a_fetch 181 71 = some (.iload 2, 72) := by decide +kernel
theorem fX10_dutyTold_72 : a_fetch 181 72 = some (.if_icmp .ne 115, 75) := by decide +kernel
theorem fX10_dutyTold_75 : a_fetch 181 75 = some (.aload 0, 76) := by decide +kernel
theorem fX10_dutyTold_76 : a_fetch 181 76 = some (.invokeinterface 10 39, 79) := by decide +kernel
theorem fX10_dutyTold_79 : a_fetch 181 79 = some (.iconst 3, 80) := by decide +kernel
theorem fX10_dutyTold_80 : a_fetch 181 80 = some (.iload 5, 82) := by decide +kernel
theorem fX10_dutyTold_82 : a_fetch 181 82 = some (.imul, 83) := by decide +kernel
theorem fX10_dutyTold_83 : a_fetch 181 83 = some (.iconst 1, 84) := by decide +kernel
theorem fX10_dutyTold_84 : a_fetch 181 84 = some (.iadd, 85) := by decide +kernel
theorem fX10_dutyTold_85 : a_fetch 181 85 = some (.iaload, 86) := by decide +kernel
theorem fX10_dutyTold_86 : a_fetch 181 86 = some (.iload 3, 87) := by decide +kernel
theorem fX10_dutyTold_87 : a_fetch 181 87 = some (.if_icmp .ne 115, 90) := by decide +kernel
theorem fX10_dutyTold_90 : a_fetch 181 90 = some (.aload 0, 91) := by decide +kernel
theorem fX10_dutyTold_91 : a_fetch 181 91 = some (.invokeinterface 10 39, 94) := by decide +kernel
theorem fX10_dutyTold_94 : a_fetch 181 94 = some (.iconst 3, 95) := by decide +kernel
theorem fX10_dutyTold_95 : a_fetch 181 95 = some (.iload 5, 97) := by decide +kernel
theorem fX10_dutyTold_97 : a_fetch 181 97 = some (.imul, 98) := by decide +kernel
theorem fX10_dutyTold_98 : a_fetch 181 98 = some (.iconst 2, 99) := by decide +kernel
theorem fX10_dutyTold_99 : a_fetch 181 99 = some (.iadd, 100) := by decide +kernel
theorem fX10_dutyTold_100 : a_fetch 181 100 = some (.iaload, 101) := by decide +kernel
theorem fX10_dutyTold_101 : a_fetch 181 101 = some (.iload 4, 103) := by decide +kernel
theorem fX10_dutyTold_103 : a_fetch 181 103 = some (.if_icmp .ne 115, 106) := by decide +kernel
theorem fX10_dutyTold_106 : a_fetch 181 106 = some (.aload 0, 107) := by decide +kernel
theorem fX10_dutyTold_107 : a_fetch 181 107 = some (.iconst 2, 108) := by decide +kernel
theorem fX10_dutyTold_108 : a_fetch 181 108 = some (.aload 0, 109) := by decide +kernel
theorem fX10_dutyTold_109 : a_fetch 181 109 = some (.invokeinterface 10 10, 112) := by decide +kernel
theorem fX10_dutyTold_112 : a_fetch 181 112 = some (.invokevirtual 162, 115) := by decide +kernel
theorem fX10_dutyTold_115 : a_fetch 181 115 = some (.iinc 5 1, 118) := by decide +kernel
theorem fX10_dutyTold_118 : a_fetch 181 118 = some (.goto 44, 121) := by decide +kernel
theorem fX10_dutyTold_121 : a_fetch 181 121 = some (.aload 0, 122) := by decide +kernel
theorem fX10_dutyTold_122 : a_fetch 181 122 = some (.invokeinterface 10 5, 125) := by decide +kernel
theorem fX10_dutyTold_125 : a_fetch 181 125 = some (.ifCond .eq 129, 128) := by decide +kernel
theorem fX10_dutyTold_128 : a_fetch 181 128 = some (.return_, 129) := by decide +kernel
theorem fX10_dutyTold_129 : a_fetch 181 129 = some (.iconst 3, 130) := by decide +kernel
theorem fX10_dutyTold_130 : a_fetch 181 130 = some (.aload 0, 131) := by decide +kernel
theorem fX10_dutyTold_131 : a_fetch 181 131 = some (.invokeinterface 10 36, 134) := by decide +kernel
theorem fX10_dutyTold_134 : a_fetch 181 134 = some (.iconst 2, 135) := by decide +kernel
theorem fX10_dutyTold_135 : a_fetch 181 135 = some (.iaload, 136) := by decide +kernel
theorem fX10_dutyTold_136 : a_fetch 181 136 = some (.imul, 137) := by decide +kernel
theorem fX10_dutyTold_137 : a_fetch 181 137 = some (.istore 5, 139) := by decide +kernel
theorem fX10_dutyTold_139 : a_fetch 181 139 = some (.aload 0, 140) := by decide +kernel
theorem fX10_dutyTold_140 : a_fetch 181 140 = some (.invokeinterface 10 39, 143) := by decide +kernel
theorem fX10_dutyTold_143 : a_fetch 181 143 = some (.iload 5, 145) := by decide +kernel
theorem fX10_dutyTold_145 : a_fetch 181 145 = some (.iload 2, 146) := by decide +kernel
theorem fX10_dutyTold_146 : a_fetch 181 146 = some (.iastore, 147) := by decide +kernel
theorem fX10_dutyTold_147 : a_fetch 181 147 = some (.aload 0, 148) := by decide +kernel
theorem fX10_dutyTold_148 : a_fetch 181 148 = some (.invokeinterface 10 39, 151) := by decide +kernel
theorem fX10_dutyTold_151 : a_fetch 181 151 = some (.iload 5, 153) := by decide +kernel
theorem fX10_dutyTold_153 : a_fetch 181 153 = some (.iconst 1, 154) := by decide +kernel
theorem fX10_dutyTold_154 : a_fetch 181 154 = some (.iadd, 155) := by decide +kernel
theorem fX10_dutyTold_155 : a_fetch 181 155 = some (.iload 3, 156) := by decide +kernel
theorem fX10_dutyTold_156 : a_fetch 181 156 = some (.iastore, 157) := by decide +kernel
theorem fX10_dutyTold_157 : a_fetch 181 157 = some (.aload 0, 158) := by decide +kernel
theorem fX10_dutyTold_158 : a_fetch 181 158 = some (.invokeinterface 10 39, 161) := by decide +kernel
theorem fX10_dutyTold_161 : a_fetch 181 161 = some (.iload 5, 163) := by decide +kernel
theorem fX10_dutyTold_163 : a_fetch 181 163 = some (.iconst 2, 164) := by decide +kernel
theorem fX10_dutyTold_164 : a_fetch 181 164 = some (.iadd, 165) := by decide +kernel
theorem fX10_dutyTold_165 : a_fetch 181 165 = some (.iload 4, 167) := by decide +kernel
theorem fX10_dutyTold_167 : a_fetch 181 167 = some (.iastore, 168) := by decide +kernel
theorem fX10_dutyTold_168 : a_fetch 181 168 = some (.aload 0, 169) := by decide +kernel
theorem fX10_dutyTold_169 : a_fetch 181 169 = some (.invokeinterface 10 36, 172) := by decide +kernel
theorem fX10_dutyTold_172 : a_fetch 181 172 = some (.iconst 2, 173) := by decide +kernel
theorem fX10_dutyTold_173 : a_fetch 181 173 = some (.dup2, 174) := by decide +kernel
theorem fX10_dutyTold_174 : a_fetch 181 174 = some (.iaload, 175) := by decide +kernel
theorem fX10_dutyTold_175 : a_fetch 181 175 = some (.iconst 1, 176) := by decide +kernel
theorem fX10_dutyTold_176 : a_fetch 181 176 = some (.iadd, 177) := by decide +kernel
theorem fX10_dutyTold_177 : a_fetch 181 177 = some (.iastore, 178) := by decide +kernel
theorem fX10_dutyTold_178 : a_fetch 181 178 = some (.return_, 179) := by decide +kernel
theorem fX10_coverTold_0 : a_fetch 182 0 = some (.aload 0, 1) := by decide +kernel
theorem fX10_coverTold_1 : a_fetch 182 1 = some (.iconst 0, 2) := by decide +kernel
theorem fX10_coverTold_2 : a_fetch 182 2 = some (.invokevirtual 178, 5) := by decide +kernel
theorem fX10_coverTold_5 : a_fetch 182 5 = some (.istore 1, 6) := by decide +kernel
theorem fX10_coverTold_6 : a_fetch 182 6 = some (.aload 0, 7) := by decide +kernel
theorem fX10_coverTold_7 : a_fetch 182 7 = some (.invokeinterface 10 5, 10) := by decide +kernel
theorem fX10_coverTold_10 : a_fetch 182 10 = some (.ifCond .ne 32, 13) := by decide +kernel
theorem fX10_coverTold_13 : a_fetch 182 13 = some (.aload 0, 14) := by decide +kernel
theorem fX10_coverTold_14 : a_fetch 182 14 = some (.invokeinterface 10 40, 17) := by decide +kernel
theorem fX10_coverTold_17 : a_fetch 182 17 = some (.iload 1, 18) := by decide +kernel
theorem fX10_coverTold_18 : a_fetch 182 18 = some (.iaload, 19) := by decide +kernel
theorem fX10_coverTold_19 : a_fetch 182 19 = some (.iconst (-1), 20) := by decide +kernel
theorem fX10_coverTold_20 : a_fetch 182 20 = some (.if_icmp .eq 32, 23) := by decide +kernel
theorem fX10_coverTold_23 : a_fetch 182 23 = some (.aload 0, 24) := by decide +kernel
theorem fX10_coverTold_24 : a_fetch 182 24 = some (.iconst 3, 25) := by decide +kernel
theorem fX10_coverTold_25 : a_fetch 182 25 = some (.aload 0, 26) := by decide +kernel
theorem fX10_coverTold_26 : a_fetch 182 26 = some (.invokeinterface 10 35, 29) := by decide +kernel
theorem fX10_coverTold_29 : a_fetch 182 29 = some (.invokevirtual 162, 32) := by decide +kernel
theorem fX10_coverTold_32 : a_fetch 182 32 = some (.aload 0, 33) := by decide +kernel
theorem fX10_coverTold_33 : a_fetch 182 33 = some (.iconst 0, 34) := by decide +kernel
theorem fX10_coverTold_34 : a_fetch 182 34 = some (.invokevirtual 178, 37) := by decide +kernel
theorem fX10_coverTold_37 : a_fetch 182 37 = some (.istore 2, 38) := by decide +kernel
theorem fX10_coverTold_38 : a_fetch 182 38 = some (.aload 0, 39) := by decide +kernel
theorem fX10_coverTold_39 : a_fetch 182 39 = some (.invokeinterface 10 5, 42) := by decide +kernel
theorem fX10_coverTold_42 : a_fetch 182 42 = some (.ifCond .ne 69, 45) := by decide +kernel
theorem fX10_coverTold_45 : a_fetch 182 45 = some (.iload 1, 46) := by decide +kernel
theorem fX10_coverTold_46 : a_fetch 182 46 = some (.iload 2, 47) := by decide +kernel
theorem fX10_coverTold_47 : a_fetch 182 47 = some (.if_icmp .eq 60, 50) := by decide +kernel
theorem fX10_coverTold_50 : a_fetch 182 50 = some (.aload 0, 51) := by decide +kernel
theorem fX10_coverTold_51 : a_fetch 182 51 = some (.invokeinterface 10 41, 54) := by decide +kernel
theorem fX10_coverTold_54 : a_fetch 182 54 = some (.iload 2, 55) := by decide +kernel
theorem fX10_coverTold_55 : a_fetch 182 55 = some (.iaload, 56) := by decide +kernel
theorem fX10_coverTold_56 : a_fetch 182 56 = some (.iconst (-1), 57) := by decide +kernel
theorem fX10_coverTold_57 : a_fetch 182 57 = some (.if_icmp .eq 69, 60) := by decide +kernel
theorem fX10_coverTold_60 : a_fetch 182 60 = some (.aload 0, 61) := by decide +kernel
theorem fX10_coverTold_61 : a_fetch 182 61 = some (.iconst 3, 62) := by decide +kernel
theorem fX10_coverTold_62 : a_fetch 182 62 = some (.aload 0, 63) := by decide +kernel
theorem fX10_coverTold_63 : a_fetch 182 63 = some (.invokeinterface 10 35, 66) := by decide +kernel
theorem fX10_coverTold_66 : a_fetch 182 66 = some (.invokevirtual 162, 69) := by decide +kernel
theorem fX10_coverTold_69 : a_fetch 182 69 = some (.aload 0, 70) := by decide +kernel
theorem fX10_coverTold_70 : a_fetch 182 70 = some (.invokeinterface 10 5, 73) := by decide +kernel
theorem fX10_coverTold_73 : a_fetch 182 73 = some (.ifCond .eq 77, 76) := by decide +kernel
theorem fX10_coverTold_76 : a_fetch 182 76 = some (.return_, 77) := by decide +kernel
theorem fX10_coverTold_77 : a_fetch 182 77 = some (.aload 0, 78) := by decide +kernel
theorem fX10_coverTold_78 : a_fetch 182 78 = some (.invokeinterface 10 40, 81) := by decide +kernel
theorem fX10_coverTold_81 : a_fetch 182 81 = some (.iload 1, 82) := by decide +kernel
theorem fX10_coverTold_82 : a_fetch 182 82 = some (.iload 2, 83) := by decide +kernel
theorem fX10_coverTold_83 : a_fetch 182 83 = some (.iastore, 84) := by decide +kernel
theorem fX10_coverTold_84 : a_fetch 182 84 = some (.aload 0, 85) := by decide +kernel
theorem fX10_coverTold_85 : a_fetch 182 85 = some (.invokeinterface 10 41, 88) := by decide +kernel
theorem fX10_coverTold_88 : a_fetch 182 88 = some (.iload 2, 89) := by decide +kernel
theorem fX10_coverTold_89 : a_fetch 182 89 = some (.iload 1, 90) := by decide +kernel
theorem fX10_coverTold_90 : a_fetch 182 90 = some (.iastore, 91) := by decide +kernel
theorem fX10_coverTold_91 : a_fetch 182 91 = some (.return_, 92) := by decide +kernel
theorem fX10_knownTold_0 : a_fetch 183 0 = some (.aload 0, 1) := by decide +kernel
theorem fX10_knownTold_1 : a_fetch 183 1 = some (.iconst 0, 2) := by decide +kernel
theorem fX10_knownTold_2 : a_fetch 183 2 = some (.invokevirtual 178, 5) := by decide +kernel
theorem fX10_knownTold_5 : a_fetch 183 5 = some (.istore 1, 6) := by decide +kernel
theorem fX10_knownTold_6 : a_fetch 183 6 = some (.aload 0, 7) := by decide +kernel
theorem fX10_knownTold_7 : a_fetch 183 7 = some (.iconst 0, 8) := by decide +kernel
theorem fX10_knownTold_8 : a_fetch 183 8 = some (.invokevirtual 178, 11) := by decide +kernel
theorem fX10_knownTold_11 : a_fetch 183 11 = some (.istore 2, 12) := by decide +kernel
theorem fX10_knownTold_12 : a_fetch 183 12 = some (.aload 0, 13) := by decide +kernel
theorem fX10_knownTold_13 : a_fetch 183 13 = some (.invokeinterface 10 5, 16) := by decide +kernel
theorem fX10_knownTold_16 : a_fetch 183 16 = some (.ifCond .ne 33, 19) := by decide +kernel
theorem fX10_knownTold_19 : a_fetch 183 19 = some (.iload 1, 20) := by decide +kernel
theorem fX10_knownTold_20 : a_fetch 183 20 = some (.iload 2, 21) := by decide +kernel
theorem fX10_knownTold_21 : a_fetch 183 21 = some (.if_icmp .ne 33, 24) := by decide +kernel
theorem fX10_knownTold_24 : a_fetch 183 24 = some (.aload 0, 25) := by decide +kernel
theorem fX10_knownTold_25 : a_fetch 183 25 = some (.iconst 3, 26) := by decide +kernel
theorem fX10_knownTold_26 : a_fetch 183 26 = some (.aload 0, 27) := by decide +kernel
theorem fX10_knownTold_27 : a_fetch 183 27 = some (.invokeinterface 10 35, 30) := by decide +kernel
theorem fX10_knownTold_30 : a_fetch 183 30 = some (.invokevirtual 162, 33) := by decide +kernel
theorem fX10_knownTold_33 : a_fetch 183 33 = some (.aload 0, 34) := by decide +kernel
theorem fX10_knownTold_34 : a_fetch 183 34 = some (.iconst 0, 35) := by decide +kernel
theorem fX10_knownTold_35 : a_fetch 183 35 = some (.iconst 99, 37) := by decide +kernel
theorem fX10_knownTold_37 : a_fetch 183 37 = some (.invokevirtual 171, 40) := by decide +kernel
theorem fX10_knownTold_40 : a_fetch 183 40 = some (.istore 3, 41) := by decide +kernel
theorem fX10_knownTold_41 : a_fetch 183 41 = some (.aload 0, 42) := by decide +kernel
theorem fX10_knownTold_42 : a_fetch 183 42 = some (.invokeinterface 10 5, 45) := by decide +kernel
theorem fX10_knownTold_45 : a_fetch 183 45 = some (.ifCond .ne 60, 48) := by decide +kernel
theorem fX10_knownTold_48 : a_fetch 183 48 = some (.aload 0, 49) := by decide +kernel
theorem fX10_knownTold_49 : a_fetch 183 49 = some (.invokeinterface 10 42, 52) := by decide +kernel
theorem fX10_knownTold_52 : a_fetch 183 52 = some (.iconst 10, 54) := by decide +kernel
theorem fX10_knownTold_54 : a_fetch 183 54 = some (.iload 1, 55) := by decide +kernel
theorem fX10_knownTold_55 : a_fetch 183 55 = some (.imul, 56) := by decide +kernel
theorem fX10_knownTold_56 : a_fetch 183 56 = some (.iload 2, 57) := by decide +kernel
theorem fX10_knownTold_57 : a_fetch 183 57 = some (.iadd, 58) := by decide +kernel
theorem fX10_knownTold_58 : a_fetch 183 58 = some (.iload 3, 59) := by decide +kernel
theorem fX10_knownTold_59 : a_fetch 183 59 = some (.iastore, 60) := by decide +kernel
theorem fX10_knownTold_60 : a_fetch 183 60 = some (.return_, 61) := by decide +kernel
theorem fX10_codesTold_0 : a_fetch 184 0 = some (.aload 0, 1) := by decide +kernel
theorem fX10_codesTold_1 : a_fetch 184 1 = some (.invokeinterface 10 5, 4) := by decide +kernel
theorem fX10_codesTold_4 : a_fetch 184 4 = some (.ifCond .ne 23, 7) := by decide +kernel
theorem fX10_codesTold_7 : a_fetch 184 7 = some (.aload 0, 8) := by decide +kernel
theorem fX10_codesTold_8 : a_fetch 184 8 = some (.invokeinterface 10 43, 11) := by decide +kernel
theorem fX10_codesTold_11 : a_fetch 184 11 = some (.iload 1, 12) := by decide +kernel
theorem fX10_codesTold_12 : a_fetch 184 12 = some (.iaload, 13) := by decide +kernel
theorem fX10_codesTold_13 : a_fetch 184 13 = some (.iconst (-1), 14) := by decide +kernel
theorem fX10_codesTold_14 : a_fetch 184 14 = some (.if_icmp .eq 23, 17) := by decide +kernel
theorem fX10_codesTold_17 : a_fetch 184 17 = some (.aload 0, 18) := by decide +kernel
theorem fX10_codesTold_18 : a_fetch 184 18 = some (.iconst 5, 19) := by decide +kernel
theorem fX10_codesTold_19 : a_fetch 184 19 = some (.iload 2, 20) := by decide +kernel
theorem fX10_codesTold_20 : a_fetch 184 20 = some (.invokevirtual 162, 23) := by decide +kernel
theorem fX10_codesTold_23 : a_fetch 184 23 = some (.aload 0, 24) := by decide +kernel
theorem fX10_codesTold_24 : a_fetch 184 24 = some (.invokeinterface 10 5, 27) := by decide +kernel
theorem fX10_codesTold_27 : a_fetch 184 27 = some (.ifCond .eq 31, 30) := by decide +kernel
theorem fX10_codesTold_30 : a_fetch 184 30 = some (.return_, 31) := by decide +kernel
theorem fX10_codesTold_31 : a_fetch 184 31 = some (.aload 0, 32) := by decide +kernel
theorem fX10_codesTold_32 : a_fetch 184 32 = some (.iload 1, 33) := by decide +kernel
theorem fX10_codesTold_33 : a_fetch 184 33 = some (.iconst 2, 34) := by decide +kernel
theorem fX10_codesTold_34 : a_fetch 184 34 = some (.if_icmp .ge 41, 37) := by decide +kernel
theorem fX10_codesTold_37 : a_fetch 184 37 = some (.iconst 0, 38) := by decide +kernel
theorem fX10_codesTold_38 : a_fetch 184 38 = some (.goto 44, 41) := by decide +kernel
theorem fX10_codesTold_41 : a_fetch 184 41 = some (.iload 1, 42) := by decide +kernel
theorem fX10_codesTold_42 : a_fetch 184 42 = some (.iconst 1, 43) := by decide +kernel
theorem fX10_codesTold_43 : a_fetch 184 43 = some (.isub, 44) := by decide +kernel
theorem fX10_codesTold_44 : a_fetch 184 44 = some (.multianewarray 10 48, 47) := by decide +kernel
theorem fX10_codesTold_47 : a_fetch 184 47 = some (.aload 0, 48) := by decide +kernel
theorem fX10_codesTold_48 : a_fetch 184 48 = some (.iconst 0, 49) := by decide +kernel
theorem fX10_codesTold_49 : a_fetch 184 49 = some (.multianewarray 10 98, 52) := by decide +kernel
theorem fX10_codesTold_52 : a_fetch 184 52 = some (.aload 0, 53) := by decide +kernel
theorem fX10_codesTold_53 : a_fetch 184 53 = some (.iconst 0, 54) := by decide +kernel
theorem fX10_codesTold_54 : a_fetch 184 54 = some (.multianewarray 10 100, 57) := by decide +kernel
theorem fX10_codesTold_57 : a_fetch 184 57 = some (.aload 0, 58) := by decide +kernel
theorem fX10_codesTold_58 : a_fetch 184 58 = some (.iconst 0, 59) := by decide +kernel
theorem fX10_codesTold_59 : a_fetch 184 59 = some (.multianewarray 10 101, 62) := by decide +kernel
theorem fX10_codesTold_62 : a_fetch 184 62 = some (.aload 0, 63) := by decide +kernel
theorem fX10_codesTold_63 : a_fetch 184 63 = some (.iconst 0, 64) := by decide +kernel
theorem fX10_codesTold_64 : a_fetch 184 64 = some (.multianewarray 10 102, 67) := by decide +kernel
theorem fX10_codesTold_67 : a_fetch 184 67 = some (.iload 1, 68) := by decide +kernel
theorem fX10_codesTold_68 : a_fetch 184 68 = some (.iconst 2, 69) := by decide +kernel
theorem fX10_codesTold_69 : a_fetch 184 69 = some (.if_icmp .ge 79, 72) := by decide +kernel
theorem fX10_codesTold_72 : a_fetch 184 72 = some (.aload 0, 73) := by decide +kernel
theorem fX10_codesTold_73 : a_fetch 184 73 = some (.invokevirtual 265, 76) := by decide +kernel
theorem fX10_codesTold_76 : a_fetch 184 76 = some (.goto 83, 79) := by decide +kernel
theorem fX10_codesTold_79 : a_fetch 184 79 = some (.aload 0, 80) := by decide +kernel
theorem fX10_codesTold_80 : a_fetch 184 80 = some (.invokevirtual 269, 83) := by decide +kernel
theorem fX10_codesTold_83 : a_fetch 184 83 = some (.aload 0, 84) := by decide +kernel
theorem fX10_codesTold_84 : a_fetch 184 84 = some (.invokeinterface 10 5, 87) := by decide +kernel
theorem fX10_codesTold_87 : a_fetch 184 87 = some (.ifCond .eq 91, 90) := by decide +kernel
theorem fX10_codesTold_90 : a_fetch 184 90 = some (.return_, 91) := by decide +kernel
theorem fX10_codesTold_91 : a_fetch 184 91 = some (.aload 0, 92) := by decide +kernel
theorem fX10_codesTold_92 : a_fetch 184 92 = some (.invokeinterface 10 43, 95) := by decide +kernel
theorem fX10_codesTold_95 : a_fetch 184 95 = some (.iload 1, 96) := by decide +kernel
theorem fX10_codesTold_96 : a_fetch 184 96 = some (.aload 0, 97) := by decide +kernel
theorem fX10_codesTold_97 : a_fetch 184 97 = some (.invokeinterface 10 46, 100) := by decide +kernel
theorem fX10_codesTold_100 : a_fetch 184 100 = some (.iastore, 101) := by decide +kernel
theorem fX10_codesTold_101 : a_fetch 184 101 = some (.iconst 0, 102) := by decide +kernel
theorem fX10_codesTold_102 : a_fetch 184 102 = some (.istore 3, 103) := by decide +kernel
theorem fX10_codesTold_103 : a_fetch 184 103 = some (.iload 3, 104) := by decide +kernel
theorem fX10_codesTold_104 : a_fetch 184 104 = some (.aload 0, 105) := by decide +kernel
theorem fX10_codesTold_105 : a_fetch 184 105 = some (.invokeinterface 10 98, 108) := by decide +kernel
theorem fX10_codesTold_108 : a_fetch 184 108 = some (.if_icmp .ge 142, 111) := by decide +kernel
theorem fX10_codesTold_111 : a_fetch 184 111 = some (.aload 0, 112) := by decide +kernel
theorem fX10_codesTold_112 : a_fetch 184 112 = some (.invokeinterface 10 45, 115) := by decide +kernel
theorem fX10_codesTold_115 : a_fetch 184 115 = some (.aload 0, 116) := by decide +kernel
theorem fX10_codesTold_116 : a_fetch 184 116 = some (.invokeinterface 10 46, 119) := by decide +kernel
theorem fX10_codesTold_119 : a_fetch 184 119 = some (.aload 0, 120) := by decide +kernel
theorem fX10_codesTold_120 : a_fetch 184 120 = some (.invokeinterface 10 97, 123) := by decide +kernel
theorem fX10_codesTold_123 : a_fetch 184 123 = some (.iload 3, 124) := by decide +kernel
theorem fX10_codesTold_124 : a_fetch 184 124 = some (.iaload, 125) := by decide +kernel
theorem fX10_codesTold_125 : a_fetch 184 125 = some (.iastore, 126) := by decide +kernel
theorem fX10_codesTold_126 : a_fetch 184 126 = some (.aload 0, 127) := by decide +kernel
theorem fX10_codesTold_127 : a_fetch 184 127 = some (.dup, 128) := by decide +kernel
theorem fX10_codesTold_128 : a_fetch 184 128 = some (.invokeinterface 10 46, 131) := by decide +kernel
theorem fX10_codesTold_131 : a_fetch 184 131 = some (.iconst 1, 132) := by decide +kernel
theorem fX10_codesTold_132 : a_fetch 184 132 = some (.iadd, 133) := by decide +kernel
theorem fX10_codesTold_133 : a_fetch 184 133 = some (.multianewarray 10 46, 136) := by decide +kernel
theorem fX10_codesTold_136 : a_fetch 184 136 = some (.iinc 3 1, 139) := by decide +kernel
theorem fX10_codesTold_139 : a_fetch 184 139 = some (.goto 103, 142) := by decide +kernel
theorem fX10_codesTold_142 : a_fetch 184 142 = some (.aload 0, 143) := by decide +kernel
theorem fX10_codesTold_143 : a_fetch 184 143 = some (.invokeinterface 10 44, 146) := by decide +kernel
theorem fX10_codesTold_146 : a_fetch 184 146 = some (.iload 1, 147) := by decide +kernel
theorem fX10_codesTold_147 : a_fetch 184 147 = some (.aload 0, 148) := by decide +kernel
theorem fX10_codesTold_148 : a_fetch 184 148 = some (.invokeinterface 10 46, 151) := by decide +kernel
theorem fX10_codesTold_151 : a_fetch 184 151 = some (.iastore, 152) := by decide +kernel
theorem fX10_codesTold_152 : a_fetch 184 152 = some (.return_, 153) := by decide +kernel
theorem fX10_statementTold_0 : a_fetch 185 0 = some (.aload 0, 1) := by decide +kernel
theorem fX10_statementTold_1 : a_fetch 185 1 = some (.invokeinterface 10 2, 4) := by decide +kernel
theorem fX10_statementTold_4 : a_fetch 185 4 = some (.istore 1, 5) := by decide +kernel
theorem fX10_statementTold_5 : a_fetch 185 5 = some (.aload 0, 6) := by decide +kernel
theorem fX10_statementTold_6 : a_fetch 185 6 = some (.invokeinterface 10 47, 9) := by decide +kernel
theorem fX10_statementTold_9 : a_fetch 185 9 = some (.iconst 70, 11) := by decide +kernel
theorem fX10_statementTold_11 : a_fetch 185 11 = some (.if_icmp .ne 21, 14) := by decide +kernel
theorem fX10_statementTold_14 : a_fetch 185 14 = some (.aload 0, 15) := by decide +kernel
theorem fX10_statementTold_15 : a_fetch 185 15 = some (.iconst 5, 16) := by decide +kernel
theorem fX10_statementTold_16 : a_fetch 185 16 = some (.iload 1, 17) := by decide +kernel
theorem fX10_statementTold_17 : a_fetch 185 17 = some (.invokevirtual 162, 20) := by decide +kernel
theorem fX10_statementTold_20 : a_fetch 185 20 = some (.return_, 21) := by decide +kernel
theorem fX10_statementTold_21 : a_fetch 185 21 = some (.aload 0, 22) := by decide +kernel
theorem fX10_statementTold_22 : a_fetch 185 22 = some (.aload 0, 23) := by decide +kernel
theorem fX10_statementTold_23 : a_fetch 185 23 = some (.invokeinterface 10 11, 26) := by decide +kernel
theorem fX10_statementTold_26 : a_fetch 185 26 = some (.invokevirtual 167, 29) := by decide +kernel
theorem fX10_statementTold_29 : a_fetch 185 29 = some (.ifCond .eq 40, 32) := by decide +kernel
theorem fX10_statementTold_32 : a_fetch 185 32 = some (.aload 0, 33) := by decide +kernel
theorem fX10_statementTold_33 : a_fetch 185 33 = some (.iload 1, 34) := by decide +kernel
theorem fX10_statementTold_34 : a_fetch 185 34 = some (.invokevirtual 179, 37) := by decide +kernel
theorem fX10_statementTold_37 : a_fetch 185 37 = some (.goto 188, 40) := by decide +kernel
theorem fX10_statementTold_40 : a_fetch 185 40 = some (.aload 0, 41) := by decide +kernel
theorem fX10_statementTold_41 : a_fetch 185 41 = some (.aload 0, 42) := by decide +kernel
theorem fX10_statementTold_42 : a_fetch 185 42 = some (.invokeinterface 10 13, 45) := by decide +kernel
theorem fX10_statementTold_45 : a_fetch 185 45 = some (.invokevirtual 167, 48) := by decide +kernel
theorem fX10_statementTold_48 : a_fetch 185 48 = some (.ifCond .eq 59, 51) := by decide +kernel
theorem fX10_statementTold_51 : a_fetch 185 51 = some (.aload 0, 52) := by decide +kernel
theorem fX10_statementTold_52 : a_fetch 185 52 = some (.iload 1, 53) := by decide +kernel
theorem fX10_statementTold_53 : a_fetch 185 53 = some (.invokevirtual 180, 56) := by decide +kernel
theorem fX10_statementTold_56 : a_fetch 185 56 = some (.goto 188, 59) := by decide +kernel
theorem fX10_statementTold_59 : a_fetch 185 59 = some (.aload 0, 60) := by decide +kernel
theorem fX10_statementTold_60 : a_fetch 185 60 = some (.aload 0, 61) := by decide +kernel
theorem fX10_statementTold_61 : a_fetch 185 61 = some (.invokeinterface 10 15, 64) := by decide +kernel
theorem fX10_statementTold_64 : a_fetch 185 64 = some (.invokevirtual 167, 67) := by decide +kernel
theorem fX10_statementTold_67 : a_fetch 185 67 = some (.ifCond .eq 78, 70) := by decide +kernel
theorem fX10_statementTold_70 : a_fetch 185 70 = some (.aload 0, 71) := by decide +kernel
theorem fX10_statementTold_71 : a_fetch 185 71 = some (.iload 1, 72) := by decide +kernel
theorem fX10_statementTold_72 : a_fetch 185 72 = some (.invokevirtual 181, 75) := by decide +kernel
theorem fX10_statementTold_75 : a_fetch 185 75 = some (.goto 188, 78) := by decide +kernel
theorem fX10_statementTold_78 : a_fetch 185 78 = some (.aload 0, 79) := by decide +kernel
theorem fX10_statementTold_79 : a_fetch 185 79 = some (.aload 0, 80) := by decide +kernel
theorem fX10_statementTold_80 : a_fetch 185 80 = some (.invokeinterface 10 17, 83) := by decide +kernel
theorem fX10_statementTold_83 : a_fetch 185 83 = some (.invokevirtual 167, 86) := by decide +kernel
theorem fX10_statementTold_86 : a_fetch 185 86 = some (.ifCond .eq 96, 89) := by decide +kernel
theorem fX10_statementTold_89 : a_fetch 185 89 = some (.aload 0, 90) := by decide +kernel
theorem fX10_statementTold_90 : a_fetch 185 90 = some (.invokevirtual 182, 93) := by decide +kernel
theorem fX10_statementTold_93 : a_fetch 185 93 = some (.goto 188, 96) := by decide +kernel
theorem fX10_statementTold_96 : a_fetch 185 96 = some (.aload 0, 97) := by decide +kernel
theorem fX10_statementTold_97 : a_fetch 185 97 = some (.aload 0, 98) := by decide +kernel
theorem fX10_statementTold_98 : a_fetch 185 98 = some (.invokeinterface 10 18, 101) := by decide +kernel
theorem fX10_statementTold_101 : a_fetch 185 101 = some (.invokevirtual 167, 104) := by decide +kernel
theorem fX10_statementTold_104 : a_fetch 185 104 = some (.ifCond .eq 114, 107) := by decide +kernel
theorem fX10_statementTold_107 : a_fetch 185 107 = some (.aload 0, 108) := by decide +kernel
theorem fX10_statementTold_108 : a_fetch 185 108 = some (.invokevirtual 183, 111) := by decide +kernel
theorem fX10_statementTold_111 : a_fetch 185 111 = some (.goto 188, 114) := by decide +kernel
theorem fX10_statementTold_114 : a_fetch 185 114 = some (.aload 0, 115) := by decide +kernel
theorem fX10_statementTold_115 : a_fetch 185 115 = some (.aload 0, 116) := by decide +kernel
theorem fX10_statementTold_116 : a_fetch 185 116 = some (.invokeinterface 10 19, 119) := by decide +kernel
theorem fX10_statementTold_119 : a_fetch 185 119 = some (.invokevirtual 167, 122) := by decide +kernel
theorem fX10_statementTold_122 : a_fetch 185 122 = some (.ifCond .eq 134, 125) := by decide +kernel
theorem fX10_statementTold_125 : a_fetch 185 125 = some (.aload 0, 126) := by decide +kernel
theorem fX10_statementTold_126 : a_fetch 185 126 = some (.iconst 0, 127) := by decide +kernel
theorem fX10_statementTold_127 : a_fetch 185 127 = some (.iload 1, 128) := by decide +kernel
theorem fX10_statementTold_128 : a_fetch 185 128 = some (.invokevirtual 184, 131) := by decide +kernel
theorem fX10_statementTold_131 : a_fetch 185 131 = some (.goto 188, 134) := by decide +kernel
theorem fX10_statementTold_134 : a_fetch 185 134 = some (.aload 0, 135) := by decide +kernel
theorem fX10_statementTold_135 : a_fetch 185 135 = some (.aload 0, 136) := by decide +kernel
theorem fX10_statementTold_136 : a_fetch 185 136 = some (.invokeinterface 10 20, 139) := by decide +kernel
theorem fX10_statementTold_139 : a_fetch 185 139 = some (.invokevirtual 167, 142) := by decide +kernel
theorem fX10_statementTold_142 : a_fetch 185 142 = some (.ifCond .eq 154, 145) := by decide +kernel
theorem fX10_statementTold_145 : a_fetch 185 145 = some (.aload 0, 146) := by decide +kernel
theorem fX10_statementTold_146 : a_fetch 185 146 = some (.iconst 1, 147) := by decide +kernel
theorem fX10_statementTold_147 : a_fetch 185 147 = some (.iload 1, 148) := by decide +kernel
theorem fX10_statementTold_148 : a_fetch 185 148 = some (.invokevirtual 184, 151) := by decide +kernel
theorem fX10_statementTold_151 : a_fetch 185 151 = some (.goto 188, 154) := by decide +kernel
theorem fX10_statementTold_154 : a_fetch 185 154 = some (.aload 0, 155) := by decide +kernel
theorem fX10_statementTold_155 : a_fetch 185 155 = some (.aload 0, 156) := by decide +kernel
theorem fX10_statementTold_156 : a_fetch 185 156 = some (.invokeinterface 10 21, 159) := by decide +kernel
theorem fX10_statementTold_159 : a_fetch 185 159 = some (.invokevirtual 167, 162) := by decide +kernel
theorem fX10_statementTold_162 : a_fetch 185 162 = some (.ifCond .eq 174, 165) := by decide +kernel
theorem fX10_statementTold_165 : a_fetch 185 165 = some (.aload 0, 166) := by decide +kernel
theorem fX10_statementTold_166 : a_fetch 185 166 = some (.iconst 2, 167) := by decide +kernel
theorem fX10_statementTold_167 : a_fetch 185 167 = some (.iload 1, 168) := by decide +kernel
theorem fX10_statementTold_168 : a_fetch 185 168 = some (.invokevirtual 184, 171) := by decide +kernel
theorem fX10_statementTold_171 : a_fetch 185 171 = some (.goto 188, 174) := by decide +kernel
theorem fX10_statementTold_174 : a_fetch 185 174 = some (.aload 0, 175) := by decide +kernel
theorem fX10_statementTold_175 : a_fetch 185 175 = some (.aload 0, 176) := by decide +kernel
theorem fX10_statementTold_176 : a_fetch 185 176 = some (.invokeinterface 10 22, 179) := by decide +kernel
theorem fX10_statementTold_179 : a_fetch 185 179 = some (.invokevirtual 168, 182) := by decide +kernel
theorem fX10_statementTold_182 : a_fetch 185 182 = some (.aload 0, 183) := by decide +kernel
theorem fX10_statementTold_183 : a_fetch 185 183 = some (.iconst 3, 184) := by decide +kernel
theorem fX10_statementTold_184 : a_fetch 185 184 = some (.iload 1, 185) := by decide +kernel
theorem fX10_statementTold_185 : a_fetch 185 185 = some (.invokevirtual 184, 188) := by decide +kernel
theorem fX10_statementTold_188 : a_fetch 185 188 = some (.aload 0, 189) := by decide +kernel
theorem fX10_statementTold_189 : a_fetch 185 189 = some (.iconst 59, 191) := by decide +kernel
theorem fX10_statementTold_191 : a_fetch 185 191 = some (.invokevirtual 170, 194) := by decide +kernel
theorem fX10_statementTold_194 : a_fetch 185 194 = some (.aload 0, 195) := by decide +kernel
theorem fX10_statementTold_195 : a_fetch 185 195 = some (.dup, 196) := by decide +kernel
theorem fX10_statementTold_196 : a_fetch 185 196 = some (.invokeinterface 10 47, 199) := by decide +kernel
theorem fX10_statementTold_199 : a_fetch 185 199 = some (.iconst 1, 200) := by decide +kernel
theorem fX10_statementTold_200 : a_fetch 185 200 = some (.iadd, 201) := by decide +kernel
theorem fX10_statementTold_201 : a_fetch 185 201 = some (.multianewarray 10 47, 204) := by decide +kernel
theorem fX10_statementTold_204 : a_fetch 185 204 = some (.return_, 205) := by decide +kernel
theorem fX10_city_0 : a_fetch 186 0 = some (.aload 0, 1) := by decide +kernel
theorem fX10_city_1 : a_fetch 186 1 = some (.aload 0, 2) := by decide +kernel
theorem fX10_city_2 : a_fetch 186 2 = some (.invokeinterface 10 1, 5) := by decide +kernel
theorem fX10_city_5 : a_fetch 186 5 = some (.multianewarray 10 3, 8) := by decide +kernel
theorem fX10_city_8 : a_fetch 186 8 = some (.aload 0, 9) := by decide +kernel
theorem fX10_city_9 : a_fetch 186 9 = some (.iconst 0, 10) := by decide +kernel
theorem fX10_city_10 : a_fetch 186 10 = some (.multianewarray 10 1, 13) := by decide +kernel
theorem fX10_city_13 : a_fetch 186 13 = some (.aload 0, 14) := by decide +kernel
theorem fX10_city_14 : a_fetch 186 14 = some (.iconst 0, 15) := by decide +kernel
theorem fX10_city_15 : a_fetch 186 15 = some (.multianewarray 10 2, 18) := by decide +kernel
theorem fX10_city_18 : a_fetch 186 18 = some (.aload 0, 19) := by decide +kernel
theorem fX10_city_19 : a_fetch 186 19 = some (.iconst (-1), 20) := by decide +kernel
theorem fX10_city_20 : a_fetch 186 20 = some (.multianewarray 10 4, 23) := by decide +kernel
theorem fX10_city_23 : a_fetch 186 23 = some (.aload 0, 24) := by decide +kernel
theorem fX10_city_24 : a_fetch 186 24 = some (.iconst 0, 25) := by decide +kernel
theorem fX10_city_25 : a_fetch 186 25 = some (.multianewarray 10 5, 28) := by decide +kernel
theorem fX10_city_28 : a_fetch 186 28 = some (.aload 0, 29) := by decide +kernel
theorem fX10_city_29 : a_fetch 186 29 = some (.iconst (-1), 30) := by decide +kernel
theorem fX10_city_30 : a_fetch 186 30 = some (.multianewarray 10 6, 33) := by decide +kernel
theorem fX10_city_33 : a_fetch 186 33 = some (.aload 0, 34) := by decide +kernel
theorem fX10_city_34 : a_fetch 186 34 = some (.iconst 0, 35) := by decide +kernel
theorem fX10_city_35 : a_fetch 186 35 = some (.multianewarray 10 47, 38) := by decide +kernel
theorem fX10_city_38 : a_fetch 186 38 = some (.aload 0, 39) := by decide +kernel
theorem fX10_city_39 : a_fetch 186 39 = some (.iconst 0, 40) := by decide +kernel
theorem fX10_city_40 : a_fetch 186 40 = some (.multianewarray 10 46, 43) := by decide +kernel
theorem fX10_city_43 : a_fetch 186 43 = some (.iconst 0, 44) := by decide +kernel
theorem fX10_city_44 : a_fetch 186 44 = some (.istore 1, 45) := by decide +kernel
