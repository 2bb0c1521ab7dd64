/** Texts: what an E comes to, and at which place a text has its fault (promise 6 and the terms ahead of it). */
public final class TextsTest {
    private static int wrong = 0;
    private static int calls = 0;

    private static void due(String call, long got, long want) {
        calls++;
        if (got != want) {
            wrong++;
            System.out.println(call + " answered " + got + ", due is " + want);
        }
    }

    private static int read(KinInTheHeap x, String s) {
        for (int i = 0; i < s.length(); i++) {
            x.feed(s.charAt(i));
        }
        return x.text();
    }

    /** The fault's place is told with a ^ in front of it. */
    private static void fault(String marked) {
        int place = marked.indexOf('^');
        String s = marked.substring(0, place) + marked.substring(place + 1);
        due("fault of " + s, read(new KinInTheHeap(), s), -100 - place);
    }

    private static void right(String s) {
        due("text " + s, read(new KinInTheHeap(), s), 1);
    }

    /** Whether the E comes to v, asked by frees of a MOTE: the E less v is 0. */
    private static void value(String e, int v) {
        KinInTheHeap x = new KinInTheHeap();
        x.set(0, 0, 123);
        x.set(1, 0, 7);
        x.dust(0, 5, 16);
        x.dust(0, 6, 16);
        x.dust(0, 7, 17);
        String want = v < 0 ? "-" + -v : "" + v;
        String s = "goes 0;frees not((" + e + ")=" + want + ");draws 0;";
        due("text " + s, read(x, s), 1);
        x.force(1);
        due(e + " = " + v, x.told(0, 8), 0);
    }

    private static void values() {
        value("force", 7);
        value("number", 5);
        value("row", 2);
        value("column", 4);
        value("kin", 2);
        value("week", 123);
        value("0009", 9);
        value("2+3*4", 14);
        value("(2+3)*4", 20);
        value("9-3-2", 4);
        value("9-(3-2)", 8);
        value("2*3*4-1", 23);
        value("-2*3", -6);
        value("-2+3", 1);
        value("2--3", 5);
        value("2- - -3", -1);
        value("-(2+3)", -5);
        value("1<2", 1);
        value("2<2", 0);
        value("3<2", 0);
        value("2=2", 1);
        value("2=3", 0);
        value("1+1=2*1", 1);
        value("-1<0", 1);
        value("(1<2)=1", 1);
        value("not 0", 1);
        value("not 5", 0);
        value("not 1=2", 1);
        value("not not 7", 1);
        value("not 1 and 0", 0);
        value("not(1 and 0)", 1);
        value("2 and 4", 1);
        value("2 and 0", 0);
        value("0 or 0", 0);
        value("0 or 8", 1);
        value("1 or 1 and 0", 1);
        value("(1 or 1)and 0", 0);
        value("1 or 2 or 0", 1);
        value("3 and 2 and 1", 1);
        value("0 and 0 or 1", 1);
        value("1<2 and 2<3", 1);
        value("not 1 or 1", 1);
        value("5", 5);
        value("9999*9999*21<0", 0);
        value("9999*9999*22<0", 1);
        value("9999*9999*21+9999*9999*21<0", 1);
        value("-(9999*9999*22)<0", 0);
    }

    private static void rights() {
        right("goes force ; frees 0 ; draws 0 ;");
        right("goes force;frees 0;draws 0;");
        right("\n\n goes\nforce;frees\n0;draws(0);\n ");
        right("goes(force);frees-1;draws not 1;");
        right("goes 3*row;frees 1;draws 1;");
        right("goes(((((1)))));frees 0;draws 0;");
        right("goes(((((1)))))+(((((1)))));frees(((((1)))));draws(((((1)))));");
        right("goes-----1;frees not not not not not 1;draws not-(not-1);");
        right("goes-----1------1;frees 0;draws 0;");
        right("goes not not not not not 1 and not not not not not 1;frees 0;draws 0;");
        right("goes-1*-1+-1<-1;frees 1-1;draws 9999;");
        right("goes not(not(not 1));frees 1;draws 1;");
        StringBuilder longest = new StringBuilder("goes 1");
        String end = ";frees 0;draws 0;";
        while (longest.length() + end.length() < 159) {
            longest.append("+1");
        }
        right(longest.append(longest.length() % 2 == 0 ? " " : "").append(end).toString());
    }

    private static void structureFaults() {
        fault("^");
        fault("   ^");
        fault("goes^");
        fault("goes ^");
        fault("goes force^");
        fault("goes force;^");
        fault("goes force;frees 0;draws 0^");
        fault("goes force;frees 0;draws 0 \n ^");
        fault("goes force;frees 0;draws 0;^;");
        fault("goes force;frees 0;draws 0; ^goes");
        fault("goes force;frees 0;draws 0; ^?");
        fault("goes force;frees 0;draws 0;^xyz");
        fault("^frees 0;goes force;draws 0;");
        fault("goes force;^goes force;draws 0;");
        fault("goes force;^draws 0;frees 0;");
        fault("goes force ^frees 0;draws 0;");
        fault("goes^;frees 0;draws 0;");
        fault("^force;");
        fault("^;");
        fault("^1");
        fault("^goess 1;frees 0;draws 0;");
        fault("^goesforce;frees 0;draws 0;");
        fault("^Goes force;frees 0;draws 0;");
    }

    private static void tokenFaults() {
        fault("goes ^fo;frees 0;draws 0;");
        fault("goes ^forces;frees 0;draws 0;");
        fault("goes ^kinweek;frees 0;draws 0;");
        fault("goes ^12345;");
        fault("goes ^00000;frees 0;draws 0;");
        fault("goes ^123456789012;");
        fault("goes 1^?;");
        fault("goes 1^\t;");
        fault("goes 1^\r;");
        fault("goes 1^\u00e9;");
        fault("goes 1^\u0000;");
        fault("goes 1^>2;");
        fault("goes ^A;");
        fault("goes 1^row;");
        fault("goes row^1;");
        fault("goes 12 ^34;");
        fault("goes ^fo?;");
        fault("goes ^fo");
        fault("goes 1 ^goes;");
        fault("goes ^frees;");
        fault("goes ^12345a");
    }

    private static void sumFaults() {
        fault("goes 1+^;");
        fault("goes ^+1;");
        fault("goes ^*1;");
        fault("goes 1*^*1;");
        fault("goes 1+^+1;");
        fault("goes 1<2^<3;");
        fault("goes 1=2^=3;");
        fault("goes 1<2^=3;");
        fault("goes 1+2*3=2-1^<3;");
        fault("goes 1<^=3;");
        fault("goes ^<3;");
        fault("goes 1 or^;");
        fault("goes ^or 1;");
        fault("goes 1 or ^and 1;");
        fault("goes not^;");
        fault("goes 1 ^not 2;");
        fault("goes 1+^not 2;");
        fault("goes 1<^not 2;");
        fault("goes 1*^not 2;");
        fault("goes -^not 2;");
        fault("goes -^;");
        fault("goes (^);");
        fault("goes (1^;");
        fault("goes (1^");
        fault("goes 1^);");
        fault("goes (1)^);");
        fault("goes (1)^(1);");
        fault("goes 1^(1);");
        fault("goes (1 ^1);");
        fault("goes (1+^);");
        fault("goes (^;");
        fault("goes ((1)^;");
    }

    private static void depthFaults() {
        fault("goes (((((^(1))))));frees 0;draws 0;");
        fault("goes -----^-1;");
        fault("goes not not not not not ^not 1;");
        fault("goes (((((^-1)))));");
        fault("goes (((((^not 1)))));");
        fault("goes not not(((^(");
        fault("goes not-(-(^-1));");
        fault("goes not not not not not 1<^(1);");
        fault("goes not not not not not 1+^-1;");
        fault("goes not not not not not 1-^-1;");
        fault("goes -1+-1--1*-1+-1+-1+^not");
        fault("goes ((((1+(2)+(3)--^(4);");
        fault("goes ((((1+(2)+(3)-(^-4);");
        right("goes ((((1+(2)+(3)--4))));frees 0;draws 0;");
        right("goes not not not not not 1 or (1);frees 0;draws 0;");
        right("goes not not not(not 1<1)or(not not not 1<-1);frees 0;draws 0;");
        fault("goes not not not not(1<^-1);");
        fault("goes not(1)^);");
    }

    /** What stood on the tape ahead is nothing to the next text, nor is what would stand behind its end. */
    private static void tapeEnds() {
        KinInTheHeap x = new KinInTheHeap();
        due("a full tape of one byte each", read(x, "(".repeat(160)), -100);
        due("a full tape of digits", read(x, "1".repeat(160)), -100);
        due("a full tape of letters", read(x, "goes " + "a".repeat(155)), -105);
        due("four digits ahead of the end", read(x, "goes 1111"), -109);
        due("a word ahead of the end", read(x, "goes"), -104);
        String text = "goes force;frees 0;draws 0;";
        due("a number as the last byte", read(x, text + " ".repeat(132) + "1"), -259);
        due("a letter as the last byte", read(x, text + " ".repeat(132) + "a"), -259);
        due("a full tape that is a text", read(x, text + "\n".repeat(133)), 1);
        due("blanks alone", read(x, " ".repeat(160)), -260);
    }

    public static void main(String[] args) {
        tapeEnds();
        values();
        rights();
        structureFaults();
        tokenFaults();
        sumFaults();
        depthFaults();
        System.out.println(wrong == 0 ? calls + " answers are as due" : wrong + " answers are not as due");
        if (wrong != 0) {
            System.exit(1);
        }
    }
}
