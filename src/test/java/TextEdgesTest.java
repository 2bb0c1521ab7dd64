/**
 * Boundary cases of texts (promises 5 to 7) and of what the document says of them ahead of the promises; a test each.
 * The remark ahead of a test tells the promise, the sentence of the document, and the case.
 */
public final class TextEdgesTest extends Edges {
    private static final String RULE = "goes force;frees 0;draws 0;";

    /** What text() answers to a text on a new object. */
    private static int read(String s) {
        return fed(bare(), s).text();
    }

    /** How far a MOTE of number 5 in cell 16 goes by this E: the E itself, if it is 0 .. 9. */
    private static int e(String e) {
        return ruled(dusts(MOTE, 5, 16), "goes " + e + ";frees 0;draws 0;").told(0, 7);
    }

    /** Whether the E is this int, told as another E. */
    private static int is(String e, String v) {
        return ruled(motes(16), "goes 0;frees (" + e + ")=(" + v + ");draws 0;").told(0, 8);
    }

    private static KinInTheHeap withTexts(int n) {
        KinInTheHeap x = bare();
        for (int i = 1; i < n; i++) {
            fed(x, RULE).text();
        }
        return x;
    }

    private static void promise5() {
        KinInTheHeap x;
        // Promise 5, "A byte (0 .. 255)": 0 is one; "how many it has": 1.
        due(bare().feed(0), 1);
        // Promise 5, "A byte (0 .. 255)": 255 is one.
        due(bare().feed(255), 1);
        // Promise 5, "BAD": -1.
        due(bare().feed(-1), BAD);
        // Promise 5, "BAD": 256.
        due(bare().feed(256), BAD);
        // Promise 5, "BAD": as small as can be.
        due(bare().feed(MIN), BAD);
        // Promise 5, "BAD": as great as can be.
        due(bare().feed(MAX), BAD);
        // Promise 5, "Refusals ..; they change nothing": nothing comes by BAD.
        x = bare();
        x.feed(256);
        due(x.count(4), 0);
        // Promise 5, "THE TAPE (160 bytes at most)": the 160th comes.
        due(fed(bare(), " ".repeat(159)).feed(32), 160);
        // Promise 5, "FULL": the 161st doesn't.
        due(fed(bare(), " ".repeat(160)).feed(32), FULL);
        // Promise 5, "BAD; FULL": BAD ahead of FULL.
        due(fed(bare(), " ".repeat(160)).feed(256), BAD);
        // Promise 5, "Refusals ..; they change nothing": 160 stay by FULL.
        due(fed(bare(), " ".repeat(161)).count(4), 160);
        // Promise 5, "Refusals ..; they change nothing": the last one of 160 stays by FULL.
        due(fed(bare(), RULE + " ".repeat(160 - RULE.length()) + "?").text(), 1);
        // Promise 5, "comes behind THE TAPE: how many it has": 1 again, when a text was read.
        x = fed(bare(), RULE);
        x.text();
        due(x.feed(32), 1);
    }

    private static void promise6() {
        KinInTheHeap x;
        // Promise 6, "is a TEXT: its number": the first behind TEXT 0 is 1.
        due(read(RULE), 1);
        // Promise 6, "There are 6 TEXTS at most, TEXT 0 with them": the sixth is number 5.
        due(fed(withTexts(5), RULE).text(), 5);
        // Promise 6, "FULL (ahead of all): no TEXT more has room": a seventh.
        due(fed(withTexts(6), RULE).text(), FULL);
        // Promise 6, "FULL (ahead of all)": ahead of a FAULT, too.
        due(fed(withTexts(6), "?").text(), FULL);
        // Promise 6, "FULL (ahead of all)": THE TAPE being empty, too.
        due(withTexts(6).text(), FULL);
        // Promise 6, "(THE TAPE stays)": by FULL.
        x = fed(withTexts(6), "goes");
        x.text();
        due(x.count(4), 4);
        // Promise 6, "FULL": six texts stay.
        x = fed(withTexts(6), RULE);
        x.text();
        due(x.count(3), 6);
        // Promise 6, "THE TAPE, which is empty then".
        x = fed(bare(), RULE);
        x.text();
        due(x.count(4), 0);
        // Promise 6, "(by a FAULT, too)".
        x = fed(bare(), "goes ?");
        x.text();
        due(x.count(4), 0);
        // Promise 6, "-100 less the place of its FAULT": no text is there by a FAULT.
        x = fed(bare(), "goes ?");
        x.text();
        due(x.count(3), 1);
        // Promise 6, "its number": the next one behind a FAULT takes the number that the faulty one didn't.
        x = fed(bare(), "goes 1;frees");
        x.text();
        due(fed(x, RULE).text(), 1);
        // Promise 6, "its number": what a faulty one had stands in none that comes behind it.
        x = fed(motes(16), "goes 9;frees 1;draws ?");
        x.text();
        due(ruled(x, "goes 2;frees 0;draws 0;").told(0, 7), 2);
        // Promise 6, "its number": what a faulty one had stands in none that comes behind it, how free it was.
        x = fed(motes(16), "goes 9-1-1;frees 1;draws ?");
        x.text();
        due(ruled(x, "goes 2;frees 1-1;draws 3;").told(0, 8), 0);
        // Promise 6, "its number": what a faulty one had stands in none that comes behind it, how it drew.
        x = fed(motes(16), "goes 1+1*1;frees ?");
        x.text();
        due(ruled(x, "goes 2;frees 0;draws 3;").told(0, 9), 3);
        // Promise 6, "its number": what a faulty one left undone is nothing to the next.
        x = fed(bare(), "goes ((1+");
        x.text();
        due(fed(x, RULE).text(), 1);
        // Promise 6, "THE TAPE, which is empty then": a WORD at its end doesn't go on in what stood there ahead.
        x = fed(bare(), "goes forceforce");
        x.text();
        due(fed(x, "goes force").text(), -110);
        // Promise 6, "THE TAPE, which is empty then": a NUMBER at its end doesn't go on in what stood there ahead.
        x = fed(bare(), "goes 12345");
        x.text();
        due(fed(x, "goes 1234").text(), -109);
        // Promise 6, "while 5 of these are open": what a faulty one left open is nothing to the next.
        x = fed(bare(), "goes (((((");
        x.text();
        due(fed(x, "goes (((((1)))));frees 0;draws 0;").text(), 1);
        // Promise 6, "is a TEXT": a second one is nothing to the first.
        x = ruled(motes(16), "goes 7;frees 1;draws 2;");
        fed(x, "goes 1;frees 0;draws 3;").text();
        due(x.told(0, 7), 7);
        // Promise 6, "is a TEXT": it isn't THE RULE by that.
        x = fed(motes(16), "goes 9;frees 0;draws 0;");
        x.text();
        due(x.told(0, 7), 3);
        // Promise 6, "-100 less the place of its FAULT": place 0.
        due(read("?"), -100);
        // Promise 6, "THE TAPE (160 bytes at most)": a text as long as that.
        due(read(RULE + " ".repeat(160 - RULE.length())), 1);
        // Promise 6, "THE TAPE (160 bytes at most)": a text as long as that, whose last byte is its last SIGN.
        due(read("goes force;frees 0;draws" + " ".repeat(134) + "0;"), 1);
        // Promise 6, "-100 less the place of its FAULT": the last byte of 160, place 159.
        due(read(RULE + " ".repeat(159 - RULE.length()) + "?"), -259);
        // Promise 6, "THE TAPE (160 bytes at most)": as many TOKENS as that.
        due(read(";".repeat(160)), -100);
        // Promise 6, "THE TAPE (160 bytes at most)": as many ( as that.
        due(read("goes " + "(".repeat(155)), -110);
        // Promise 6, "(the text's size, if it ends too early)": 160 bytes of TOKENS that can stand there.
        due(read("goes 1" + "+1".repeat(77)), -260);
        // Promise 6, "THE TAPE (160 bytes at most)": an E as long as can be.
        due(read("goes -1" + "+1".repeat(68) + ";frees 1;draws 1;"), 1);
        // Promise 6, "(the text's size, if it ends too early)": 160 bytes, the last one a WORD's.
        due(read("goes force" + " ".repeat(147) + "and"), -260);
        // Promise 6, "(the text's size, if it ends too early)": 160 bytes, the last one a NUMBER's.
        due(read("goes " + " ".repeat(151) + "1234"), -260);
        // Promise 6, "a WORD that is neither KEY nor NAME": as long as THE TAPE.
        due(read("a".repeat(160)), -100);
        // Promise 6, "(the text's size, if it ends too early)": 160 bytes, place 160.
        due(read(" ".repeat(160)), -260);
    }

    private static void promise7() {
        KinInTheHeap x;
        // Promise 7, "A TEXT is THE RULE: which was": TEXT 0 at first.
        due(withTexts(2).force(1), 0);
        // Promise 7, "which was": the same one once more.
        due(bare().force(0), 0);
        // Promise 7, "which was": the last of six.
        x = withTexts(6);
        x.force(5);
        due(x.force(0), 5);
        // Promise 7, "BAD": below 0.
        due(bare().force(-1), BAD);
        // Promise 7, "BAD": the first that isn't there.
        due(bare().force(1), BAD);
        // Promise 7, "BAD": the first that isn't there, behind two.
        due(withTexts(2).force(2), BAD);
        // Promise 7, "BAD": 6, when all six are there.
        due(withTexts(6).force(6), BAD);
        // Promise 7, "BAD": as great as can be.
        due(bare().force(MAX), BAD);
        // Promise 7, "BAD": as small as can be.
        due(bare().force(MIN), BAD);
        // Promise 7, "Refusals ..; they change nothing": THE RULE stays.
        x = withTexts(2);
        x.force(1);
        x.force(2);
        due(x.count(5), 1);
    }

    private static void theFirstText() {
        // Promise 7, "TEXT 0, at first THE RULE, is: goes force ;": by force 0.
        due(forced(motes(16), 0).told(0, 7), 0);
        // Promise 7, "TEXT 0, at first THE RULE, is: goes force ;": by force 9.
        due(forced(motes(16), 9).told(0, 7), 9);
        // Promise 7, "TEXT 0 .. is: .. frees 0 ;".
        due(motes(16).told(0, 8), 0);
        // Promise 7, "TEXT 0 .. is: .. frees 0 ;": behind how far it goes was asked.
        KinInTheHeap x = motes(16);
        x.told(0, 7);
        due(x.told(0, 8), 0);
        // Promise 7, "TEXT 0 .. is: .. draws 0 ;".
        due(motes(16).told(0, 9), 0);
        // Promise 7, "TEXT 0 .. is: .. draws 0 ;": behind how far it goes was asked.
        x = motes(16);
        x.told(0, 7);
        due(x.told(0, 9), 0);
        // Promise 7, "A TEXT is THE RULE": TEXT 0 again.
        x = ruled(motes(16), "goes 9;frees 1;draws 1;");
        x.force(0);
        due(x.told(0, 7), 3);
    }

    private static void tokens() {
        // Promise 6, "TOKENS, each as long as can be": goesforce is one WORD, and none that is known.
        due(read("goesforce;frees 0;draws 0;"), -100);
        // Promise 6, "TOKENS, each as long as can be": a WORD ends where no letter stands.
        due(read("goes1;frees2;draws3;"), 1);
        // Promise 6, "TOKENS, each as long as can be": a NUMBER ends where no digit stands.
        due(e("0or 1and 1"), 1);
        // Promise 6, "TOKENS, each as long as can be": notnot is one WORD.
        due(read("goes notnot 1;frees 0;draws 0;"), -105);
        // Promise 6, "TOKENS, each as long as can be": every SIGN is one byte, two - are two.
        due(e("5--3"), 8);
        // Promise 6, "WORDS (a .. z)": a stands in one.
        due(e("1 and 1"), 1);
        // Promise 6, "WORDS (a .. z)": z stands in one, so that no TOKEN begins at it.
        due(read("goes rowz;"), -105);
        // Promise 6, "of a byte that begins none": that ahead of a, `.
        due(read("goes 1`;"), -106);
        // Promise 6, "of a byte that begins none": that behind z, {.
        due(read("goes 1{;"), -106);
        // Promise 6, "of a byte that begins none": that ahead of 0, /.
        due(read("goes 1/;"), -106);
        // Promise 6, "of a byte that begins none": that behind 9, :.
        due(read("goes 1:;"), -106);
        // Promise 6, "of a byte that begins none": a capital.
        due(read("Goes 1;"), -100);
        // Promise 6, "of a byte that begins none": a capital within a WORD.
        due(read("goes roW;"), -105);
        // Promise 6, "of a byte that begins none": 0.
        due(read("goes 1\u0000;"), -106);
        // Promise 6, "of a byte that begins none": 255.
        due(read("goes 1\u00ff;"), -106);
        // Promise 6, "SIGNS ( ) ; + - * < =": > is none.
        due(read("goes 1>0;"), -106);
        // Promise 6, "SIGNS ( ) ; + - * < =": a comma is none.
        due(read("goes 1,0;"), -106);
        // Promise 6, "SIGNS ( ) ; + - * < =": 188, which is 128 more than <, is none.
        due(read("goes 1\u00bc0;"), -106);
    }

    private static void blanks() {
        // Promise 6, "blanks (32, 10) may stand between": 32 ahead of all, behind all, between all.
        due(read("  goes  force  ;  frees  0  ;  draws  0  ;  "), 1);
        // Promise 6, "blanks (32, 10) may stand between": 10.
        due(read("\n\ngoes\nforce\n;frees\n0\n;draws\n0\n;\n"), 1);
        // Promise 6, "blanks (32, 10)": 9 is none.
        due(read("goes\t1;"), -104);
        // Promise 6, "blanks (32, 10)": 13 is none.
        due(read("goes 1;\r"), -107);
        // Promise 6, "blanks (32, 10)": 11 is none.
        due(read("goes\u000b1;"), -104);
        // Promise 6, "blanks (32, 10)": 160 is none.
        due(read("goes\u00a01;"), -104);
        // Promise 6, "blanks (32, 10) may stand between": not within a WORD.
        due(read("go es 1;"), -100);
        // Promise 6, "blanks (32, 10) may stand between": not within a NUMBER, the second is one TOKEN too many.
        due(read("goes 1 2;"), -107);
        // Promise 6, "blanks (32, 10) may stand between": none has to, where TOKENS end by themselves.
        due(read("goes(force);frees-1;draws(0);"), 1);
    }

    private static void numbers() {
        // Promise 6, "NUMBERS (as many digits as stand there, 4 at most)": 4.
        due(is("9999", "9998+1"), 1);
        // Promise 6, "a NUMBER that is too long": 5, the place is its first byte.
        due(read("goes 10000;"), -105);
        // Promise 6, "a NUMBER that is too long": 5 of 0.
        due(read("goes 00000;"), -105);
        // Promise 6, "a NUMBER that is too long": as long as THE TAPE.
        due(read("1".repeat(160)), -100);
        // Promise 6, "a NUMBER that is too long": behind the whole text.
        due(read(RULE + "10000"), -127);
        // Promise 6, "NUMBERS (.. 4 at most)": 4 with 0 ahead.
        due(e("0007"), 7);
        // Promise 6, "NUMBERS": 0.
        due(e("0"), 0);
        // Promise 6, "the first TOKEN that can't stand there": one ahead of a NUMBER that is too long.
        due(read("goes 1 2 10000;"), -107);
        // Promise 6, "the first TOKEN that can't stand there": a NUMBER that is too long stands where none can.
        due(read("goes 1 10000;"), -107);
    }

    private static void words() {
        // Promise 6, "a WORD that is neither KEY nor NAME": one letter less.
        due(read("goes forc;"), -105);
        // Promise 6, "a WORD that is neither KEY nor NAME": one letter more.
        due(read("goes forces;"), -105);
        // Promise 6, "a WORD that is neither KEY nor NAME": a KEY with a letter less.
        due(read("goe 1;"), -100);
        // Promise 6, "a WORD that is neither KEY nor NAME": a KEY with a letter more.
        due(read("goess 1;"), -100);
        // Promise 6, "a WORD that is neither KEY nor NAME": two NAMES in one.
        due(read("goes rowrow;"), -105);
        // Promise 6, "a WORD that is neither KEY nor NAME": where a KEY would stand.
        due(read("goes 1 xor 1;"), -107);
        // Promise 6, "a WORD that is neither KEY nor NAME": behind the text.
        due(read("goes 1;frees 1;draws 1;end"), -123);
        // Promise 6, "NAMES are force number row column kin week": goes is a KEY, it can't stand as a NAME.
        due(read("goes goes;"), -105);
        // Promise 6, "goes, frees, draws, or, and, not are KEYS": a NAME can't stand for one.
        due(read("force 1;"), -100);
    }

    private static void endsTooEarly() {
        String text = "goes 1;frees 1;draws 1;";
        int[] ends = {0, 4, 6, 7, 12, 14, 15, 20, 22};
        for (int size : ends) {
            // Promise 6, "(the text's size, if it ends too early)": behind each TOKEN of a text but the last.
            due(read(text.substring(0, size)), -100 - size);
            // Promise 6, "(the text's size, if it ends too early)": the size has the blanks behind the last TOKEN, too.
            due(read(text.substring(0, size) + " \n "), -103 - size);
        }
        // Promise 6, "(the text's size, if it ends too early)": in an open (.
        due(read("goes (1"), -107);
        // Promise 6, "(the text's size, if it ends too early)": behind a (.
        due(read("goes ("), -106);
        // Promise 6, "(the text's size, if it ends too early)": behind a not.
        due(read("goes not"), -108);
        // Promise 6, "(the text's size, if it ends too early)": behind a - ahead of a ONE.
        due(read("goes -"), -106);
        // Promise 6, "(the text's size, if it ends too early)": behind a +.
        due(read("goes 1+"), -107);
        // Promise 6, "(the text's size, if it ends too early)": behind an or.
        due(read("goes 1 or"), -109);
        // Promise 6, "(the text's size, if it ends too early)": behind a <.
        due(read("goes 1<"), -107);
        // Promise 6, "a WORD that is neither": one that the end cuts is none that is too early.
        due(read("goes 1;fre"), -107);
    }

    private static void faultsOfParts() {
        // Promise 6, "TEXT: goes E ; frees E ; draws E ;": frees first.
        due(read("frees 0;goes 0;draws 0;"), -100);
        // Promise 6, "TEXT: goes E ; frees E ; draws E ;": goes twice.
        due(read("goes 0;goes 0;draws 0;"), -107);
        // Promise 6, "TEXT: goes E ; frees E ; draws E ;": draws ahead of frees.
        due(read("goes 0;draws 0;frees 0;"), -107);
        // Promise 6, "TEXT: goes E ; frees E ; draws E ;": frees twice.
        due(read("goes 0;frees 0;frees 0;"), -115);
        // Promise 6, "TEXT: goes E ; frees E ; draws E ;": no E.
        due(read("goes;frees 0;draws 0;"), -104);
        // Promise 6, "TEXT: goes E ; frees E ; draws E ;": neither E nor ;.
        due(read("goes frees 0;draws 0;"), -105);
        // Promise 6, "TEXT: goes E ; frees E ; draws E ;": half an E, and no ;.
        due(read("goes 1+frees 0;draws 0;"), -107);
        // Promise 6, "TEXT: goes E ; frees E ; draws E ;": no ; between.
        due(read("goes 0 frees 0;draws 0;"), -107);
        // Promise 6, "TEXT: goes E ; frees E ; draws E ;": a ; more in between.
        due(read("goes 0;;frees 0;draws 0;"), -107);
        // Promise 6, "TEXT: goes E ; frees E ; draws E ;": a ; more at the end.
        due(read("goes 0;frees 0;draws 0;;"), -123);
        // Promise 6, "TEXT: goes E ; frees E ; draws E ;": a fourth part.
        due(read("goes 0;frees 0;draws 0; goes 0;"), -124);
        // Promise 6, "TEXT: goes E ; frees E ; draws E ;": a NUMBER behind all.
        due(read("goes 0;frees 0;draws 0;\n0"), -124);
        // Promise 6, "the first byte of the first TOKEN": with blanks ahead.
        due(read("   0"), -103);
        // Promise 6, "the first byte of the first TOKEN that can't stand there": one that begins none stands behind it.
        due(read("goes 0 0 ?"), -107);
        // Promise 6, "the first byte of the first TOKEN that can't stand there": a byte that begins none stands first.
        due(read("goes ? 0 0"), -105);
    }

    private static void faultsOfSums() {
        // Promise 6, "SUM: TERM { + or - TERM }": no TERM behind +.
        due(read("goes 1+;"), -107);
        // Promise 6, "SUM: TERM { + or - TERM }": + ahead of a TERM.
        due(read("goes +1;"), -105);
        // Promise 6, "SUM: TERM { + or - TERM }": two +.
        due(read("goes 1++1;"), -107);
        // Promise 6, "TERM: ONE { * ONE }": no ONE ahead of *.
        due(read("goes *1;"), -105);
        // Promise 6, "TERM: ONE { * ONE }": no ONE behind *.
        due(read("goes 1*;"), -107);
        // Promise 6, "perhaps < or = and a SUM": a second <.
        due(read("goes 1<2<3;"), -108);
        // Promise 6, "perhaps < or = and a SUM": = behind <.
        due(read("goes 1<2=3;"), -108);
        // Promise 6, "perhaps < or = and a SUM": < behind =.
        due(read("goes 1=2<3;"), -108);
        // Promise 6, "perhaps < or = and a SUM": a second = behind a sum.
        due(read("goes 1=2+3*4=5;"), -112);
        // Promise 6, "perhaps < or = and a SUM": <= is two TOKENS.
        due(read("goes 1<=2;"), -107);
        // Promise 6, "perhaps < or = and a SUM": a second < in a not.
        due(read("goes not 1<2<3;"), -112);
        // Promise 6, "perhaps < or = and a SUM": once more behind an and.
        due(read("goes 1<2 and 2<3;frees 0;draws 0;"), 1);
        // Promise 6, "perhaps < or = and a SUM": once more behind an or.
        due(read("goes 1<2 or 2=3;frees 0;draws 0;"), 1);
        // Promise 6, "perhaps < or = and a SUM": once more in a ( ).
        due(read("goes (1<2)<3;frees 0;draws 0;"), 1);
        // Promise 6, "perhaps < or = and a SUM": once more in a ( ) behind it.
        due(read("goes 1<(2=3);frees 0;draws 0;"), 1);
    }

    private static void faultsOfOnes() {
        // Promise 6, "NOT: not NOT, or SUM": a not within a SUM.
        due(read("goes 1+not 2;"), -107);
        // Promise 6, "NOT: not NOT, or SUM": a not behind <.
        due(read("goes 1<not 2;"), -107);
        // Promise 6, "NOT: not NOT, or SUM": a not behind *.
        due(read("goes 1*not 2;"), -107);
        // Promise 6, "ONE: .. - ONE": a not behind that -.
        due(read("goes -not 2;"), -106);
        // Promise 6, "NOT: not NOT, or SUM": a not behind a ONE.
        due(read("goes 1 not 2;"), -107);
        // Promise 6, "NOT: not NOT": behind and.
        due(read("goes 1 and not 2;frees 0;draws 0;"), 1);
        // Promise 6, "NOT: not NOT": behind or.
        due(read("goes 1 or not 2;frees 0;draws 0;"), 1);
        // Promise 6, "AND: NOT { and NOT }": no NOT behind and.
        due(read("goes 1 and;"), -110);
        // Promise 6, "E: AND { or AND }": no AND ahead of or.
        due(read("goes or 1;"), -105);
        // Promise 6, "E: AND { or AND }": and behind or.
        due(read("goes 1 or and 1;"), -110);
        // Promise 6, "ONE: .. ( E )": no E within.
        due(read("goes ();"), -106);
        // Promise 6, "ONE: .. ( E )": a ) that none opened.
        due(read("goes 1);"), -106);
        // Promise 6, "ONE: .. ( E )": one ) too many.
        due(read("goes (1));"), -108);
        // Promise 6, "ONE: .. ( E )": a ; ahead of the ).
        due(read("goes (1;"), -107);
        // Promise 6, "ONE: .. ( E )": one ) too few.
        due(read("goes ((1);"), -109);
        // Promise 6, "ONE: .. ( E )": a ( behind a ONE.
        due(read("goes 1(1);"), -106);
        // Promise 6, "ONE: .. ( E )": a ( behind a ).
        due(read("goes (1)(1);"), -108);
        // Promise 6, "ONE: a NUMBER, a NAME": a NAME behind a NUMBER.
        due(read("goes 1row;"), -106);
        // Promise 6, "ONE: .. ( E )": a ) of the part ahead can't close.
        due(read("goes (1;frees 1);draws 0;"), -107);
    }

    private static void openOnes() {
        // Promise 6, "while 5 of these are open": a fifth ( is none too many.
        due(read("goes (((((1)))));frees 0;draws 0;"), 1);
        // Promise 6, "a ( .. while 5 of these are open": a sixth.
        due(read("goes ((((((1))))));"), -110);
        // Promise 6, "while 5 of these are open": a fifth not.
        due(read("goes not not not not not 1;frees 0;draws 0;"), 1);
        // Promise 6, "a not .. while 5 of these are open": a sixth.
        due(read("goes not not not not not not 1;"), -125);
        // Promise 6, "while 5 of these are open": a fifth -.
        due(read("goes -----1;frees 0;draws 0;"), 1);
        // Promise 6, "a - ahead of a ONE while 5 of these are open": a sixth.
        due(read("goes ------1;"), -110);
        // Promise 6, "while 5 of these are open": of all three sorts together, five.
        due(read("goes not(-(-1));frees 0;draws 0;"), 1);
        // Promise 6, "while 5 of these are open": of all three sorts together, a sixth (.
        due(read("goes not(-(-(1)));"), -112);
        // Promise 6, "while 5 of these are open": of all three sorts together, a sixth -.
        due(read("goes not(-(--1));"), -112);
        // Promise 6, "while 5 of these are open": of all three sorts together, a sixth not.
        due(read("goes not(not((not 1)));"), -114);
        // Promise 6, "while 5 of these are open": a - between TERMS opens none.
        due(read("goes (((((1-1-1)))));frees 0;draws 0;"), 1);
        // Promise 6, "a - ahead of a ONE while 5 of these are open": behind a - between TERMS.
        due(read("goes (((((1--1)))));"), -112);
        // Promise 6, "while 5 of these are open": TERMS that stand ahead make room for no more.
        due(read("goes 1+1+((((((1"), -114);
        // Promise 6, "while 5 of these are open": ONES that stand ahead make room for no more.
        due(read("goes 1*1*((((((1"), -114);
        // Promise 6, "while 5 of these are open": ANDS that stand ahead make room for no more.
        due(read("goes 1 or 1 or((((((1"), -119);
        // Promise 6, "while 5 of these are open": NOTS that stand ahead make room for no more.
        due(read("goes 1<1 and 1=1 and not not not not not not 1"), -141);
        // Promise 6, "FAULT: .. a (": the sixth is the fault ahead of what is wrong behind it.
        due(read("goes ((((((?"), -110);
        // Promise 6, "FAULT: .. the first TOKEN": what is wrong ahead of a sixth ( is the fault.
        due(read("goes (((((? ("), -110);
        // Promise 6, "while 5 of these are open": each part begins with none open.
        due(read("goes (((((1)))));frees(((((1)))));draws(((((1)))));"), 1);
    }

    private static void closedOnes() {
        // Promise 6, "(a ( till its )": behind the ) it is open no more.
        due(read("goes (((((1)))))+(((((1)))));frees 0;draws 0;"), 1);
        // Promise 6, "(a ( till its )": behind the fifth ) alone one more (.
        due(read("goes ((((1+(1)+(1)))));frees 0;draws 0;"), 1);
        // Promise 6, "(a ( till its )": the fifth is open in all its E.
        due(read("goes (((((1 or 1 and 1<1+1*(1)))))));"), -127);
        // Promise 6, "not and - till what they belong to ends": - till its ONE ends, by a *.
        due(read("goes -----1*-----1;frees 0;draws 0;"), 1);
        // Promise 6, "not and - till what they belong to ends": - till its ONE ends, by a +.
        due(read("goes -----1+(((((1)))));frees 0;draws 0;"), 1);
        // Promise 6, "not and - till what they belong to ends": - till its ONE ends, a ( ) with all that is in it.
        due(read("goes ----(-1);"), -110);
        // Promise 6, "not and - till what they belong to ends": - till its ONE ends, by a ).
        due(read("goes (----1)*(----1);frees 0;draws 0;"), 1);
        // Promise 6, "not and - till what they belong to ends": - till its ONE ends, by a <.
        due(read("goes -----1<-----1;frees 0;draws 0;"), 1);
        // Promise 6, "not and - till what they belong to ends": - till its ONE ends, by an and.
        due(read("goes -----1 and -----1;frees 0;draws 0;"), 1);
        // Promise 6, "not and - till what they belong to ends": not till its NOT ends, which has the SUM behind =.
        due(read("goes not not not not not 1=(1);"), -127);
        // Promise 6, "not and - till what they belong to ends": not till its NOT ends, which has the whole SUM.
        due(read("goes not not not not not 1+-1;"), -127);
        // Promise 6, "not and - till what they belong to ends": not till its NOT ends, which has the whole TERM.
        due(read("goes not not not not not 1*(1);"), -127);
        // Promise 6, "not and - till what they belong to ends": not till its NOT ends, by an and.
        due(read("goes not not not not not 1 and(((((1)))));frees 0;draws 0;"), 1);
        // Promise 6, "not and - till what they belong to ends": not till its NOT ends, by an or.
        due(read("goes not not not not not 1 or not not not not not 1;frees 0;draws 0;"), 1);
        // Promise 6, "not and - till what they belong to ends": not till its NOT ends, by a ).
        due(read("goes (not not not not 1)+(not not not not 1);frees 0;draws 0;"), 1);
        // Promise 6, "not and - till what they belong to ends": not till its NOT ends, a ( ) with all that is in it.
        due(read("goes not not not not(1 or(1));"), -125);
    }

    private static void truths() {
        // Promise 6, "of or, and, not, <, = 1 or 0": or of two that are true is 1.
        due(e("2 or 4"), 1);
        // Promise 6, "(what is not 0 is true)": and of 2 and 4 is 1.
        due(e("2 and 4"), 1);
        // Promise 6, "(what is not 0 is true)": below 0 is true.
        due(e("-1 and -2"), 1);
        // Promise 6, "(what is not 0 is true)": the least int is true.
        due(e("8192*8192*32 or 0"), 1);
        // Promise 6, "of or .. 1 or 0": of two 0.
        due(e("0 or 0"), 0);
        // Promise 6, "of or .. 1 or 0": the second alone.
        due(e("0 or 3"), 1);
        // Promise 6, "of and .. 1 or 0": the second is 0.
        due(e("3 and 0"), 0);
        // Promise 6, "of and .. 1 or 0": the first is 0.
        due(e("0 and 3"), 0);
        // Promise 6, "of not .. 1 or 0": of 0.
        due(e("not 0"), 1);
        // Promise 6, "of not .. 1 or 0": of 2.
        due(e("not 2"), 0);
        // Promise 6, "of not .. 1 or 0": of -1.
        due(e("not -1"), 0);
        // Promise 6, "of not .. 1 or 0": twice of 7 is 1, not 7.
        due(e("not not 7"), 1);
        // Promise 6, "of .. < .. 1 or 0": less.
        due(e("1<2"), 1);
        // Promise 6, "of .. < .. 1 or 0": of alike.
        due(e("2<2"), 0);
        // Promise 6, "of .. < .. 1 or 0": more.
        due(e("3<2"), 0);
        // Promise 6, "of .. = 1 or 0": alike.
        due(e("2=2"), 1);
        // Promise 6, "of .. = 1 or 0": unlike.
        due(e("2=1"), 0);
        // Promise 6, "of or .. 1 or 0": it is 0, not below.
        due(is("0 or 0", "0"), 1);
        // Promise 6, "of .. and .. 1 or 0": it is 0, not below.
        due(is("3 and 0", "0"), 1);
        // Promise 6, "of .. not .. 1 or 0": it is 0, not below.
        due(is("not 3", "0"), 1);
        // Promise 6, "of .. < .. 1 or 0": it is 0, not below.
        due(is("2<2", "0"), 1);
        // Promise 6, "of .. = 1 or 0": it is 0, not below.
        due(is("2=1", "0"), 1);
        // Promise 6, "E: AND { or AND }": an E that is one ONE stays what it is, it is not made 1.
        due(e("7"), 7);
    }

    private static void orders() {
        // Promise 6, "E: AND { or AND }": and ahead of or.
        due(e("1 or 1 and 0"), 1);
        // Promise 6, "E: AND { or AND }": and ahead of or, the other way round.
        due(e("0 and 0 or 1"), 1);
        // Promise 6, "AND: NOT { and NOT }": not ahead of and.
        due(e("not 1 and 0"), 0);
        // Promise 6, "NOT: not NOT, or SUM, perhaps < or = and a SUM": = ahead of not.
        due(e("not 2=3"), 1);
        // Promise 6, "NOT: not NOT, or SUM": the sum ahead of not.
        due(e("not 0+1"), 0);
        // Promise 6, "SUM, perhaps < or = and a SUM": sums ahead of <.
        due(e("1+1<1+2"), 1);
        // Promise 6, "SUM: TERM { + or - TERM }": from the first on.
        due(e("9-3-2"), 4);
        // Promise 6, "SUM: TERM { + or - TERM }": - and +.
        due(e("9-3+2"), 8);
        // Promise 6, "SUM: TERM { + or - TERM }": * ahead of +.
        due(e("1+2*3"), 7);
        // Promise 6, "ONE: .. ( E )": ahead of *.
        due(e("(1+2)*3"), 9);
        // Promise 6, "ONE: .. - ONE": ahead of +.
        due(e("-2+5"), 3);
        // Promise 6, "ONE: .. - ONE": ahead of *.
        due(e("-2*-3"), 6);
        // Promise 6, "ONE: .. - ONE": of a ( ).
        due(e("9-(-(-4))"), 5);
        // Promise 6, "{ * ONE }": three of them.
        due(e("2*2*2"), 8);
        // Promise 6, "{ or AND }": three of them.
        due(e("0 or 0 or 2"), 1);
        // Promise 6, "{ and NOT }": three of them, the last 0.
        due(e("1 and 1 and 0"), 0);
    }

    private static void wrapping() {
        // Promise 6, "An E is an int (32 bits, wrapping)": the greatest, and 1 more is the least.
        due(is("8192*8192*32-1+1", "8192*8192*32"), 1);
        // Promise 6, "An E is an int (32 bits, wrapping)": the least is below 0.
        due(e("8192*8192*32<0"), 1);
        // Promise 6, "An E is an int (32 bits, wrapping)": 1 less than the least is above 0.
        due(e("0<8192*8192*32-1"), 1);
        // Promise 6, "An E is an int (32 bits, wrapping)": - of the least is the least.
        due(is("-(8192*8192*32)", "8192*8192*32"), 1);
        // Promise 6, "An E is an int (32 bits, wrapping)": 2 to 32 is 0.
        due(is("8192*8192*64", "0"), 1);
        // Promise 6, "An E is an int (32 bits, wrapping)": 999700029999 less 233 times 2 to 32 is -1027349969.
        due(is("9999*9999*9999", "-(1027*1000*1000+349*1000+969)"), 1);
        // Promise 6, "An E is an int (32 bits, wrapping)": 9999 * 9999 * 22 is 2199560022 less 2 to 32, below 0.
        due(e("9999*9999*22<0"), 1);
        // Promise 6, "An E is an int (32 bits, wrapping)": 9999 * 9999 * 21 is 2099580021, not below 0.
        due(e("9999*9999*21<0"), 0);
        // Promise 6, "An E is an int (32 bits)": a difference that wraps doesn't make < wrong.
        due(e("8192*8192*32<8192*8192*32-1"), 1);
    }

    private static void names() {
        // Promise 6, "force: FORCE": 9.
        due(ruled(forced(motes(0), 9), "goes force;frees 0;draws 0;").told(0, 7), 9);
        // Promise 6, "number: NUMBER": 9.
        due(ruled(dusts(MOTE, 9, 0), "goes number;frees 0;draws 0;").told(0, 7), 9);
        // Promise 6, "number: NUMBER": of the one that goes, not of another.
        due(ruled(dusts(MOTE, 9, 0, MOTE, 2, 0), "goes number;frees 0;draws 0;").told(1, 7), 2);
        // Promise 6, "row: ROW": of cell 5, the last one of the first row.
        due(ruled(motes(5), "goes row;frees 0;draws 0;").told(0, 7), 0);
        // Promise 6, "row: ROW": of cell 6, the first one of the next row.
        due(ruled(motes(6), "goes row;frees 0;draws 0;").told(0, 7), 1);
        // Promise 6, "row: ROW": of cell 35.
        due(ruled(motes(35), "goes row;frees 0;draws 0;").told(0, 7), 5);
        // Promise 6, "column: COLUMN": of cell 5.
        due(ruled(motes(5), "goes column;frees 0;draws 0;").told(0, 7), 5);
        // Promise 6, "column: COLUMN": of cell 6.
        due(ruled(motes(6), "goes column;frees 0;draws 0;").told(0, 7), 0);
        // Promise 6, "column: COLUMN": of cell 35.
        due(ruled(motes(35), "goes column;frees 0;draws 0;").told(0, 7), 5);
        // Promise 6, "kin: how many are its KIN": itself alone.
        due(ruled(motes(3, 4, NONE), "goes kin;frees 0;draws 0;").told(0, 7), 1);
        // Promise 6, "kin: how many are its KIN": all eight.
        due(ruled(motes(3, 3, 3, 3, 3, 3, 3, 3), "goes kin;frees 0;draws 0;").told(0, 7), 8);
        // Promise 6, "week: WEEK": 0.
        due(ruled(motes(3), "goes week;frees 0;draws 0;").told(0, 7), 0);
        // Promise 6, "week: WEEK": 999.
        due(ruled(inWeek(motes(3), 999), "goes week-990;frees 0;draws 0;").told(0, 7), 9);
    }

    public static void main(String[] args) {
        promise5();
        promise6();
        promise7();
        theFirstText();
        tokens();
        blanks();
        numbers();
        words();
        endsTooEarly();
        faultsOfParts();
        faultsOfSums();
        faultsOfOnes();
        openOnes();
        closedOnes();
        truths();
        orders();
        wrapping();
        names();
        end();
    }
}
