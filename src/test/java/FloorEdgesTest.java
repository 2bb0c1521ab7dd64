/**
 * Boundary cases of the floor and the dust (promises 1 to 4) and of the kinds ahead of them; a test each.
 * The remark ahead of a test tells the promise, the sentence of the document, and the case.
 */
public final class FloorEdgesTest extends Edges {

    private static void promise1() {
        // Promise 1, "A bare floor": no dust.
        due(bare().count(0), 0);
        // Promise 1, "A bare floor": nobody is in any cell.
        due(bare().where(0), 0);
        // Promise 1, "A bare floor": nobody is out.
        due(bare().floor(4), 0);
        // Promise 1, "in each a CRACK or none (none at first)".
        due(bare().where(1), 0);
        // Promise 1, "in each a CRACK or none (none at first)": the first cell.
        due(bare().told(0, 2), 0);
        // Promise 1, "in each a CRACK or none (none at first)": the last cell.
        due(bare().told(35, 2), 0);
        // Promise 1, "WEEK (0 .. 999; 0 at first)".
        due(bare().told(0, 0), 0);
        // Promise 1, "FORCE of the brush (0 .. 9; 3 at first)".
        due(bare().told(0, 1), 3);
        // Promise 1, "There are 6 TEXTS at most, TEXT 0 with them": TEXT 0 is there from the first.
        due(bare().count(3), 1);
        // Promise 1, "TEXT 0, at first THE RULE".
        due(bare().count(5), 0);
        // Promise 1, "A bare floor": THE TAPE is empty.
        due(bare().count(4), 0);
        // Promise 1, "SHEETS 0 .. 3 are rows of numbers, or missing (as all are at first)": the first.
        due(bare().cell(0, 0, 0), MISSING);
        // Promise 1, "SHEETS 0 .. 3 are rows of numbers, or missing (as all are at first)": the last.
        due(bare().cell(3, 0, 0), MISSING);
        // Promise 1, "A bare floor": there is no IMAGE.
        due(bare().back(), STATE);
        // Promise 1, "DUST (8 at most, numbered from 0)": the first one is 0.
        due(bare().dust(MOTE, 0, 0), 0);
    }

    private static void constants() {
        // The public face, "NONE = -1".
        due(KinInTheHeap.NONE, -1);
        // The public face, "BAD = -2".
        due(KinInTheHeap.BAD, -2);
        // The public face, "STATE = -3".
        due(KinInTheHeap.STATE, -3);
        // The public face, "FULL = -4".
        due(KinInTheHeap.FULL, -4);
        // The public face, "NO = -4611686018427387904L".
        due(KinInTheHeap.NO, -4611686018427387904L);
        // What it is, "An object is used for at most 512 calls after it has been made": the 512th still answers.
        KinInTheHeap x = motes(35);
        for (int i = 2; i <= 511; i++) {
            x.told(0, 4);
        }
        due(x.told(0, 4), 35);
    }

    private static void promise2Week() {
        KinInTheHeap x;
        // Promise 2, "WEEK (what 0 ..) becomes v: what it was": 0 at first.
        due(bare().set(0, 0, 5), 0);
        // Promise 2, "WEEK (0 .. 999": 0 is one.
        due(inWeek(bare(), 5).set(0, 0, 0), 5);
        // Promise 2, "WEEK (0 .. 999": 999 is one.
        x = bare();
        x.set(0, 0, 999);
        due(x.told(0, 0), 999);
        // Promise 2, "-1000: none such, v": a week above 999.
        due(bare().set(0, 0, 1000), NONE_SUCH);
        // Promise 2, "-1000: none such, v": a week below 0.
        due(bare().set(0, 0, -1), NONE_SUCH);
        // Promise 2, "Refusals ..; they change nothing": the week stays.
        x = inWeek(bare(), 7);
        x.set(0, 0, 1000);
        due(x.told(0, 0), 7);
        // Promise 2, "WEEK (what 0; of does not matter)": of as small as can be.
        due(inWeek(bare(), 8).set(0, MIN, 9), 8);
        // Promise 2, "WEEK (what 0; of does not matter)": of as great as can be.
        due(inWeek(bare(), 8).set(0, MAX, 9), 8);
    }

    private static void promise2Force() {
        KinInTheHeap x;
        // Promise 2, "FORCE (1; nor)": what it was, 3 at first.
        due(bare().set(1, 0, 0), 3);
        // Promise 2, "FORCE (1; nor)": what it was, 9 as it was set.
        due(forced(bare(), 9).set(1, 0, 0), 9);
        // Promise 2, "FORCE of the brush (0 .. 9": 0 is one.
        x = bare();
        x.set(1, 0, 0);
        due(x.told(0, 1), 0);
        // Promise 2, "FORCE of the brush (0 .. 9": 9 is one.
        x = bare();
        x.set(1, 0, 9);
        due(x.told(0, 1), 9);
        // Promise 2, "-1000: none such, v": a force above 9.
        due(bare().set(1, 0, 10), NONE_SUCH);
        // Promise 2, "-1000: none such, v": a force below 0.
        due(bare().set(1, 0, -1), NONE_SUCH);
        // Promise 2, "Refusals ..; they change nothing": the force stays.
        x = bare();
        x.set(1, 0, 10);
        due(x.told(0, 1), 3);
        // Promise 2, "FORCE (1; nor)": of does not matter, as small as can be.
        due(bare().set(1, MIN, 4), 3);
        // Promise 2, "FORCE (1; nor)": of does not matter, as great as can be.
        due(bare().set(1, MAX, 4), 3);
    }

    private static void promise2Crack() {
        KinInTheHeap x;
        // Promise 2, "whether a CELL has a CRACK (2; 1, 0)": none was there.
        due(bare().set(2, 0, 1), 0);
        // Promise 2, "whether a CELL has a CRACK (2; 1, 0)": one was there.
        due(cracked(bare(), 0).set(2, 0, 0), 1);
        // Promise 2, "whether a CELL has a CRACK": one where one is already.
        due(cracked(bare(), 4).set(2, 4, 1), 1);
        // Promise 2, "whether a CELL has a CRACK": one where one was already stays one.
        due(cracked(bare(), 4, 4).told(4, 2), 1);
        // Promise 2, "whether a CELL has a CRACK": none where none is.
        due(bare().set(2, 4, 0), 0);
        // Promise 2, "whether a CELL has a CRACK": none where none was stays none.
        x = bare();
        x.set(2, 4, 0);
        due(x.told(4, 2), 0);
        // Promise 2, "whether a CELL has a CRACK (2; .. 0)": one that was there is gone, and no other.
        x = cracked(bare(), 0, 4, 35);
        x.set(2, 4, 0);
        due(x.where(1), 1L << 35 | 1);
        // Promise 2, "whether a CELL has a CRACK (2; .. 0)": that of the last cell.
        x = cracked(bare(), 0, 4, 35);
        x.set(2, 35, 0);
        due(x.where(1), 17);
        // Promise 2, "CELLS 0 .. 35": the first.
        due(cracked(bare(), 0).where(1), 1);
        // Promise 2, "CELLS 0 .. 35": the last.
        due(cracked(bare(), 35).where(1), 1L << 35);
        // Promise 2, "-1000: none such": a cell below 0.
        due(bare().set(2, -1, 1), NONE_SUCH);
        // Promise 2, "-1000: none such": a cell above 35.
        due(bare().set(2, 36, 1), NONE_SUCH);
        // Promise 2, "-1000: .. v": neither 1 nor 0, but above.
        due(bare().set(2, 0, 2), NONE_SUCH);
        // Promise 2, "-1000: .. v": neither 1 nor 0, but below.
        due(bare().set(2, 0, -1), NONE_SUCH);
        // Promise 2, "Refusals ..; they change nothing": a crack stays by a v that is none such.
        x = cracked(bare(), 0);
        x.set(2, 0, 2);
        due(x.told(0, 2), 1);
        // Promise 2, "Refusals ..; they change nothing": no cell is cracked in place of one that is none such.
        due(cracked(bare(), -1, 36, 64).where(1), 0);
        // Promise 2, "whether a CELL has a CRACK": under one that is in it, who stays in it.
        due(cracked(motes(8), 8).told(0, 4), 8);
        // Promise 2, "whether a CELL has a CRACK (2; 1, 0)": all thirty six at once.
        x = bare();
        for (int c = 0; c < 36; c++) {
            x.set(2, c, 1);
        }
        due(x.where(1), 68719476735L);
    }

    private static void promise2Number() {
        KinInTheHeap x;
        // Promise 2, "NUMBER (3)": what it was.
        due(dusts(MOTE, 4, 0).set(3, 0, 5), 4);
        // Promise 2, "a NUMBER (0 .. 9)": 0 is one.
        x = dusts(MOTE, 4, 0);
        x.set(3, 0, 0);
        due(x.told(0, 3), 0);
        // Promise 2, "a NUMBER (0 .. 9)": 9 is one.
        x = dusts(MOTE, 4, 0);
        x.set(3, 0, 9);
        due(x.told(0, 3), 9);
        // Promise 2, "-1000: .. v": a number above 9.
        due(motes(0).set(3, 0, 10), NONE_SUCH);
        // Promise 2, "-1000: .. v": a number below 0.
        due(motes(0).set(3, 0, -1), NONE_SUCH);
        // Promise 2, "Refusals ..; they change nothing": the number stays.
        x = dusts(MOTE, 4, 0);
        x.set(3, 0, 10);
        due(x.told(0, 3), 4);
        // Promise 2, "-1000: none such": no dust at all.
        due(bare().set(3, 0, 0), NONE_SUCH);
        // Promise 2, "-1000: none such": one behind the last of dust.
        due(motes(0, 1).set(3, 2, 0), NONE_SUCH);
        // Promise 2, "-1000: none such": one ahead of the first of dust.
        due(motes(0, 1).set(3, -1, 0), NONE_SUCH);
        // Promise 2, "DUST (8 at most": the last of eight is one.
        due(motes(0, 1, 2, 3, 4, 5, 6, 7).set(3, 7, 1), 0);
        // Promise 2, "DUST (8 at most": behind the last of eight is none.
        due(motes(0, 1, 2, 3, 4, 5, 6, 7).set(3, 8, 1), NONE_SUCH);
        // Promise 2, "NUMBER (3)": of one that is out, too.
        due(motes(NONE).set(3, 0, 6), 0);
    }

    private static void promise2Where() {
        KinInTheHeap x;
        // Promise 2, "where one of DUST is (4; a CELL, or NONE: OUT)": what it was, a cell.
        due(motes(8).set(4, 0, 9), 8);
        // Promise 2, "where one of DUST is (4; a CELL": the first cell.
        x = motes(8);
        x.set(4, 0, 0);
        due(x.told(0, 4), 0);
        // Promise 2, "where one of DUST is (4; a CELL": the last cell.
        x = motes(8);
        x.set(4, 0, 35);
        due(x.told(0, 4), 35);
        // Promise 2, "or NONE: OUT": it is out then.
        x = motes(8);
        x.set(4, 0, NONE);
        due(x.floor(4), 1);
        // Promise 2, "or NONE: OUT": what it was, when it was out.
        due(motes(NONE).set(4, 0, 9), NONE);
        // Promise 2, "or NONE: OUT": out, when it is out already.
        due(motes(NONE).set(4, 0, NONE), NONE);
        // Promise 2, "where one of DUST is": one that was out is in a cell again.
        x = motes(NONE);
        x.set(4, 0, 9);
        due(x.where(0), 1 << 9);
        // Promise 2, "-1000: .. v": below NONE.
        due(motes(8).set(4, 0, -2), NONE_SUCH);
        // Promise 2, "-1000: .. v": a cell above 35.
        due(motes(8).set(4, 0, 36), NONE_SUCH);
        // Promise 2, "Refusals ..; they change nothing": it stays where it is.
        x = motes(8);
        x.set(4, 0, 36);
        due(x.told(0, 4), 8);
        // Promise 2, "-1000: none such": no dust at all.
        due(bare().set(4, 0, 0), NONE_SUCH);
        // Promise 2, "-1000: none such": one behind the last of dust.
        due(motes(8).set(4, 1, 0), NONE_SUCH);
        // Promise 2, "-1000: none such": one ahead of the first of dust.
        due(motes(8).set(4, -1, 0), NONE_SUCH);
        // Promise 2, "where one of DUST is": into a cell in which another one is, they are kin then.
        x = motes(8, 9);
        x.set(4, 0, 9);
        due(x.told(9, 10), 3);
        // Promise 2, "where one of DUST is": into a cell with a crack.
        x = cracked(motes(8), 9);
        x.set(4, 0, 9);
        due(x.told(0, 4), 9);
    }

    private static void promise2What() {
        // Promise 2, "-1000: none such": what below 0.
        due(motes(0).set(-1, 0, 0), NONE_SUCH);
        // Promise 2, "-1000: none such": what above 4 (the KIND can't be set).
        due(motes(0).set(5, 0, 0), NONE_SUCH);
        // Promise 2, "-1000: none such": what as small as can be.
        due(motes(0).set(MIN, 0, 0), NONE_SUCH);
        // Promise 2, "-1000: none such": what as great as can be.
        due(motes(0).set(MAX, 0, 0), NONE_SUCH);
    }

    private static void promise3() {
        KinInTheHeap x;
        // Promise 3, "of a KIND: 0 MOTE .. 5 CINDER": 5 is the last one.
        due(bare().dust(5, 0, 0), 0);
        // Promise 3, "BAD": a kind above 5.
        due(bare().dust(6, 0, 0), BAD);
        // Promise 3, "BAD": a kind below 0.
        due(bare().dust(-1, 0, 0), BAD);
        // Promise 3, "a NUMBER (0 .. 9)": 9 is one.
        due(bare().dust(MOTE, 9, 0), 0);
        // Promise 3, "a NUMBER (0 .. 9)": 10 is none.
        due(bare().dust(MOTE, 10, 0), BAD);
        // Promise 3, "a NUMBER (0 .. 9)": -1 is none.
        due(bare().dust(MOTE, -1, 0), BAD);
        // Promise 3, "IN a CELL": the last cell.
        due(bare().dust(MOTE, 0, 35), 0);
        // Promise 3, "IN a CELL": 36 is none.
        due(bare().dust(MOTE, 0, 36), BAD);
        // Promise 3, "or OUT (in the pan; none as it comes)": NONE is BAD.
        due(bare().dust(MOTE, 0, NONE), BAD);
        // Promise 3, "Refusals ..; they change nothing": none came.
        x = bare();
        x.dust(MOTE, 0, 36);
        due(x.count(0), 0);
        // Promise 3, "One of DUST: the number", "numbered from 0": the second one is 1.
        due(motes(0).dust(MOTE, 0, 0), 1);
        // Promise 3, "DUST (8 at most": the eighth comes.
        due(motes(0, 0, 0, 0, 0, 0, 0).dust(MOTE, 0, 0), 7);
        // Promise 3, "FULL": the ninth doesn't.
        due(motes(0, 0, 0, 0, 0, 0, 0, 0).dust(MOTE, 0, 0), FULL);
        // Promise 3, "Refusals ..; they change nothing": by FULL there are eight still.
        x = motes(0, 0, 0, 0, 0, 0, 0, 0);
        x.dust(MOTE, 0, 0);
        due(x.count(0), 8);
        // Promise 3, "BAD; FULL": BAD ahead of FULL.
        due(motes(0, 0, 0, 0, 0, 0, 0, 0).dust(MOTE, 0, NONE), BAD);
        // Promise 3, "FULL": those who are out are dust still.
        due(motes(NONE, NONE, NONE, NONE, NONE, NONE, NONE, NONE).dust(MOTE, 0, 0), FULL);
        // Promise 3, "One of DUST": into a cell with a crack.
        due(cracked(bare(), 3).dust(MOTE, 0, 3), 0);
        // Promise 3, "One of DUST": the last of eight is as it came, its kind.
        due(dusts(0, 0, 0, 0, 0, 0, 0, 0, 0, 0, 0, 0, 0, 0, 0, 0, 0, 0, 0, 0, 0, SOOT, 9, 35).told(7, 5), SOOT);
        // Promise 3, "One of DUST": the last of eight is as it came, its number.
        due(dusts(0, 0, 0, 0, 0, 0, 0, 0, 0, 0, 0, 0, 0, 0, 0, 0, 0, 0, 0, 0, 0, SOOT, 9, 35).told(7, 3), 9);
        // Promise 3, "One of DUST": the last of eight is as it came, its cell.
        due(dusts(0, 0, 0, 0, 0, 0, 0, 0, 0, 0, 0, 0, 0, 0, 0, 0, 0, 0, 0, 0, 0, SOOT, 9, 35).told(7, 4), 35);
    }

    private static void promise4Floor() {
        // Promise 4, "What 0 .. 4 as of set()": the week, of does not matter.
        due(inWeek(bare(), 999).told(MIN, 0), 999);
        // Promise 4, "What 0 .. 4 as of set()": the force, of does not matter.
        due(bare().told(MAX, 1), 3);
        // Promise 4, "What 0 .. 4 as of set()": a crack in the last cell.
        due(cracked(bare(), 35).told(35, 2), 1);
        // Promise 4, "What 0 .. 4 as of set()": none in the cell beside one.
        due(cracked(bare(), 35).told(34, 2), 0);
        // Promise 4, "-1000: none such": a crack of a cell below 0.
        due(bare().told(-1, 2), NONE_SUCH);
        // Promise 4, "-1000: none such": a crack of a cell above 35.
        due(bare().told(36, 2), NONE_SUCH);
        // Promise 4, "10 who are IN a CELL (bits)": nobody.
        due(motes(1).told(0, 10), 0);
        // Promise 4, "10 who are IN a CELL (bits)": all eight.
        due(motes(35, 35, 35, 35, 35, 35, 35, 35).told(35, 10), 255);
        // Promise 4, "10 who are IN a CELL (bits)": none who is out.
        due(motes(0, NONE, 0).told(0, 10), 5);
        // Promise 4, "-1000: none such": those in a cell below 0, which are not those who are out.
        due(motes(NONE).told(-1, 10), NONE_SUCH);
        // Promise 4, "-1000: none such": those in a cell above 35.
        due(bare().told(36, 10), NONE_SUCH);
        // Promise 4, "-1000: none such": what below 0.
        due(motes(0).told(0, -1), NONE_SUCH);
        // Promise 4, "-1000: none such": what above 10.
        due(motes(0).told(0, 11), NONE_SUCH);
        // Promise 4, "-1000: none such": what as small as can be.
        due(motes(0).told(0, MIN), NONE_SUCH);
        // Promise 4, "-1000: none such": what as great as can be.
        due(motes(0).told(0, MAX), NONE_SUCH);
    }

    private static void promise4Dust() {
        // Promise 4, "What 0 .. 4 as of set()": where one is that is out.
        due(motes(NONE).told(0, 4), NONE);
        // Promise 4, "5 KIND": of one that is out, too.
        due(motes(NONE).told(0, 5), MOTE);
        // Promise 4, "What 0 .. 4 as of set()": the number of one that is out, too.
        due(motes(NONE).told(0, 3), 0);
        // Promise 4, "6 KIN (bits)", "KIN of one: those IN the same CELL, itself, too": alone.
        due(motes(3, 4).told(1, 6), 2);
        // Promise 4, "6 KIN (bits)", "KIN of one: those IN the same CELL, itself, too": all eight.
        due(motes(3, 3, 3, 3, 3, 3, 3, 3).told(7, 6), 255);
        // Promise 4, "(OUT: those who are OUT)": with another who is out, not with those in a cell.
        due(motes(NONE, 3, NONE).told(0, 6), 5);
        // Promise 4, "(OUT: those who are OUT)": itself alone.
        due(motes(NONE, 3, 3).told(0, 6), 1);
        // Promise 4, "7 how far it GOES .. (7 .. 9: NONE, if it is OUT)".
        due(motes(NONE).told(0, 7), NONE);
        // Promise 4, "8 whether it is FREE (1, 0) .. (7 .. 9: NONE, if it is OUT)".
        due(motes(NONE).told(0, 8), NONE);
        // Promise 4, "9 the WAY it is BLOWN (7 .. 9: NONE, if it is OUT)".
        due(motes(NONE).told(0, 9), NONE);
        // Promise 4, "8 whether it is FREE (1, 0)": a spark that is out is neither.
        KinInTheHeap x = dusts(SPARK, 0, 0);
        x.set(4, 0, NONE);
        due(x.told(0, 8), NONE);
        for (int what = 3; what <= 9; what++) {
            // Promise 4, "-1000: none such": no dust at all.
            due(bare().told(0, what), NONE_SUCH);
            // Promise 4, "-1000: none such": one behind the last.
            due(motes(0, 1).told(2, what), NONE_SUCH);
            // Promise 4, "-1000: none such": one ahead of the first.
            due(motes(0, 1).told(-1, what), NONE_SUCH);
            // Promise 4, "-1000: none such": one behind the last of eight.
            due(motes(0, 1, 2, 3, 4, 5, 6, 7).told(8, what), NONE_SUCH);
            // Promise 4, "-1000: none such": one as great as can be.
            due(motes(0).told(MAX, what), NONE_SUCH);
        }
    }

    /** How far one of a kind goes, alone in its cell, by the rule goes E. */
    private static int far(int kind, String e) {
        return ruled(dusts(kind, 7, 14), "goes " + e + ";frees 0;draws 0;").told(0, 7);
    }

    private static void goesOfMotesAndSparks() {
        // Promise 4 (7), "goes (0 .. 9, else the bound)": 0 is as told.
        due(far(MOTE, "0"), 0);
        // Promise 4 (7), "goes (0 .. 9, else the bound)": 9 is as told.
        due(far(MOTE, "9"), 9);
        // Promise 4 (7), "goes (0 .. 9, else the bound)": 10 is 9.
        due(far(MOTE, "10"), 9);
        // Promise 4 (7), "goes (0 .. 9, else the bound)": -1 is 0.
        due(far(MOTE, "-1"), 0);
        // Promise 4 (7), "goes (0 .. 9, else the bound)": the greatest int, 2 to 31 less 1, is 9.
        due(far(MOTE, "8192*8192*32-1"), 9);
        // Promise 4 (7), "goes (0 .. 9, else the bound)": the least int, 2 to 31 wrapped, is 0.
        due(far(MOTE, "8192*8192*32"), 0);
        // Promise 4 (7), "SPARK: 1 more than a MOTE": by 8 it is the bound.
        due(far(SPARK, "8"), 9);
        // Promise 4 (7), "(GOES 0 .. 9, else the bound: laid on what comes out": a spark by 9.
        due(far(SPARK, "9"), 9);
        // Promise 4 (7), "v being held as told below": a spark by -5 is 1 more than 0.
        due(far(SPARK, "-5"), 1);
        // Promise 4 (7), "SPARK: 1 more than a MOTE": by 0.
        due(far(SPARK, "0"), 1);
        // Promise 4 (7), "v being held as told below": a spark by the greatest int doesn't wrap.
        due(far(SPARK, "8192*8192*32-1"), 9);
        // Promise 4 (7), "SOOT: twice a SPARK's": by 0.
        due(far(SOOT, "0"), 2);
        // Promise 4 (7), "SOOT: twice a SPARK's": by 3, still below the bound.
        due(far(SOOT, "3"), 8);
        // Promise 4 (7), "(GOES 0 .. 9, else the bound: laid on what comes out": a soot by 4 would go 10.
        due(far(SOOT, "4"), 9);
        // Promise 4 (7), "(GOES 0 .. 9, else the bound: laid on what comes out": a soot by 9.
        due(far(SOOT, "9"), 9);
        // Promise 4 (7), "v being held as told below": a soot by -5 goes twice 1.
        due(far(SOOT, "-5"), 2);
    }

    private static void goesOfUnclesAndShoes() {
        // Promise 4 (7), "UNCLE: half (cut) of a MOTE's": of 9.
        due(far(UNCLE, "9"), 4);
        // Promise 4 (7), "UNCLE: half (cut) of a MOTE's": of 8.
        due(far(UNCLE, "8"), 4);
        // Promise 4 (7), "UNCLE: half (cut) of a MOTE's": of 1.
        due(far(UNCLE, "1"), 0);
        // Promise 4 (7), "UNCLE: half (cut) of a MOTE's": of 0.
        due(far(UNCLE, "0"), 0);
        // Promise 4 (7), "v being held as told below": an uncle by 99 goes half of 9.
        due(far(UNCLE, "99"), 4);
        // Promise 4 (7), "v being held as told below": an uncle by -9 goes half of 0.
        due(far(UNCLE, "-9"), 0);
        // Promise 4 (7), "SHOE: 0, if it is alone (KIN of 1)".
        due(far(SHOE, "9"), 0);
        // Promise 4 (7), "SHOE: .. else as an UNCLE": with one more in its cell.
        due(forced(dusts(SHOE, 0, 5, MOTE, 0, 5), 9).told(0, 7), 4);
        // Promise 4 (7), "SHOE: .. else as an UNCLE": two shoes are not alone.
        due(forced(dusts(SHOE, 0, 5, SHOE, 0, 5), 9).told(1, 7), 4);
        // Promise 4 (7), "SHOE: 0, if it is alone (KIN of 1)": another in the cell beside is no kin.
        due(forced(dusts(SHOE, 0, 5, MOTE, 0, 4), 9).told(0, 7), 0);
        // Promise 4 (7), "SHOE: 0, if it is alone (KIN of 1)": one who is out is no kin.
        KinInTheHeap x = forced(dusts(SHOE, 0, 5, MOTE, 0, 5), 9);
        x.set(4, 1, NONE);
        due(x.told(0, 7), 0);
        // Promise 4 (7), "SHOE: .. else as an UNCLE": half of 3 is cut.
        due(dusts(SHOE, 0, 5, MOTE, 0, 5).told(0, 7), 1);
        // Promise 4 (7), "v being held as told below": a shoe that is not alone by 99 goes half of 9.
        due(ruled(dusts(SHOE, 0, 5, MOTE, 0, 5), "goes 99;frees 0;draws 0;").told(0, 7), 4);
    }

    private static void goesOfCinders() {
        // Promise 4 (7), "CINDER: NUMBER, if FORCE is above 5, else 0": force 5.
        due(forced(dusts(CINDER, 9, 0), 5).told(0, 7), 0);
        // Promise 4 (7), "CINDER: NUMBER, if FORCE is above 5, else 0": force 6.
        due(forced(dusts(CINDER, 9, 0), 6).told(0, 7), 9);
        // Promise 4 (7), "CINDER: NUMBER, if FORCE is above 5, else 0": force 9, number 0.
        due(forced(dusts(CINDER, 0, 0), 9).told(0, 7), 0);
        // Promise 4 (7), "CINDER: NUMBER, if FORCE is above 5, else 0": force 0.
        due(forced(dusts(CINDER, 9, 0), 0).told(0, 7), 0);
        // Promise 4 (7), "CINDER: NUMBER, if FORCE is above 5": whatever goes tells.
        due(ruled(forced(dusts(CINDER, 1, 0), 9), "goes 9;frees 0;draws 0;").told(0, 7), 1);
    }

    /** Whether one of a kind is free by the rule frees E, by a force, in a week. */
    private static int free(int kind, String e, int force, int week) {
        KinInTheHeap x = inWeek(forced(dusts(kind, 0, 14), force), week);
        return ruled(x, "goes 0;frees " + e + ";draws 0;").told(0, 8);
    }

    private static void frees() {
        // Promise 4 (8), "FREE (.. frees telling yes, if it isn't 0): MOTE: if yes": 0 is no.
        due(free(MOTE, "0", 9, 0), 0);
        // Promise 4 (8), "frees telling yes, if it isn't 0": 1 is yes.
        due(free(MOTE, "1", 0, 0), 1);
        // Promise 4 (8), "frees telling yes, if it isn't 0": 2 is yes.
        due(free(MOTE, "2", 0, 0), 1);
        // Promise 4 (8), "frees telling yes, if it isn't 0": -1 is yes.
        due(free(MOTE, "-1", 0, 0), 1);
        // Promise 4 (8), "UNCLE: never": not by yes.
        due(free(UNCLE, "1", 9, 0), 0);
        // Promise 4 (8), "SPARK: always": by no, too.
        due(free(SPARK, "0", 0, 1), 1);
        // Promise 4 (8), "SHOE: as an UNCLE, or if FORCE is 9": by 8 not, though frees tells yes.
        due(free(SHOE, "1", 8, 0), 0);
        // Promise 4 (8), "SHOE: as an UNCLE, or if FORCE is 9": by 9, though frees tells no.
        due(free(SHOE, "0", 9, 0), 1);
        // Promise 4 (8), "SOOT: as a SPARK, if WEEK is even, else not": week 0.
        due(free(SOOT, "0", 0, 0), 1);
        // Promise 4 (8), "SOOT: as a SPARK, if WEEK is even, else not": week 1, though frees tells yes.
        due(free(SOOT, "1", 9, 1), 0);
        // Promise 4 (8), "SOOT: as a SPARK, if WEEK is even, else not": week 998.
        due(free(SOOT, "0", 0, 998), 1);
        // Promise 4 (8), "SOOT: as a SPARK, if WEEK is even, else not": week 999.
        due(free(SOOT, "0", 0, 999), 0);
        // Promise 4 (8), "CINDER: if not yes": by 0.
        due(free(CINDER, "0", 0, 0), 1);
        // Promise 4 (8), "CINDER: if not yes": by 1.
        due(free(CINDER, "1", 9, 0), 0);
        // Promise 4 (8), "CINDER: if not yes": -1 is yes.
        due(free(CINDER, "-1", 0, 0), 0);
    }

    /** Which way one of a kind, with a number, is blown by the rule draws E. */
    private static int way(int kind, int number, String e) {
        return ruled(dusts(kind, number, 14), "goes 0;frees 0;draws " + e + ";").told(0, 9);
    }

    private static void draws() {
        int[] ways = {0, 1, 2, 3, 4, 0, 1};
        for (int v = 0; v < ways.length; v++) {
            // Promise 4 (9), "draws telling v: v modulo 5": 0 .. 4 are as told, 5 is 0, 6 is 1.
            due(way(MOTE, 0, "" + v), ways[v]);
            // Promise 4 (9), "UNCLE: nowhere".
            due(way(UNCLE, 9, "" + v), 0);
            // Promise 4 (9), "SPARK: as a MOTE".
            due(way(SPARK, 0, "" + v), ways[v]);
            // Promise 4 (9), "SHOE: as an UNCLE".
            due(way(SHOE, 9, "" + v), 0);
            // Promise 4 (9), "CINDER: as a MOTE, if NUMBER is above 4, else nowhere": 4 is not above.
            due(way(CINDER, 4, "" + v), 0);
            // Promise 4 (9), "CINDER: as a MOTE, if NUMBER is above 4": 5 is above.
            due(way(CINDER, 5, "" + v), ways[v]);
        }
        // Promise 4 (9), "SOOT: the other WAY than a SPARK (1 for 2, 3 for 4, and back)": nowhere has no other.
        due(way(SOOT, 0, "0"), 0);
        // Promise 4 (9), "SOOT: the other WAY than a SPARK (1 for 2 ..": by 1.
        due(way(SOOT, 0, "1"), 2);
        // Promise 4 (9), "SOOT: the other WAY than a SPARK (1 for 2 ..": by 2.
        due(way(SOOT, 0, "2"), 1);
        // Promise 4 (9), "SOOT: the other WAY than a SPARK (.. 3 for 4": by 3.
        due(way(SOOT, 0, "3"), 4);
        // Promise 4 (9), "SOOT: the other WAY than a SPARK (.. 3 for 4": by 4.
        due(way(SOOT, 0, "4"), 3);
        // Promise 4 (9), "v modulo 5, made 0 or more": -1 is 4.
        due(way(MOTE, 0, "-1"), 4);
        // Promise 4 (9), "v modulo 5, made 0 or more": -4 is 1.
        due(way(MOTE, 0, "-4"), 1);
        // Promise 4 (9), "v modulo 5, made 0 or more": -5 is 0.
        due(way(MOTE, 0, "-5"), 0);
        // Promise 4 (9), "v modulo 5, made 0 or more": -6 is 4.
        due(way(MOTE, 0, "-6"), 4);
        // Promise 4 (9), "v modulo 5, made 0 or more": the least int, -2147483648, is 2.
        due(way(MOTE, 0, "8192*8192*32"), 2);
        // Promise 4 (9), "v modulo 5": the greatest int, 2147483647, is 2.
        due(way(MOTE, 0, "8192*8192*32-1"), 2);
        // Promise 4 (9), "SOOT: the other WAY than a SPARK": by -1, which is 4.
        due(way(SOOT, 0, "-1"), 3);
    }

    public static void main(String[] args) {
        promise1();
        constants();
        promise2Week();
        promise2Force();
        promise2Crack();
        promise2Number();
        promise2Where();
        promise2What();
        promise3();
        promise4Floor();
        promise4Dust();
        goesOfMotesAndSparks();
        goesOfUnclesAndShoes();
        goesOfCinders();
        frees();
        draws();
        end();
    }
}
