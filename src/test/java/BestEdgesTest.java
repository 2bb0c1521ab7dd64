/**
 * Boundary cases of what would be best (promises 14 to 18); a test each.
 * The remark ahead of a test tells the promise, the sentence of the document, and the case.
 */
public final class BestEdgesTest extends Edges {

    /** One in a crack, another that comes to it by the one stroke 23 alone. */
    private static KinInTheHeap gatheredByTheLast() {
        return cracked(motes(17, 35), 17);
    }

    /** By stroke 0 both come to the crack in cell 3, by stroke 1 to that in cell 0. */
    private static KinInTheHeap gatheredByTwo() {
        return cracked(motes(1, 2), 0, 3);
    }

    private static void gatherHowMany() {
        // Promise 14, "the fewest STROKES (0 .. 2) by which all these are IN one CELL": none, they are.
        due(motes(7, 7).gather(3, 0), 0);
        // Promise 14, "(0 .. 2) by which all these are IN one CELL": the first cell is one.
        due(motes(0, 0).gather(3, 0), 0);
        // Promise 14, "(0 .. 2) by which all these are IN one CELL": by one stroke in the first cell.
        due(cracked(motes(0, 3), 0).gather(3, 1), 2);
        // Promise 14, "the STROKES (.. 0: none)".
        due(motes(7, 7).gather(3, 1), 0);
        // Promise 14, "some (of those there are, one at least)": one alone is IN one CELL.
        due(motes(7, 8).gather(2, 0), 0);
        // Promise 14, "some": all eight in the last cell.
        due(motes(35, 35, 35, 35, 35, 35, 35, 35).gather(255, 0), 0);
        // Promise 14, "the fewest STROKES (0 .. 2)": one.
        due(cracked(motes(0, 3), 3).gather(3, 0), 1);
        // Promise 14, "the fewest STROKES (0 .. 2)": two.
        due(forced(cracked(motes(0, 4), 4), 2).gather(3, 0), 2);
        // Promise 14, "the fewest STROKES (0 .. 2) ..; NONE": it would take three.
        due(forced(cracked(motes(0, 3), 3), 1).gather(3, 0), NONE);
        // Promise 14, "NONE": it would take three, the STROKES.
        due(forced(cracked(motes(0, 3), 3), 1).gather(3, 1), NONE);
        // Promise 14, "all these": of three but two.
        due(cracked(motes(0, 3, 20), 3, 20).gather(7, 0), NONE);
        // Promise 14, "all these": the others don't matter.
        due(cracked(motes(0, 3, 20), 3, 20).gather(3, 0), 1);
        // Promise 14, "IN one CELL": those who are out are in none.
        due(motes(NONE, NONE).gather(3, 0), NONE);
        // Promise 14, "IN one CELL": one of them is out.
        due(motes(7, NONE).gather(3, 0), NONE);
        // Promise 14, "IN one CELL": one alone that is out.
        due(motes(NONE).gather(1, 1), NONE);
        // Promise 14, "IN one CELL": by a stroke by which both are out they are in none.
        due(forced(motes(0, 35), 9).gather(3, 0), NONE);
    }

    private static void gatherWhich() {
        // Promise 14, "(100 times that of those ahead, and 1 more than the last one": STROKE 0 is 1.
        due(cracked(motes(0, 3), 3).gather(3, 1), 1);
        // Promise 14, "(100 times that of those ahead, and 1 more than the last one": STROKE 23 is 24.
        due(gatheredByTheLast().gather(3, 1), 24);
        // Promise 14, "(100 times that of those ahead, and 1 more than the last one": STROKE 0 twice.
        due(forced(cracked(motes(0, 4), 4), 2).gather(3, 1), 101);
        // Promise 14, "(100 times that of those ahead, and 1 more than the last one": STROKE 23 twice.
        due(cracked(motes(5, 35), 5).gather(3, 1), 2424);
        // Promise 14, "of like ones the first": of 0 and 1.
        due(gatheredByTwo().gather(3, 1), 1);
        // Promise 14, "(the first STROKE first)": 0 and 18, not 12 and 6.
        due(cracked(motes(0, 21), 21).gather(3, 1), 119);
        // Promise 14, "of like ones the first": 14 and 6, not 14 and 7.
        due(cracked(motes(1, 20), 18, 21).gather(3, 1), 1507);
        // Promise 14, "GATHER": in thought.
        KinInTheHeap x = gatheredByTheLast();
        x.gather(3, 1);
        due(x.told(1, 4), 35);
    }

    private static void gatherBad() {
        // Promise 14, "BAD: some (.. one at least)": none.
        due(motes(7).gather(0, 0), BAD);
        // Promise 14, "BAD: some (of those there are": one behind the last.
        due(motes(7).gather(2, 0), BAD);
        // Promise 14, "BAD: some (of those there are": one that is there, and one behind the last.
        due(motes(7).gather(3, 0), BAD);
        // Promise 14, "BAD: some (of those there are": no dust at all.
        due(bare().gather(1, 0), BAD);
        // Promise 14, "BAD: some (of those there are": a ninth.
        due(motes(0, 0, 0, 0, 0, 0, 0, 0).gather(256, 0), BAD);
        // Promise 14, "BAD: some": below 0.
        due(motes(0, 0, 0, 0, 0, 0, 0, 0).gather(-1, 0), BAD);
        // Promise 14, "BAD: some": as small as can be.
        due(motes(0).gather(MIN, 0), BAD);
        // Promise 14, "BAD: some": as great as can be.
        due(motes(0, 0, 0, 0, 0, 0, 0, 0).gather(MAX, 0), BAD);
        // Promise 14, "some (of those there are": those who are out are there.
        due(motes(NONE).gather(1, 0), NONE);
        // Promise 14, "BAD: .. what": below 0.
        due(motes(7).gather(1, -1), BAD);
        // Promise 14, "BAD: .. what": 2.
        due(motes(7).gather(1, 2), BAD);
        // Promise 14, "BAD: .. what": as great as can be.
        due(motes(7).gather(1, MAX), BAD);
        // Promise 14, "BAD: .. what": as small as can be.
        due(motes(7).gather(1, MIN), BAD);
    }

    private static void bestOfNobody() {
        int[] answers = {0, 0, 0, 0, NONE, NONE};
        for (int what = 0; what <= 5; what++) {
            // Promise 15, "of like ones the first" for BEST and TIDY, "NONE" for LOSE: a bare floor.
            due(bare().best(what), answers[what]);
        }
        int[] allOut = {0, 0, 0, 0, NONE, NONE};
        for (int what = 0; what <= 5; what++) {
            // Promise 15, "of like ones the first" for BEST and TIDY, "NONE" for LOSE: all are out.
            due(motes(NONE, NONE).best(what), allOut[what]);
        }
        int[] stuck = {0, 1, 0, 0, NONE, NONE};
        for (int what = 0; what <= 5; what++) {
            // Promise 15, "of like ones the first" for BEST and TIDY, "NONE" for LOSE: nobody comes out of the crack.
            due(cracked(motes(8, 8), 8).best(what), stuck[what]);
        }
        // Promise 15, "BAD": below 0.
        due(motes(0).best(-1), BAD);
        // Promise 15, "BAD": 6.
        due(motes(0).best(6), BAD);
        // Promise 15, "BAD": as great as can be.
        due(motes(0).best(MAX), BAD);
        // Promise 15, "BAD": as small as can be.
        due(motes(0).best(MIN), BAD);
    }

    private static void bestAndTidy() {
        // Promise 15, "BEST: the STROKE by which most twos are TOGETHER; of like ones the first": of 0 and 1.
        due(gatheredByTwo().best(0), 0);
        // Promise 15, "BEST (what 0)": the last one, 23.
        due(gatheredByTheLast().best(0), 23);
        // Promise 15, "how many twos (1)": by the last one.
        due(gatheredByTheLast().best(1), 1);
        // Promise 15, "BEST": those who come to be out are not TOGETHER.
        due(motes(5, 5).best(0), 1);
        // Promise 15, "BEST": the first that leaves them TOGETHER, 2, for 0 parts them and by 1 they are out.
        due(dusts(MOTE, 0, 0, UNCLE, 0, 0).best(0), 2);
        // Promise 15, "how many twos (1)": of eight.
        due(motes(0, 0, 0, 0, 0, 0, 0, 0).best(1), 28);
        // Promise 15, "TIDY (2)", "the STROKE by which SPREAD is least": that which brings the farther one out.
        due(motes(5, 30).best(2), 0);
        // Promise 15, "SPREAD then (3)": one is out.
        due(motes(5, 30).best(3), 0);
        // Promise 15, "TIDY (2)": one that is not the first.
        due(forced(cracked(motes(16, 28), 16), 1).best(2), 21);
        // Promise 15, "TIDY (2)": the last one, 23.
        due(cracked(motes(5, 23, 29), 5, 35).best(2), 23);
        // Promise 15, "SPREAD then (3)": two rows in all.
        due(cracked(motes(5, 23, 29), 5, 35).best(3), 2);
        // Promise 15, "SPREAD then (3)": a row apart.
        due(forced(cracked(motes(16, 28), 16), 1).best(3), 1);
        // Promise 15, "TIDY .. of like ones the first": of 0 and 1.
        due(gatheredByTwo().best(2), 0);
        // Promise 15, "SPREAD then (3)": as great as can be, and it stays so.
        due(forced(motes(0, 0, 0, 0, 35, 35, 35, 35), 0).best(3), 160);
        // Promise 15, "SPREAD then (3)": of those who are out nothing, ahead or then.
        due(forced(motes(NONE, 14), 0).best(3), 0);
        // Promise 15, "BEST", "TIDY", "LOSE": in thought.
        KinInTheHeap x = motes(5);
        for (int what = 0; what <= 5; what++) {
            x.best(what);
        }
        due(x.told(0, 4), 5);
    }

    private static void lose() {
        // Promise 15, "of those by which anybody comes to another CELL, or to be OUT": by all of these it is out.
        due(forced(motes(35), 9).best(4), 10);
        // Promise 15, "how many are OUT then (5": it.
        due(forced(motes(35), 9).best(5), 1);
        // Promise 15, "LOSE .. fewest are OUT then": all eight, by each that moves anybody.
        due(forced(motes(35, 35, 35, 35, 35, 35, 35, 35), 9).best(4), 10);
        // Promise 15, "how many are OUT then (5": all eight.
        due(forced(motes(35, 35, 35, 35, 35, 35, 35, 35), 9).best(5), 8);
        // Promise 15, "LOSE": the first one, 0.
        due(motes(0).best(4), 0);
        // Promise 15, "LOSE (4; NONE)": nobody goes by force 0.
        due(forced(motes(14), 0).best(4), NONE);
        // Promise 15, "how many are OUT then (5; NONE)": nobody goes by force 0.
        due(forced(motes(14), 0).best(5), NONE);
        // Promise 15, "how many are OUT then (5; NONE)": nobody goes, though some are out ahead.
        due(forced(motes(14, NONE), 0).best(5), NONE);
        // Promise 15, "LOSE .. of like ones the first": 4, not 5, 16 or 17.
        due(forced(motes(14), 1).best(4), 4);
        // Promise 15, "LOSE .. fewest are OUT then": 1, for by 0 it is out.
        due(motes(5).best(4), 1);
        // Promise 15, "how many are OUT then (5": none.
        due(motes(5).best(5), 0);
        // Promise 15, "how many are OUT then (5": those who are out ahead, too.
        due(motes(NONE, 5, NONE).best(5), 2);
        // Promise 15, "LOSE .. fewest are OUT then": the last one, 23, by which alone it is not out.
        due(forced(cracked(motes(35), 29), 9).best(4), 23);
        // Promise 15, "by which anybody comes to another CELL": one of many is enough.
        due(forced(cracked(motes(8, 8, 8, 8, 8, 8, 8, 9), 8), 1).best(4), 2);
        // Promise 15, "by which anybody comes to another CELL": from a crack into the next one is another.
        due(cracked(dusts(SPARK, 0, 14), 14, 15).best(4), 4);
        // Promise 15, "or to be OUT": a shoe alone goes nowhere, even at the edge.
        due(forced(dusts(SHOE, 0, 35), 9).best(4), NONE);
    }

    private static void saveWhich() {
        KinInTheHeap x;
        // Promise 16, "if fewer than so ..; NONE": nobody would be out.
        due(motes(0).save(0, 0), NONE);
        // Promise 16, "how many are OUT then (1; as so)": nobody would be out.
        due(motes(0).save(0, 1), 0);
        // Promise 16, "NONE": no cell is between it and the edge.
        due(motes(5).save(0, 0), NONE);
        // Promise 16, "how many are OUT then (1; as so)": it is, as without a crack more.
        due(motes(5).save(0, 1), 1);
        // Promise 16, "the CELL in which, were there a CRACK ..": the last one ahead of the edge.
        due(motes(4).save(0, 0), 5);
        // Promise 16, "how many are OUT then (1": none.
        due(motes(4).save(0, 1), 0);
        // Promise 16, "the CELL": the first of all, 0.
        due(motes(1).save(1, 0), 0);
        // Promise 16, "the CELL": the last of all, 35.
        due(motes(34).save(10, 0), 35);
        // Promise 16, "(a STROKE)": the last one, 23.
        due(motes(11).save(23, 0), 5);
        // Promise 16, "of like ones the first": 34, not 35.
        due(motes(33).save(10, 0), 34);
        // Promise 16, "of like ones the first": 30, not 31, which is nearer.
        due(motes(32).save(11, 0), 30);
        // Promise 16, "fewest would be OUT by it": 5 saves both, 3 but one.
        due(forced(motes(2, 4), 4).save(0, 0), 5);
        // Promise 16, "(.. nobody is IN it)": one that stays in it is, too.
        due(forced(dusts(MOTE, 0, 4, UNCLE, 0, 5), 2).save(0, 0), NONE);
        // Promise 16, "(.. nobody is IN it)": its own cell would hold it.
        due(forced(motes(5), 1).save(0, 0), NONE);
        // Promise 16, "(.. nobody is IN it)": one who is out is IN none.
        due(motes(4, NONE).save(0, 0), 5);
        // Promise 16, "(there is none": one is there that holds it as it is.
        due(cracked(motes(4), 5).save(0, 0), NONE);
        // Promise 16, "how many are OUT then (1": those who are out ahead, too.
        due(motes(4, NONE, NONE).save(0, 1), 2);
        // Promise 16, "fewest would be OUT by it": who is free is held, too.
        due(dusts(SPARK, 0, 3).save(0, 0), 4);
        // Promise 16, "NONE": on a bare floor.
        due(bare().save(0, 0), NONE);
        // Promise 16, "(1; as so)": on a bare floor.
        due(bare().save(23, 1), 0);
        // Promise 16, "were there a CRACK": in thought.
        x = motes(4);
        x.save(0, 0);
        due(x.where(1), 0);
        // Promise 16, "fewest would be OUT by it": in thought.
        x = motes(4);
        x.save(0, 1);
        due(x.told(0, 4), 4);
    }

    private static void saveBad() {
        // Promise 16, "BAD": a STROKE below 0.
        due(motes(4).save(-1, 0), BAD);
        // Promise 16, "BAD": a STROKE above 23.
        due(motes(4).save(24, 0), BAD);
        // Promise 16, "BAD": a STROKE as great as can be.
        due(motes(4).save(MAX, 0), BAD);
        // Promise 16, "BAD": a STROKE as small as can be.
        due(motes(4).save(MIN, 0), BAD);
        // Promise 16, "BAD": what below 0.
        due(motes(4).save(0, -1), BAD);
        // Promise 16, "BAD": what 2.
        due(motes(4).save(0, 2), BAD);
        // Promise 16, "BAD": what as great as can be.
        due(motes(4).save(0, MAX), BAD);
    }

    private static KinInTheHeap drawing(KinInTheHeap x, String e) {
        return ruled(x, "goes 0;frees 0;draws " + e + ";");
    }

    private static void promise17() {
        KinInTheHeap x;
        // Promise 17, "(0: now)": it is out.
        due(motes(NONE).lasts(0, 40), 0);
        // Promise 17, "(0: now)": it is out, n 0.
        due(motes(NONE).lasts(0, 0), 0);
        // Promise 17, "NONE": it isn't out now, n 0.
        due(drawing(motes(5), "1").lasts(0, 0), NONE);
        // Promise 17, "behind how many WEEKS": 1.
        due(drawing(motes(5), "1").lasts(0, 1), 1);
        // Promise 17, "(n at most": as many as it lasts.
        due(drawing(motes(0), "1").lasts(0, 6), 6);
        // Promise 17, "(n at most": one less than it lasts.
        due(drawing(motes(0), "1").lasts(0, 5), NONE);
        // Promise 17, "(one, n: 0 .. 40)": out behind the fortieth week.
        due(drawing(motes(5), "(38<week)").lasts(0, 40), 40);
        // Promise 17, "(one, n: 0 .. 40)": not behind the thirty ninth.
        due(drawing(motes(5), "(38<week)").lasts(0, 39), NONE);
        // Promise 17, "NONE": out behind the forty first week, which isn't asked.
        due(drawing(motes(5), "(39<week)").lasts(0, 40), NONE);
        // Promise 17, "one is OUT first": another one is, it isn't.
        due(drawing(motes(5, 0), "(column=5)").lasts(1, 40), NONE);
        // Promise 17, "one is OUT first": it goes to and fro and is never.
        due(drawing(motes(14), "1+(column=3)").lasts(0, 40), NONE);
        // Promise 17, "NONE": it comes into a crack and stays in it.
        due(cracked(drawing(motes(0), "1"), 5).lasts(0, 40), NONE);
        // Promise 17, "in thought WEEK may pass 999": from 999 on.
        due(inWeek(drawing(motes(0), "1"), 999).lasts(0, 40), 6);
        // Promise 17, "in thought WEEK may pass 999": it is 1000 then, and so on.
        due(inWeek(drawing(motes(5), "(week=1001)"), 999).lasts(0, 40), 3);
        // Promise 17, "in thought WEEK may pass 999": it doesn't begin at 0 again.
        due(inWeek(drawing(motes(5), "(week<999)"), 999).lasts(0, 40), NONE);
        // Promise 17, "LASTS": in thought, the week.
        x = drawing(motes(5), "1");
        x.lasts(0, 40);
        due(x.told(0, 0), 0);
        // Promise 17, "LASTS": in thought, where it is.
        x = drawing(motes(5), "1");
        x.lasts(0, 40);
        due(x.told(0, 4), 5);
        // Promise 17, "BAD": n below 0.
        due(motes(5).lasts(0, -1), BAD);
        // Promise 17, "BAD": n above 40.
        due(motes(5).lasts(0, 41), BAD);
        // Promise 17, "BAD": n as great as can be.
        due(motes(5).lasts(0, MAX), BAD);
        // Promise 17, "BAD": n below 0, though it is out now.
        due(motes(NONE).lasts(0, -1), BAD);
        // Promise 17, "BAD": no dust at all.
        due(bare().lasts(0, 0), BAD);
        // Promise 17, "BAD": one behind the last of dust.
        due(motes(5).lasts(1, 0), BAD);
        // Promise 17, "BAD": one ahead of the first of dust.
        due(motes(5).lasts(-1, 0), BAD);
        // Promise 17, "BAD": behind the last of eight.
        due(motes(0, 0, 0, 0, 0, 0, 0, 0).lasts(8, 0), BAD);
        // Promise 17, "LASTS": the last of eight.
        due(motes(0, 0, 0, 0, 0, 0, 0, NONE).lasts(7, 0), 0);
    }

    private static void promise18() {
        // Promise 18, "NO: .. no DUST": above the line.
        due(bare().share(0), NO);
        // Promise 18, "NO: .. no DUST": below the line.
        due(bare().share(1), NO);
        // Promise 18, "NO: part": below 0.
        due(motes(0).share(-1), NO);
        // Promise 18, "NO: part": 2.
        due(motes(0).share(2), NO);
        // Promise 18, "NO: part": as great as can be.
        due(motes(0).share(MAX), NO);
        // Promise 18, "NO: part": as small as can be.
        due(motes(0).share(MIN), NO);
        // Promise 18, "in lowest terms": none is out, above the line.
        due(motes(0, 0, 0, 0, 0, 0, 0, 0).share(0), 0);
        // Promise 18, "in lowest terms": none is out, below the line.
        due(motes(0, 0, 0, 0, 0, 0, 0, 0).share(1), 1);
        // Promise 18, "in lowest terms": all are out, above the line.
        due(motes(NONE, NONE, NONE, NONE, NONE, NONE, NONE, NONE).share(0), 1);
        // Promise 18, "in lowest terms": all are out, below the line.
        due(motes(NONE, NONE, NONE, NONE, NONE, NONE, NONE, NONE).share(1), 1);
        // Promise 18, "in lowest terms": 4 of 6, above the line.
        due(motes(NONE, NONE, NONE, NONE, 0, 0).share(0), 2);
        // Promise 18, "in lowest terms": 4 of 6, below the line.
        due(motes(NONE, NONE, NONE, NONE, 0, 0).share(1), 3);
        // Promise 18, "in lowest terms": 3 of 8, above the line.
        due(motes(NONE, NONE, NONE, 0, 0, 0, 0, 0).share(0), 3);
        // Promise 18, "in lowest terms": 3 of 8, below the line.
        due(motes(NONE, NONE, NONE, 0, 0, 0, 0, 0).share(1), 8);
        // Promise 18, "in lowest terms": 1 of 1.
        due(motes(NONE).share(1), 1);
    }

    public static void main(String[] args) {
        gatherHowMany();
        gatherWhich();
        gatherBad();
        bestOfNobody();
        bestAndTidy();
        lose();
        saveWhich();
        saveBad();
        promise17();
        promise18();
        end();
    }
}
