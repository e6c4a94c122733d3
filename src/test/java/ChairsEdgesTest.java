/** Promises 33 to 40: each sentence that names a boundary case. */
public final class ChairsEdgesTest {
    private static final Judge judge = new Judge();
    private static final int LEAST = Integer.MIN_VALUE;
    private static final int MOST = Integer.MAX_VALUE;

    public static void main(String[] args) {
        promise33();
        promise33Range();
        promise34();
        promise35();
        promise36();
        promise37();
        promise37Range();
        promise38();
        promise39();
        promise40();
        promise40Places();
        judge.finish("ChairsEdgesTest");
    }

    private static void promise33() {
        judge.sentence("Promise 33: one CHAIR more (8 at most: a ROOM of 8 stays so)");
        OneChairShort full = Told.fresh("r8;r8;1;2;3;4;5;6;7;8", "0", "0", "0", "0", "0", "0", "0", "0");
        judge.due("two of 8", full.more(100), 0);
        judge.row("two of 8", full, 0, -1);
        OneChairShort seven = Told.fresh("r8;r7;1;2;3;4;5;6;7;8!", "1", "1", "1", "1", "1", "1", "1", "1");
        judge.due("7 becomes 8", seven.more(10), 1);
        // One stands each quarter: 7 first, who then asks 0; 0 asks 1; .. 5 asks 6. 7 keeps the chair, as it is SICK.
        judge.row("7 becomes 8: no one stands more than twice", seven, 10, 0);
        judge.due("CHAIRS stay", seven.count(9), 15);
        judge.sentence("Promise 33: the fewest; of equal ones the first");
        OneChairShort equal = Told.fresh("r0;r1;r1;r0;10;20!;30;40!;50", "0", "1", "1", "2", "2");
        judge.due("0, 1 and 2 are as good", equal.more(50), 0);
        judge.row("0, 1 and 2 are as good", equal, 50, 0);
        equal.chairs(0, 1);
        judge.due("1 and 2 are as good", equal.more(50), 1);
        judge.row("1 and 2 are as good: 2 is freed", equal, 50, 2);
        equal.chairs(1, 2);
        judge.due("2 alone", equal.more(50), 2);
        judge.row("2 alone: 4 is freed", equal, 50, 4);
        equal.chairs(2, 2);
        judge.due("none helps: the first", equal.more(50), 0);
        judge.sentence("Promise 33: (of equal ones the first; NONE, if nobody STANDS less)");
        judge.row("none helps", equal, 0, -1);
        OneChairShort both = Told.fresh("r0;10;20", "0", "-0");
        judge.due("0 stands all the time, 1 each second", both.more(8), 0);
        // With a chair 0 sits first; 1 comes and goes, not having stood: it stands as often as ahead.
        judge.row("0 is freed", both, 8, 0);
        OneChairShort better = Told.fresh("r0;r0;r0;10;20;30", "1", "-", "0-");
        judge.due("ROOM 0 would free 2, ROOM 1 frees 0 of more", better.more(10), 1);
        judge.row("the one who STANDS the most less by it, not by another ROOM", better, 10, 0);
        OneChairShort two = Told.fresh("r0;r0;10;20", "1", "1");
        two.sick(0, true);
        judge.due("ROOM 1", two.more(1), 1);
        judge.row("ROOM 1: 0 is freed", two, 1, 0);
        OneChairShort same = Told.fresh("r1;10;20;30", "0", "0", "0");
        same.more(3);
        judge.row("each one less: the first", same, 3, 0);
    }

    private static void promise33Range() {
        judge.sentence("Promise 33: the next n (0 .. 100) .. -2: no ROOMS; NONE: another n");
        OneChairShort x = Told.fresh("r1;r0;10", "1");
        judge.due("more(0)", x.more(0), 0);
        judge.row("more(0)", x, 0, -1);
        judge.due("more(1)", x.more(1), 1);
        judge.row("more(1)", x, 1, 0);
        judge.due("more(100)", x.more(100), 1);
        judge.row("more(100)", x, 100, 0);
        x.quarters(50);
        judge.due("more(3) behind 50", x.more(3), 1);
        judge.row("more(3) behind 50: those ahead do not count", x, 3, 0);
        int[] wrong = {-1, 101, LEAST, MOST};
        for (int n : wrong) {
            judge.due("more(" + n + ")", x.more(n), -1);
            judge.due("no ROOMS: more(" + n + ")", Told.fresh("5").more(n), -1);
        }
        judge.row("the ROW stays", x, 3, 0);
        judge.due("no ROOMS", Told.fresh("5").more(100), -2);
        judge.due("no ROOMS, nobody", new OneChairShort().more(0), -2);
        OneChairShort nobody = Told.fresh("r8;r0");
        judge.due("nobody", nobody.more(100), 0);
        judge.row("nobody", nobody, 0, -1);
    }

    private static void promise34() {
        judge.sentence("Promise 34: all that are to be in the second are in the first, which has CHAIRS of both");
        OneChairShort x = Told.fresh("r8;r8;r0;1;2;3;4;5;6;7;8", "2", "2", "2", "2", "2", "2", "2", "2");
        judge.due("eight without a chair", x.feast(100), 0);
        judge.row("eight without a chair: 0 and 2 first", x, 0, 2);
        OneChairShort few = Told.fresh("r1;r2;10;20;30;40;50", "0", "0", "1", "1", "01");
        judge.due("three CHAIRS for five", few.feast(10), 20);
        judge.row("three CHAIRS for five", few, 0, 1);
        OneChairShort nowhere = Told.fresh("r0;r1;10;20", "0-", "1-");
        judge.due("nowhere stays nowhere", nowhere.feast(10), 5);
        OneChairShort third = Told.fresh("r1;r0;r2;10;20;30", "0", "2", "1");
        judge.due("the third ROOM stays as it is", third.feast(4), 0);
        judge.row("1 and 2", third, 1, 2);
        judge.sentence("Promise 34: of equal ones the first pair (by the lesser, then the other one, the lesser being the first)");
        OneChairShort equal = Told.fresh("r1;r1;r1;r1;10", "0");
        judge.due("all as good", equal.feast(7), 0);
        judge.row("all as good", equal, 0, 1);
        OneChairShort later = Told.fresh("r0;r0;r0;r1;10;20", "2", "1");
        judge.due("0 3 leaves both, 1 3 and 2 3 one", later.feast(7), 7);
        judge.row("1 3 ahead of 2 3", later, 1, 3);
        judge.sentence("Promise 34: the next n (0 .. 100) .. -2: fewer than two ROOMS; NONE: another n");
        OneChairShort range = Told.fresh("r0;r0;10", "1");
        judge.due("feast(0)", range.feast(0), 0);
        judge.row("feast(0)", range, 0, 1);
        judge.due("feast(100)", range.feast(100), 100);
        range.quarters(9);
        judge.due("those ahead do not count", range.feast(4), 4);
        int[] wrong = {-1, 101, LEAST, MOST};
        for (int n : wrong) {
            judge.due("feast(" + n + ")", range.feast(n), -1);
            judge.due("one ROOM: feast(" + n + ")", Told.fresh("r1;5").feast(n), -1);
        }
        judge.row("the ROW stays", range, 0, 1);
        judge.due("one ROOM", Told.fresh("r1;5", "0").feast(100), -2);
        judge.due("no ROOMS", Told.fresh("5").feast(0), -2);
        judge.due("two ROOMS, nobody", Told.fresh("r1;r1").feast(100), 0);
    }

    private static void promise35() {
        judge.sentence("Promise 35: one STOOD so many (0 .. 100) .. how many were told. Refused: others, 8.");
        OneChairShort x = Told.fresh("r1;10;20", "0", "0");
        int[][] wrong = {{0, -1}, {0, 101}, {0, LEAST}, {0, MOST}, {2, 5}, {-1, 5}, {8, 5}, {LEAST, 5}, {MOST, 5}};
        for (int[] one : wrong) {
            judge.due("told(" + one[0] + ", " + one[1] + ")", x.told(one[0], one[1]), -1);
        }
        judge.due("none was told", x.count(6), 0);
        for (int k = 1; k <= 8; k++) {
            judge.due("number " + k, x.told(k % 2, k % 2 * 100), k);
        }
        judge.due("a ninth", x.told(0, 0), -1);
        judge.due("a ninth, a wrong one", x.told(0, 101), -1);
        judge.due("eight stay", x.count(6), 8);
        x.quarters(3);
        x.keep(0);
        x.again(0);
        judge.due("they stay, whatever goes by", x.count(6), 8);
    }

    private static void promise36() {
        judge.sentence("Promise 36: What was told is forgotten: how much there was.");
        OneChairShort x = Told.fresh("r1;10", "0");
        judge.due("nothing", x.forget(), 0);
        for (int k = 0; k < 8; k++) {
            x.told(0, 50);
        }
        judge.due("eight", x.forget(), 8);
        judge.due("nothing", x.forget(), 0);
        judge.due("there is room again", x.told(0, 0), 1);
        judge.due("what was told before does not hold", x.stolen(5), 0);
        judge.row("it sits: so without a theft", x, 1);
    }

    private static void promise37() {
        judge.sentence("Promise 37: ROOMS (bits) in which, had one CHAIR been stolen there .. of a ROOM that has one), all that was told would be so");
        OneChairShort x = Told.fresh("r1;r0;r2;r8;10;20;30", "0", "1", "2");
        judge.due("nothing was told: all ROOMS with CHAIRS", x.stolen(5), 0b1101);
        judge.row("nothing was told", x, 1);
        x.told(1, 5);
        judge.due("1 stands in a ROOM without CHAIRS", x.stolen(5), 0b1101);
        judge.row("1 stands: so without", x, 1);
        x.told(0, 5);
        judge.due("0 stands: stolen in 0", x.stolen(5), 0b0001);
        judge.row("0 stands: not so without", x, 0);
        x.told(2, 0);
        judge.due("2 sits with one CHAIR, too", x.stolen(5), 0b0001);
        x.told(2, 1);
        judge.due("2 sits and stands: nowhere", x.stolen(5), 0);
        judge.row("2 sits and stands", x, 0);
        x.forget();
        x.told(0, 0);
        judge.due("0 sits: stolen in 2 or 3", x.stolen(5), 0b1100);
        judge.row("0 sits: so without", x, 1);
        judge.due("CHAIRS stay", x.count(9), 11);
        judge.sentence("Promise 37: ahead of the next n QUARTERS");
        OneChairShort sits = Told.fresh("r2;10;20", "0", "0");
        sits.quarters(2);
        sits.told(0, 1);
        judge.due("0 stands up, the first of equal ones", sits.stolen(1), 1);
        judge.row("0 stands up", sits, 0);
        sits.forget();
        sits.told(0, 1);
        sits.told(1, 1);
        judge.due("then it asks 1", sits.stolen(2), 1);
        sits.quarters(9);
        judge.due("QUARTERS ahead do not count", sits.stolen(2), 1);
    }

    private static void promise37Range() {
        judge.sentence("Promise 37: ahead of the next n QUARTERS (0 .. 100; .. NONE: another n");
        OneChairShort x = Told.fresh("r1;10", "0");
        x.told(0, 100);
        judge.due("stolen(100)", x.stolen(100), 1);
        judge.row("stolen(100)", x, 0);
        judge.due("stolen(99)", x.stolen(99), 0);
        judge.row("stolen(99)", x, 0);
        judge.due("stolen(0)", x.stolen(0), 0);
        x.forget();
        x.told(0, 0);
        judge.due("stolen(0)", x.stolen(0), 1);
        judge.row("stolen(0)", x, 1);
        int[] wrong = {-1, 101, LEAST, MOST};
        for (int n : wrong) {
            judge.due("stolen(" + n + ")", x.stolen(n), -1);
        }
        judge.row("the ROW stays", x, 1);
        OneChairShort none = Told.fresh("10");
        judge.due("no ROOMS, nothing was told", none.stolen(100), 0);
        judge.row("no ROOMS, nothing was told", none, 1);
        none.told(0, 1);
        judge.due("no ROOMS, one stood", none.stolen(100), 0);
        judge.row("no ROOMS, one stood", none, 0);
    }

    private static void promise38() {
        judge.sentence("Promise 38: of these four the first with the least difference; the ROW: the four differences");
        OneChairShort one = Told.fresh("r0;10", "0");
        judge.due("one alone", one.even(200), 0);
        judge.row("one alone", one, 0, 0, 0, 0);
        OneChairShort two = Told.fresh("r0;10;20", "0", "-");
        judge.due("all four 200", two.even(200), 0);
        judge.row("all four 200", two, 200, 200, 200, 200);
        two.quarters(7);
        judge.due("in all: 7 and 0", two.even(0), 0);
        judge.row("in all: 7 and 0", two, 7, 7, 7, 7);
        // By AGE 1 sits first, then 0: as even as it is. With 1 SICK and older it keeps the chair; as it is 0 has it, till 1 asks.
        OneChairShort age = Told.fresh("r1;10!;20", "0", "0");
        judge.due("0 keeps the chair, or 1 and 0 have it by turns", age.even(4), 1);
        judge.row("0 keeps the chair, by AGE it is as it is not SICK who sits", age, 4, 2, 4, 4);
        Told.rule(age, 0, "g");
        judge.due("as it is: by AGE", age.even(4), 0);
        judge.row("as it is: by AGE", age, 2, 2, 4, 4);
        OneChairShort credit = Told.fresh("r1;10!;10", "0", "0");
        credit.lend(1, 0, 3);
        judge.due("by CREDIT 1 sits first, 0 asks it and keeps the chair", credit.even(4), 3);
        judge.row("by CREDIT", credit, 4, 4, 4, 2);
        judge.due("RULE 0 stays", credit.of(1, 9), 0);
        judge.sentence("Promise 38: behind n QUARTERS (0 .. 200) .. -2: nobody; NONE: another n");
        int[] wrong = {-1, 201, LEAST, MOST};
        for (int n : wrong) {
            judge.due("even(" + n + ")", credit.even(n), -1);
            judge.due("nobody: even(" + n + ")", Told.fresh("r1").even(n), -1);
        }
        judge.row("the ROW stays", credit, 4, 4, 4, 2);
        judge.due("nobody", Told.fresh("r1").even(0), -2);
        judge.due("nobody", new OneChairShort().even(200), -2);
    }

    private static void promise39() {
        judge.sentence("Promise 39: By how much .. would be fewer, if it was SICK the other way round");
        OneChairShort x = Told.fresh("r1;10;20", "0", "0");
        judge.due("spares(0, 0)", x.spares(0, 0), 0);
        judge.due("spares(0, 1)", x.spares(0, 1), 0);
        judge.due("spares(0, 2): SICK it keeps the chair", x.spares(0, 2), 1);
        judge.due("spares(0, 100)", x.spares(0, 100), 50);
        x.sick(0, true);
        judge.due("SICK: well it would stand 50: fewer by -50", x.spares(0, 100), -50);
        judge.due("SICK, spares(1, 100): of no use to 1", x.spares(1, 100), 0);
        judge.due("SICK stays", x.of(0, 1), 1);
        x.quarters(3);
        judge.due("QUARTERS ahead do not count", x.spares(0, 1), -1);
        judge.sentence("Promise 39: NoSuchElementException: others");
        int[][] wrong = {{0, -1}, {0, 101}, {0, LEAST}, {0, MOST}, {2, 5}, {-1, 5}, {8, 5}, {LEAST, 5}, {MOST, 5}, {2, 101}};
        for (int[] one : wrong) {
            judge.noSuch("spares(" + one[0] + ", " + one[1] + ")", () -> x.spares(one[0], one[1]));
        }
    }

    private static String many(String signs, int times) {
        StringBuilder all = new StringBuilder();
        for (int k = 0; k < times; k++) {
            all.append(signs);
        }
        return all.toString();
    }

    private static void promise40() {
        judge.sentence("Promise 40: After how many QUARTERS (1 .. 500) first .. after fewer (now counts) .. NOW being the same sign of all PLANS");
        OneChairShort nobody = new OneChairShort();
        judge.due("nobody", nobody.round(), 1);
        judge.row("nobody: now counts", nobody, 0);
        OneChairShort nowhere = Told.fresh("r1;10;20", "", "-");
        judge.due("nowhere", nowhere.round(), 1);
        judge.row("nowhere", nowhere, 0);
        OneChairShort signs = Told.fresh("r1;10", "---");
        judge.due("nowhere by three signs", signs.round(), 3);
        judge.row("nowhere by three signs", signs, 0);
        signs.quarters(200);
        judge.due("behind 200", signs.round(), 3);
        judge.row("behind 200", signs, 0);
        // 20 and 24 and 3: 120; 16 and 25 is no PLAN; 20 and 23: 460; 22 and 23: 506.
        OneChairShort far = Told.fresh("r1;10;20;30", many("-", 20), many("-", 24), "---");
        judge.due("120", far.round(), 120);
        Told.plan(far, 1, many("-", 23));
        Told.plan(far, 2, "-----");
        judge.due("460", far.round(), 460);
        judge.row("460", far, 0);
        Told.plan(far, 0, many("-", 22));
        judge.due("22 and 23 and 5", far.round(), -2);
        far.plan(2);
        judge.due("506", far.round(), -2);
        judge.row("the ROW stays", far, 0);
        judge.sentence("Promise 40: with s and t as then");
        OneChairShort grows = Told.fresh("r1;r0;10;20", "0", "-");
        judge.due("s grows", grows.round(), -2);
        Told.plan(grows, 0, "1");
        judge.due("t grows", grows.round(), -2);
        Told.plan(grows, 0, "1-");
        // Now: nowhere. After 1 it stands with t 1, after 2 it is nowhere, as now.
        judge.due("t begins anew", grows.round(), 2);
        judge.row("t begins anew: now counts", grows, 0);
        grows.quarters(1);
        judge.due("from there", grows.round(), 2);
        judge.row("from there", grows, 0);
    }

    private static void promise40Places() {
        judge.sentence("Promise 40: all are where they were .. as SEATED or STANDING");
        // It sits in room 0 with s 1; by a new PLAN it is nowhere, and then in room 1 with s 1: not where it was. Then nowhere again.
        OneChairShort x = Told.fresh("r1;r1;10", "-0");
        x.quarters(2);
        Told.plan(x, 0, "-1");
        judge.due("another ROOM", x.round(), 3);
        judge.row("another ROOM", x, 1);
        // As ahead, but in room 1 it STANDS, with t 1.
        OneChairShort stands = Told.fresh("r1;r0;10", "-0");
        stands.quarters(2);
        Told.plan(stands, 0, "-1");
        judge.due("SEATED in 0, STANDING in 1", stands.round(), 3);
        judge.row("SEATED in 0, STANDING in 1", stands, 1);
        // In the same ROOM: SEATED with s 1, then, without CHAIRS, STANDING with t 1.
        OneChairShort same = Told.fresh("r1;10", "-0");
        same.quarters(2);
        same.chairs(0, 0);
        judge.due("SEATED, then STANDING", same.round(), 3);
        judge.row("SEATED, then STANDING", same, 1);
        // NOW is even each time, so that -1 begins with - : s is NOW, or one less.
        for (int now = 2; now <= 22; now += 2) {
            String[] plans = {many("0", 24), "-" + many("0", 23)};
            for (int k = 0; k < 2; k++) {
                OneChairShort more = Told.fresh("r1;r1;10", plans[k]);
                more.quarters(now);
                judge.due("s now", more.of(0, 4), now - k);
                Told.plan(more, 0, "-1");
                judge.due("s " + (now - k) + " in ROOM 0, s 1 in ROOM 1", more.round(), 3);
                judge.row("s " + (now - k) + " in ROOM 0, s 1 in ROOM 1", more, 1);
            }
        }
        // Of two: 0 as it was, 1 not.
        OneChairShort two = Told.fresh("r8;10;20", "0-", "0");
        judge.due("one of them is not as it was", two.round(), -2);
    }
}
