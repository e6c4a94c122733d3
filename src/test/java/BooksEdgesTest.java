/** Promises 19 to 23: each sentence that names a boundary case. */
public final class BooksEdgesTest {
    private static final Judge judge = new Judge();
    private static final int LEAST = Integer.MIN_VALUE;
    private static final int MOST = Integer.MAX_VALUE;

    public static void main(String[] args) {
        promise19();
        promise20();
        promise21();
        promise22();
        promise22Least();
        promise23();
        judge.finish("BooksEdgesTest");
    }

    /** So many people, the first with these CREDITS, which add up to nothing: the last of them pays or is paid. */
    private static OneChairShort credits(int people, int... credits) {
        OneChairShort x = new OneChairShort();
        for (int k = 0; k < people; k++) {
            Told.town(x, "50");
        }
        int last = credits.length - 1;
        for (int k = 0; k < last; k++) {
            if (credits[k] > 0) {
                x.lend(k, last, credits[k]);
            } else {
                x.lend(last, k, -credits[k]);
            }
        }
        for (int k = 0; k < credits.length; k++) {
            judge.due("CREDIT of " + k, x.of(k, 8), credits[k]);
        }
        return x;
    }

    private static void promise19() {
        judge.sentence("Promise 19: How often one gave its CHAIR to another one. NONE: none such, like ones.");
        OneChairShort x = Told.fresh("r1;10;20", "0", "0");
        judge.due("never", x.gave(0, 1), 0);
        x.quarters(4);
        judge.due("gave(0, 1)", x.gave(0, 1), 2);
        judge.due("gave(1, 0)", x.gave(1, 0), 1);
        x.lend(0, 1, 500);
        x.settle();
        judge.due("payments are no CHAIRS", x.gave(0, 1) * 10 + x.gave(1, 0), 21);
        int[][] wrong = {{0, 0}, {1, 1}, {0, 2}, {2, 0}, {2, 2}, {2, 3}, {-1, 0}, {0, -1}, {-1, -1}, {LEAST, 0}, {0, MOST}, {8, 0}, {0, 8}};
        for (int[] one : wrong) {
            judge.due("gave(" + one[0] + ", " + one[1] + ")", x.gave(one[0], one[1]), -1);
        }
        OneChairShort last = Told.fresh("r1;1;2;3;4;5;6;7;8", "-", "-", "-", "-", "-", "-", "0", "0");
        last.quarters(200);
        judge.due("the last two: gave(6, 7)", last.gave(6, 7), 100);
        judge.due("the last two: gave(7, 6)", last.gave(7, 6), 99);
    }

    private static void promise20() {
        judge.sentence("Promise 20: 0: nobody did (the ROW is empty)");
        OneChairShort x = Told.fresh("r1;10;20;30", "00-------", "0", "0");
        x.quarters(0);
        judge.due("a ROW of two", x.count(7), 2);
        judge.due("nobody", x.pair(), 0);
        judge.row("nobody", x);
        x.quarters(2);
        judge.due("1 asked 0", x.pair(), 1);
        judge.row("1 asked 0", x, 0, 1);
        x.quarters(1);
        judge.due("2 asked 1: as often", x.pair(), 1);
        judge.sentence("Promise 20: (of equal ones the first pair, the lesser first)");
        judge.row("the first pair", x, 0, 1);
        x.quarters(1);
        judge.sentence("Promise 20: most often (both ways together): how often; the ROW: both");
        judge.due("1 and 2 once each way", x.pair(), 2);
        judge.row("1 and 2, behind a pair with one", x, 1, 2);
        OneChairShort last = Told.fresh("r1;1;2;3;4;5;6;7;8", "-", "-", "-", "-", "-", "-", "0", "0");
        last.quarters(200);
        judge.due("the last two", last.pair(), 199);
        judge.row("the last two", last, 6, 7);
        OneChairShort equal = Told.fresh("r1;r1;1;2;3;4", "1", "0", "0", "1");
        equal.quarters(3);
        judge.due("0 and 3, 1 and 2", equal.pair(), 2);
        judge.row("0 and 3 first", equal, 0, 3);
        equal.undo();
        judge.due("undone", equal.pair(), 0);
        judge.row("undone", equal);
    }

    private static void promise21() {
        judge.sentence("Promise 21: One pays another one n (1 .. 999)");
        OneChairShort x = Told.fresh("10;20;30");
        judge.due("lend(0, 1, 1)", x.lend(0, 1, 1), true);
        judge.due("lend(1, 2, 999)", x.lend(1, 2, 999), true);
        judge.due("CREDIT of 0", x.of(0, 8), 1);
        judge.due("CREDIT of 1", x.of(1, 8), 998);
        judge.due("CREDIT of 2", x.of(2, 8), -999);
        int[] wrong = {0, 1000, -1, -999, LEAST, MOST};
        for (int n : wrong) {
            judge.due("lend(0, 1, " + n + ")", x.lend(0, 1, n), false);
        }
        judge.sentence("Promise 21: Refused: others.");
        int[][] people = {{0, 0}, {2, 2}, {0, 3}, {3, 0}, {3, 3}, {-1, 0}, {0, -1}, {LEAST, MOST}, {8, 0}};
        for (int[] one : people) {
            judge.due("lend(" + one[0] + ", " + one[1] + ", 5)", x.lend(one[0], one[1], 5), false);
        }
        judge.due("CREDIT of 0 stays", x.of(0, 8), 1);
        judge.due("CREDIT of 1 stays", x.of(1, 8), 998);
        for (int k = 0; k < 100; k++) {
            x.lend(2, 0, 999);
        }
        judge.due("paid back a hundred times", x.of(2, 8), 98901);
        judge.due("books add up to nothing", x.of(0, 8) + x.of(1, 8) + x.of(2, 8), 0);
    }

    private static void promise22() {
        judge.sentence("Promise 22: The fewest payments after which all CREDITS are 0: how many");
        OneChairShort nobody = new OneChairShort();
        nobody.quarters(0);
        judge.due("nobody", nobody.fewest(), 0);
        judge.row("nobody", nobody);
        OneChairShort zero = credits(8, 0, 0, 0);
        zero.quarters(0);
        judge.due("all 0", zero.fewest(), 0);
        judge.row("all 0", zero);
        OneChairShort two = credits(8, 0, 0, 0, 0, 0, 0, 5, -5);
        judge.due("the last two", two.fewest(), 1);
        judge.row("the last two", two, 0b11000000);
        OneChairShort one = credits(8, 1, 2, 4, 8, 16, 32, 64, -127);
        judge.due("all of eight in one group", one.fewest(), 7);
        judge.row("all of eight in one group", one, 255);
        OneChairShort far = credits(4, 999, -999, 998, -998);
        judge.due("two and two", far.fewest(), 2);
        judge.row("two and two", far, 0b0011, 0b1100);
        judge.sentence("Promise 22: whose CREDIT is 0 is in none");
        OneChairShort between = credits(8, 0, 3, 0, -3, 0, 4, 0, -4);
        judge.due("between", between.fewest(), 2);
        judge.row("between", between, 0b00001010, 0b10100000);
        judge.sentence("Promise 22: Nothing changes.");
        judge.due("as before", between.fewest(), 2);
        judge.due("CREDIT", between.of(1, 8), 3);
    }

    private static void promise22Least() {
        judge.sentence("Promise 22: groups that settle among themselves, as many as can be: of all such the least row");
        OneChairShort ones = credits(8, 1, 1, 1, 1, -1, -1, -1, -1);
        judge.due("four groups", ones.fewest(), 4);
        judge.row("each with the first that is left", ones, 0b00010001, 0b00100010, 0b01000100, 0b10001000);
        OneChairShort shorter = credits(5, 3, -1, -2, 0, 0);
        judge.due("three", shorter.fewest(), 2);
        judge.row("three", shorter, 0b111);
        // 0 with 1 and 2 is 7, 0 with 3 is 9: both leave one group of the others.
        OneChairShort row = credits(6, 5, -2, -3, -5, 1, 4);
        judge.due("three and three, or two and four", row.fewest(), 4);
        judge.row("the least row, not the smallest group", row, 0b000111, 0b111000);
        // 5 with -5 first of all, though 5 -2 -3 is less: three groups against two.
        OneChairShort most = credits(8, 5, -2, -3, -5, 2, 3);
        judge.due("three groups are more than two", most.fewest(), 3);
        judge.row("three groups are more than two", most, 0b001001, 0b010010, 0b100100);
        OneChairShort big = credits(8, 7, -3, -4, 6, -1, -5, 2, -2);
        judge.due("three groups of eight", big.fewest(), 5);
        judge.row("three groups of eight", big, 0b00000111, 0b00111000, 0b11000000);
        // CREDITS that are turned round are as far from 0: what was added up for the first answer is no part of the second.
        OneChairShort turned = credits(3, 3, -1, -2);
        judge.due("3 -1 -2", turned.fewest(), 2);
        turned.lend(1, 0, 2);
        turned.lend(2, 0, 4);
        judge.due("-3 1 2", turned.of(0, 8), -3);
        judge.due("-3 1 2", turned.fewest(), 2);
        judge.row("-3 1 2", turned, 0b111);
        judge.due("-3 pays 2 and 1", turned.settle(), 2);
        judge.row("-3 pays 2 and 1", turned, 3);
        judge.sentence("Promise 22: each group by its least one");
        OneChairShort least = credits(4, 4, 9, -9, -4);
        judge.due("the group of 0 first", least.fewest(), 2);
        judge.row("the group of 0 first, though it is the greater number", least, 0b1001, 0b0110);
    }

    private static void promise23() {
        judge.sentence("Promise 23: how many payments (0, too, is one that was done)");
        OneChairShort none = credits(3, 0, 0, 0);
        none.quarters(2);
        judge.due("0", none.settle(), 0);
        judge.row("0: nothing was paid, and the ROW tells so", none, 0);
        judge.due("0: it was done, what could be undone is forgotten", none.count(5), 0);
        OneChairShort nobody = new OneChairShort();
        judge.due("nobody", nobody.settle(), 0);
        judge.row("nobody", nobody, 0);
        judge.sentence("Promise 23: as much as brings one of both to 0");
        OneChairShort more = credits(3, 9, -4, -5);
        judge.due("-5 pays 9, then -4 pays 4", more.settle(), 2);
        judge.row("-5 pays 9, then -4 pays 4", more, 9);
        OneChairShort less = credits(3, 4, 5, -9);
        judge.due("-9 pays 5, then 4", less.settle(), 2);
        judge.row("-9 pays 5, then 4", less, 9);
        OneChairShort same = credits(3, 9, -9, 0);
        judge.due("both at once", same.settle(), 1);
        judge.row("both at once", same, 9);
        OneChairShort eight = credits(8, 1, 2, 4, 8, 16, 32, 64, -127);
        judge.due("seven payments", eight.settle(), 7);
        judge.row("seven payments", eight, 127);
        for (int k = 0; k < 8; k++) {
            judge.due("CREDIT of " + k, eight.of(k, 8), 0);
        }
        judge.due("nothing more", eight.settle(), 0);
        judge.sentence("Promise 23: the one with the least (of equal ones the first) pays the one with the most (likewise)");
        // -7 pays 6: -1; -6 pays 5: -1; -3 pays 5: 2; -1 pays 2: 1; -1 pays 1. The fewest are 4.
        OneChairShort greedy = credits(6, 6, 5, 5, -6, -7, -3);
        judge.due("the fewest", greedy.fewest(), 4);
        judge.due("by the least and the most", greedy.settle(), 5);
        judge.row("by the least and the most", greedy, 16);
        OneChairShort gave = Told.fresh("r1;10;20", "0", "0");
        gave.quarters(2);
        judge.due("a CHAIR that was given is paid for", gave.settle(), 1);
        judge.row("a CHAIR that was given is paid for", gave, 1);
        judge.due("who gave to whom stays", gave.gave(0, 1), 1);
    }
}
