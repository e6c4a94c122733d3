/** Promises 19 to 23: books. */
public final class BooksTest {
    private static final Judge judge = new Judge();

    public static void main(String[] args) {
        promise19();
        promise20();
        promise21();
        promise22();
        promise22Groups();
        promise23();
        judge.finish("BooksTest");
    }

    private static OneChairShort three() {
        return Told.fresh("r1;10;20;30", "0", "0", "0");
    }

    private static OneChairShort people(int many) {
        OneChairShort x = new OneChairShort();
        for (int k = 0; k < many; k++) {
            Told.town(x, "50");
        }
        return x;
    }

    private static void promise19() {
        OneChairShort x = three();
        judge.due("gave: nothing yet", x.gave(0, 1), 0);
        x.quarters(5);
        judge.due("gave(0, 1)", x.gave(0, 1), 2);
        judge.due("gave(1, 0)", x.gave(1, 0), 0);
        judge.due("gave(1, 2)", x.gave(1, 2), 1);
        judge.due("gave(2, 0)", x.gave(2, 0), 1);
        judge.due("gave(0, 2)", x.gave(0, 2), 0);
        judge.due("gave(0, 0)", x.gave(0, 0), -1);
        judge.due("gave(0, 3)", x.gave(0, 3), -1);
        judge.due("gave(3, 0)", x.gave(3, 0), -1);
        judge.due("gave(-1, 0)", x.gave(-1, 0), -1);
        judge.due("gave(0, -1)", x.gave(0, -1), -1);
    }

    private static void promise20() {
        OneChairShort x = three();
        x.quarters(1);
        judge.due("pair: nobody did", x.pair(), 0);
        judge.row("pair: nobody did", x);
        x.quarters(4);
        judge.due("pair", x.pair(), 2);
        judge.row("pair", x, 0, 1);
        OneChairShort equal = three();
        equal.quarters(4);
        judge.due("pair: each once", equal.pair(), 1);
        judge.row("pair: the first of equal ones", equal, 0, 1);
        OneChairShort two = Told.fresh("r1;5;6;7", "-", "0", "0");
        two.quarters(4);
        judge.due("pair: both ways together", two.pair(), 3);
        judge.row("pair: both ways together", two, 1, 2);
        OneChairShort later = Told.fresh("r1;r1;5;6;7", "0", "1", "0");
        later.quarters(3);
        judge.due("pair: 0 and 2", later.pair(), 2);
        judge.row("pair: 0 and 2, not 0 and 1", later, 0, 2);
        OneChairShort nobody = new OneChairShort();
        nobody.quarters(0);
        judge.due("pair: nobody is there", nobody.pair(), 0);
        judge.row("pair: nobody is there", nobody);
    }

    private static void promise21() {
        OneChairShort x = three();
        judge.due("lend(0, 1, 1)", x.lend(0, 1, 1), true);
        judge.due("lend(2, 1, 999)", x.lend(2, 1, 999), true);
        judge.due("who pays has more", x.of(0, 8), 1);
        judge.due("who pays much has much more", x.of(2, 8), 999);
        judge.due("who is paid has less", x.of(1, 8), -1000);
        judge.due("lend(1, 0, 0)", x.lend(1, 0, 0), false);
        judge.due("lend(1, 0, 1000)", x.lend(1, 0, 1000), false);
        judge.due("lend(1, 0, -5)", x.lend(1, 0, -5), false);
        judge.due("lend(1, 1, 5)", x.lend(1, 1, 5), false);
        judge.due("lend(3, 1, 5)", x.lend(3, 1, 5), false);
        judge.due("lend(1, 3, 5)", x.lend(1, 3, 5), false);
        judge.due("lend(-1, 1, 5)", x.lend(-1, 1, 5), false);
        judge.due("lend(1, -1, 5)", x.lend(1, -1, 5), false);
        judge.due("refused, nothing changed", x.of(1, 8), -1000);
        judge.due("a payment is no chair", x.gave(0, 1), 0);
    }

    private static void promise22() {
        OneChairShort x = people(4);
        judge.due("fewest: all are 0", x.fewest(), 0);
        judge.row("fewest: all are 0", x);
        x.lend(1, 3, 7);
        judge.due("fewest: one", x.fewest(), 1);
        judge.row("fewest: one", x, 0b1010);
        x.lend(0, 2, 5);
        judge.due("fewest: two groups", x.fewest(), 2);
        judge.row("fewest: two groups", x, 0b0101, 0b1010);
        x.lend(2, 3, 2);
        judge.due("fewest: one group of four", x.fewest(), 3);
        judge.row("fewest: one group of four", x, 0b1111);
        judge.due("fewest changes nothing", x.of(2, 8), -3);
        x.lend(2, 1, 3);
        judge.due("fewest: who is at 0 is in none", x.fewest(), 2);
        judge.row("fewest: who is at 0 is in none", x, 0b1011);
    }

    private static void promise22Groups() {
        OneChairShort x = people(8);
        // 3, 3, -3, -3, 1, -1, 0, 0: three groups, 0 with the lesser row
        x.lend(0, 2, 3);
        x.lend(1, 3, 3);
        x.lend(4, 5, 1);
        judge.due("fewest: three groups", x.fewest(), 3);
        judge.row("fewest: of all such the least row", x, 0b000101, 0b001010, 0b110000);
        OneChairShort y = people(8);
        // 4, -1, -3, 3, -3, 1, -1, 0: (-3) of 2 or of 4, (-1) of 1 or of 6
        y.lend(0, 1, 1);
        y.lend(0, 2, 3);
        y.lend(3, 4, 3);
        y.lend(5, 6, 1);
        judge.due("fewest: seven in three groups", y.fewest(), 4);
        judge.row("fewest: 0 with 1 and 2", y, 0b0000111, 0b0011000, 0b1100000);
        OneChairShort z = people(6);
        // 5, 2, 3, -5, -4, -1: two groups, 0 and 3 first
        z.lend(0, 3, 5);
        z.lend(1, 4, 2);
        z.lend(2, 4, 2);
        z.lend(2, 5, 1);
        judge.due("fewest: two groups of six", z.fewest(), 4);
        judge.row("fewest: two groups of six", z, 0b001001, 0b110110);
        OneChairShort all = people(8);
        all.lend(0, 7, 9);
        all.lend(1, 6, 8);
        all.lend(2, 5, 7);
        all.lend(3, 4, 6);
        judge.due("fewest: four groups", all.fewest(), 4);
        judge.row("fewest: each group by its least one", all, 0b10000001, 0b01000010, 0b00100100, 0b00011000);
    }

    private static void promise23() {
        OneChairShort x = people(4);
        x.quarters(0);
        judge.due("settle: nothing", x.settle(), 0);
        judge.row("settle: nothing", x, 0);
        x.lend(0, 1, 5);
        x.lend(2, 3, 7);
        x.lend(1, 2, 5);
        // 5, 0, 2, -7
        judge.due("settle: 3 pays 0 and 2", x.settle(), 2);
        judge.row("settle: 3 pays 0 and 2", x, 7);
        for (int person = 0; person < 4; person++) {
            judge.due("settle: credit of " + person, x.of(person, 8), 0);
        }
        // 4, -1, -3, 0: not the fewest as fewest() has it, but by the least and the most
        x.lend(0, 1, 1);
        x.lend(0, 2, 3);
        judge.due("settle: 2 and 1 pay 0", x.settle(), 2);
        judge.row("settle: 2 and 1 pay 0", x, 4);
        OneChairShort y = people(5);
        // 5, 3, -4, -2, -2: -4 pays 5: 1, 3, 0, -2, -2; -2 pays 3: 1, 1, 0, 0, -2; -2 pays 1, 1
        y.lend(0, 2, 4);
        y.lend(0, 3, 1);
        y.lend(1, 3, 1);
        y.lend(1, 4, 2);
        judge.due("fewest of them", y.fewest(), 4);
        judge.due("settle: four payments", y.settle(), 4);
        judge.row("settle: four payments", y, 8);
        OneChairShort z = people(6);
        // 6, 5, 5, -6, -7, -3: fewest: 3 pays 0, and the rest; by settle() 4 pays 0 first
        z.lend(0, 3, 6);
        z.lend(1, 4, 5);
        z.lend(2, 4, 2);
        z.lend(2, 5, 3);
        judge.due("fewest of six", z.fewest(), 4);
        judge.due("settle of six", z.settle(), 5);
        judge.row("settle of six", z, 16);
        judge.due("settle: gave nobody a chair", z.gave(4, 0), 0);
    }
}
