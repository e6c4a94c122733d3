/** Promises 38 to 40: rules. */
public final class RulesTest {
    private static final Judge judge = new Judge();

    public static void main(String[] args) {
        promise38();
        promise39();
        promise40();
        promise40Signs();
        judge.finish("RulesTest");
    }

    private static OneChairShort three() {
        return Told.fresh("r1;10;20;30", "0", "0", "0");
    }

    private static void promise38() {
        OneChairShort x = three();
        judge.due("even(3): as it is", x.even(3), 0);
        // By age: 2 sits; 1 asks it; 2 asks 1: 3, 2, 1. By b: 0; 1 (of equal 1 1); 2 (b 1 2): 2 2 2. By credit: 0; 1; 0 (1 0): 1, 2, 3.
        judge.row("even(3)", x, 0, 2, 0, 2);
        judge.due("even(1)", x.even(1), 0);
        judge.row("even(1): all as bad", x, 1, 1, 1, 1);
        judge.due("even(0)", x.even(0), 0);
        judge.row("even(0)", x, 0, 0, 0, 0);
        Told.rule(x, 0, "i");
        judge.due("even: by b it is best", x.even(3), 2);
        judge.row("even: by number", x, 2, 2, 0, 2);
        judge.due("even: the rule stays", x.of(2, 9), 2);
        judge.due("even changes nothing", x.count(2), 0);
        Told.rule(x, 0, "0-b");
        Told.plan(x, 0, "0-----------------------");
        x.quarters(2);
        // In all, not only behind now: 1 stood 1 (2 had the chair by age or first), 0 stood 0 or 1.
        judge.due("even: what stood ahead counts", x.even(0), 0);
        judge.row("even: what stood ahead counts", x, most(x), most(x), most(x), most(x));
        OneChairShort late = Told.fresh("r0;10;20;30", "0", "---000000000000000000000", "---000000000000000000000");
        late.quarters(3);
        late.chairs(0, 1);
        late.lend(1, 2, 9);
        // b is 3 0 0. As it is 0, 1, 2 sit: 5 2 2. By age 2, 1, 2: 6 2 1. By b 0, 1, 0: 4 2 3. By credit 1, 0, 1: 5 1 3.
        judge.due("even(3): by b, where one stood before", late.even(3), 2);
        judge.row("even(3): all four unlike", late, 3, 5, 2, 4);
        OneChairShort giving = Told.fresh("r2;10;20;30", "0", "0", "0");
        Told.rule(giving, 1, "i");
        // 0 and 1 sit, 2 asks 1, then 1 asks 2, and so on: 0 2 2. By age 2 and 1 sit, 0 asks 2, 2 asks 1, 1 asks 2: 1 1 2.
        judge.due("even(4): rule 1 stays", giving.even(4), 1);
        judge.row("even(4): rule 1 stays", giving, 2, 1, 2, 2);
        OneChairShort away = Told.fresh("r0;5;6", "0", "-");
        judge.due("even: who is nowhere counts", away.even(200), 0);
        judge.row("even: who is nowhere counts", away, 200, 200, 200, 200);
        judge.due("even(201)", away.even(201), -1);
        judge.due("even(-1)", away.even(-1), -1);
        judge.row("even: the row stays", away, 200, 200, 200, 200);
        judge.due("even: nobody", Told.fresh("r1").even(5), -2);
        judge.due("even: NONE ahead of -2", Told.fresh("r1").even(201), -1);
    }

    private static int most(OneChairShort x) {
        int most = 0;
        int least = 1000;
        for (int person = 0; person < x.count(0); person++) {
            most = Math.max(most, x.of(person, 7));
            least = Math.min(least, x.of(person, 7));
        }
        return most - least;
    }

    private static void promise39() {
        OneChairShort x = Told.fresh("r1;10!;20", "0", "0");
        judge.due("spares(1, 9): nothing by its own", x.spares(1, 9), 0);
        // As it is 0 sits for ever. Well: it stands 4 of 9.
        judge.due("spares(0, 9): well it would stand", x.spares(0, 9), -4);
        judge.due("spares changes nothing", x.of(0, 1), 1);
        judge.due("spares changes no NOW", x.count(2), 0);
        x.sick(0, false);
        judge.due("spares(0, 9): sick it would not", x.spares(0, 9), 4);
        // Sick, 1 keeps the chair it got in quarter 1: as it is it stands in 0, 2, 4, 6, 8.
        judge.due("spares(1, 9)", x.spares(1, 9), 4);
        judge.due("spares(1, 0)", x.spares(1, 0), 0);
        judge.due("spares(1, 100)", x.spares(1, 100), 49);
        Told.rule(x, 0, "k");
        judge.due("spares: by a rule that asks for k", x.spares(1, 1), 1);
        judge.noSuch("spares(2, 1)", () -> x.spares(2, 1));
        judge.noSuch("spares(-1, 1)", () -> x.spares(-1, 1));
        judge.noSuch("spares(0, 101)", () -> x.spares(0, 101));
        judge.noSuch("spares(0, -1)", () -> x.spares(0, -1));
    }

    private static void promise40() {
        OneChairShort x = new OneChairShort();
        judge.due("round: nobody", x.round(), 1);
        judge.row("round: nobody", x, 0);
        OneChairShort three = three();
        // After 2: 1 sits, t 1 0 2; after 5 again.
        judge.due("round: three", three.round(), 5);
        judge.row("round: three", three, 2);
        three.quarters(2);
        judge.due("round: three, from there on", three.round(), 3);
        judge.row("round: now counts", three, 0);
        judge.due("round changes nothing", three.count(2), 2);
        OneChairShort sits = Told.fresh("r1;5", "0");
        judge.due("round: s grows for ever", sits.round(), -2);
        judge.row("round: the row is empty still", sits);
        OneChairShort two = Told.fresh("r1;5;6", "0", "0");
        judge.due("round: two", two.round(), 3);
        judge.row("round: two", two, 1);
        two.sick(0, true);
        judge.due("round: sick", two.round(), -2);
        judge.row("round: the row stays", two, 1);
    }

    private static void promise40Signs() {
        OneChairShort x = Told.fresh("r1;5;6", "-0", "---");
        // After 6 quarters 0 sits, where it was nowhere; after 7 it is nowhere, as after 1.
        judge.due("round: 2 and 3 signs", x.round(), 7);
        judge.row("round: 2 and 3 signs", x, 1);
        x.quarters(2);
        judge.due("round: now it is", x.round(), 6);
        judge.row("round: now it is", x, 0);
        OneChairShort far = Told.fresh("r1;5;6", "0----------------------", "----------------------");
        judge.due("round: 23 and 22 signs, not within 500", far.round(), -2);
        OneChairShort near = Told.fresh("r1;5;6", "0------------------------".substring(0, 24), "--------------------");
        judge.due("round: 24 and 20 signs", near.round(), 120);
        judge.row("round: 24 and 20 signs: nowhere in the end as at first", near, 0);
        OneChairShort last = Told.fresh("r1;5;6", "0-----------------------".substring(0, 22), "-----------------------");
        judge.due("round: 22 and 23 signs: 506", last.round(), -2);
        OneChairShort wide = Told.fresh("r1;5;6", "0-----------------------".substring(0, 21), "-----------------------");
        judge.due("round: 21 and 23 signs: 483", wide.round(), 483);
        judge.row("round: 21 and 23 signs", wide, 0);
        // It sits from the end of one round into the next: as after 17, where it sat from the beginning alone, after 500 first.
        OneChairShort edge = Told.fresh("r1;5;6", "0000000000000000----0", "-----------------------");
        judge.due("round: after 500", edge.round(), 500);
        judge.row("round: after 500", edge, 17);
        OneChairShort beyond = Told.fresh("r1;5;6", "00000000000000000---0", "-----------------------");
        judge.due("round: after 501 it would be", beyond.round(), -2);
        OneChairShort looked = Told.fresh("r1;5;6", "0", "0");
        looked.even(7);
        judge.due("round: another look ahead changes nothing", looked.round(), 3);
        OneChairShort none = Told.fresh("r1;5;6", "-0", "");
        judge.due("round: who has no plan has no signs", none.round(), 2 + 1);
        judge.row("round: who has no plan has no signs", none, 1);
    }
}
