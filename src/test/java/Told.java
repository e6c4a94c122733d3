/** Objects that have been told something, as texts. */
final class Told {
    private Told() {
    }

    /** THE TEXT becomes this one, whatever it was. */
    static OneChairShort text(OneChairShort x, String text) {
        x.end(0);
        for (int k = 0; k < text.length(); k += 4) {
            int v = 0;
            for (int j = k; j < k + 4; j++) {
                v = v << 8 | (j < text.length() ? text.charAt(j) & 255 : 0);
            }
            x.sign(v);
        }
        x.end(text.length());
        return x;
    }

    static int town(OneChairShort x, String text) {
        return text(x, text).town();
    }

    static int plan(OneChairShort x, int person, String text) {
        return text(x, text).plan(person);
    }

    static int rule(OneChairShort x, int i, String text) {
        return text(x, text).rule(i);
    }

    static int day(OneChairShort x, String text) {
        return text(x, text).day();
    }

    /** A new object with a town, and a plan for each of the first people. */
    static OneChairShort fresh(String town, String... plans) {
        OneChairShort x = new OneChairShort();
        town(x, town);
        for (int person = 0; person < plans.length; person++) {
            plan(x, person, plans[person]);
        }
        return x;
    }
}
