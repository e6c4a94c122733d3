/** All that can be seen of an object without changing it, as one text: some 70 calls for three people. */
final class Seen {
    private Seen() {
    }

    static String all(OneChairShort x) {
        StringBuilder all = new StringBuilder(butTheRow(x)).append(" ROW:");
        for (int i = 0; i < x.count(7); i++) {
            all.append(' ').append(x.row(i));
        }
        return all.toString();
    }

    static String butTheRow(OneChairShort x) {
        return butTextAndRow(x) + " THE TEXT: " + x.count(8);
    }

    static String butTextAndRow(OneChairShort x) {
        StringBuilder all = new StringBuilder("counts:");
        int[] counts = {0, 1, 2, 3, 4, 5, 6, 9};
        for (int what : counts) {
            all.append(' ').append(x.count(what));
        }
        for (int person = 0; person < x.count(0); person++) {
            all.append("; ").append(person).append(':');
            for (int what = 0; what <= 10; what++) {
                all.append(' ').append(x.of(person, what));
            }
            all.append(" will ").append(x.will(person, 30)).append(" gave");
            for (int other = 0; other < x.count(0); other++) {
                all.append(' ').append(x.gave(person, other));
            }
        }
        return all.toString();
    }
}
