/** Objects to test, and all that can be seen of one. */
final class Rows {
    private Rows() {
    }

    static BeltRows withBelts(int... lengthsAndSpeeds) {
        BeltRows x = new BeltRows();
        for (int i = 0; i < lengthsAndSpeeds.length; i += 2) {
            x.belt(lengthsAndSpeeds[i], lengthsAndSpeeds[i + 1]);
        }
        return x;
    }

    /** Every answer of the calls that only ask. */
    static String seen(BeltRows x) {
        StringBuilder all = new StringBuilder("count");
        for (int what = 0; what <= 7; what++) {
            all.append(' ').append(x.count(what));
        }
        for (int belt = 0; belt < x.count(0); belt++) {
            all.append("\nbelt ").append(belt).append(':');
            for (int what = 0; what <= 8; what++) {
                all.append(' ').append(x.known(belt, what));
            }
        }
        for (int item = 1; item <= x.count(1); item++) {
            all.append("\nitem ").append(item).append(':');
            for (int what = 0; what <= 6; what++) {
                all.append(' ').append(x.told(item, what));
            }
        }
        for (int i = 0; i < x.count(4); i++) {
            all.append("\nedge ").append(i).append(':');
            for (int what = 0; what <= 3; what++) {
                all.append(' ').append(x.edge(i, what));
            }
        }
        all.append("\nout:");
        for (int i = 0; i < x.count(3); i++) {
            all.append(' ').append(x.order(i));
        }
        return all.append(x.count(3) == 0 ? "" : " mean " + x.mean()).toString();
    }
}
