/** Feeds a text to a PlyStacker as the document's feed() and end() want it. */
final class Feeder {
    private Feeder() { }

    /** The five numbers of a feed() for each twenty bytes of a text. */
    static int[][] numbers(String text) {
        int[][] out = new int[(text.length() + 19) / 20][5];
        for (int k = 0; k < 20 * out.length; k++) {
            int sign = k < text.length() ? text.charAt(k) & 255 : 0;
            out[k / 20][k % 20 / 4] |= sign << 8 * (3 - k % 4);
        }
        return out;
    }

    static void feed(PlyStacker x, String text) {
        int before = x.count(5);
        for (int[] n : numbers(text)) x.feed(n[0], n[1], n[2], n[3], n[4]);
        x.end(before + text.length());
    }

    /** A new object with a PLATE. */
    static PlyStacker plate(String text) {
        PlyStacker x = new PlyStacker();
        feed(x, text);
        if (x.plate() < 0) throw new IllegalStateException("fault " + x.fault(0) + " at " + x.fault(1) + ": " + text);
        return x;
    }
}
