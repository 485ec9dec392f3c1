/** Puts texts on a tape, twenty bytes a call. */
final class Texts {
    private Texts() {
    }

    /** Feeds a text and cuts the tape behind it; what was on the tape ahead of it stays there. */
    static void put(AviaryLock x, String text) {
        int before = x.about(16);
        for (int i = 0; i < text.length(); i += 20) {
            int[] n = five(text, i);
            x.feed(n[0], n[1], n[2], n[3], n[4]);
        }
        x.end(before + text.length());
    }

    static int[] five(String text, int from) {
        int[] n = new int[5];
        for (int i = 0; i < 20; i++) {
            int sign = from + i < text.length() ? text.charAt(from + i) & 255 : ' ';
            n[i / 4] = n[i / 4] << 8 | sign;
        }
        return n;
    }

    /** A new object with the text as its house. */
    static AviaryLock with(String text) {
        AviaryLock x = new AviaryLock();
        put(x, text);
        x.house();
        return x;
    }
}
