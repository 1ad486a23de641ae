/** Brings texts to THE TAPE by feed and trim. */
final class Fed {
    private Fed() {
    }

    static void bytes(NineMasters x, int[] bytes) {
        for (int at = 0; at < bytes.length; at += 12) {
            int[] three = new int[3];
            for (int i = 0; i < 12; i++) {
                int b = at + i < bytes.length ? bytes[at + i] : 0;
                three[i / 4] = three[i / 4] << 8 | b & 255;
            }
            x.feed(three[0], three[1], three[2]);
        }
        x.trim(bytes.length);
    }

    /** The text with its own length (exact), or with blanks behind it up to a row of twelve. */
    static int text(NineMasters x, String text, boolean exact) {
        StringBuilder laid = new StringBuilder(text);
        while (!exact && laid.length() % 12 != 0) {
            laid.append(' ');
        }
        int[] bytes = new int[laid.length()];
        for (int i = 0; i < bytes.length; i++) {
            bytes[i] = laid.charAt(i);
        }
        bytes(x, bytes);
        return x.text();
    }
}
