/** The helper that README.md shows; its words stand there as they stand here. */
final class Lay {
    private Lay() {
    }

    /** Lays a text behind what the tape has; false, and the tape as it was, where there is no room. */
    static boolean lay(HandTongue hands, String text) {
        int before = hands.count(4);
        for (int from = 0; from < text.length(); from += 20) {
            int[] five = new int[5];
            for (int i = from; i < from + 20 && i < text.length(); i++) {
                five[(i - from) / 4] |= (text.charAt(i) & 255) << 24 - 8 * ((i - from) % 4);
            }
            if (hands.feed(five[0], five[1], five[2], five[3], five[4]) == HandTongue.NONE) {
                hands.end(before);
                return false;
            }
        }
        return hands.end(before + text.length()) >= 0;
    }
}
