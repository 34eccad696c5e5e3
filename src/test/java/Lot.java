/** The numbers that cards draw, by the words of the document, in long arithmetic. */
final class Lot {
    private long x;

    Lot(int x) {
        this.x = x;
    }

    int draw(int below) {
        x = (x * 1103515245L + 12345L) % 2147483648L;
        return (int) (x / 65536L % below);
    }

    int x() {
        return (int) x;
    }

    /** How many slots of one more frame clash, if no card leaves or goes to sleep. */
    int clashes(int cards, int slots) {
        int[] row = new int[slots];
        int clashes = 0;
        for (int i = 0; i < cards; i++) {
            int slot = draw(slots);
            row[slot]++;
            if (row[slot] == 2) {
                clashes++;
            }
        }
        return clashes;
    }

    /** The least x from which the next frames have so many clashes; -1 if it is not found soon. */
    static int from(int cards, int[] slots, int[] clashes) {
        for (int x = 0; x < 1000000; x++) {
            Lot lot = new Lot(x);
            int frame = 0;
            while (frame < clashes.length && lot.clashes(cards, slots[frame]) == clashes[frame]) {
                frame++;
            }
            if (frame == clashes.length) {
                return x;
            }
        }
        return -1;
    }
}
