/** All that an object can tell of itself, but for the REFUSALS; the object is used up by it. */
final class Readout {
    private final LettersThatPass x;
    private final StringBuilder out = new StringBuilder();

    private Readout(LettersThatPass x) {
        this.x = x;
    }

    /** Some 350 calls: what is read out must have had fewer than 150. */
    static String of(LettersThatPass x) {
        Readout all = new Readout(x);
        all.counts();
        all.lists();
        all.laws();
        all.words();
        all.undone();
        all.letters();
        all.image();
        return all.out.toString();
    }

    static int[] refusals(LettersThatPass x) {
        int[] all = new int[6];
        for (int k = 0; k < all.length; k++) {
            all[k] = x.count(11 + k);
        }
        return all;
    }

    private void tell(long number) {
        out.append(number).append(' ');
    }

    private void counts() {
        out.append("counts: ");
        for (int what = 0; what <= 4; what++) {
            tell(x.count(what));
        }
    }

    private void lists() {
        for (int list = 0; list < 3; list++) {
            out.append("list: ");
            for (int i = 0; i <= 40; i++) {
                long number = x.look(list, i);
                tell(number);
                if (number >= Due.FAR) {
                    break;
                }
            }
        }
    }

    private void laws() {
        out.append("laws: ");
        for (int a = 0; a < 6; a++) {
            tell(x.of(a, 0));
            tell(x.of(a, 1));
        }
    }

    private void words() {
        out.append("words: ");
        int words = x.count(0);
        for (int word = 0; word < words; word++) {
            int length = x.at(word, -1);
            tell(length);
            for (int i = 0; i < length; i++) {
                tell(x.at(word, i));
            }
        }
    }

    private void undone() {
        for (int k = x.count(4); k > 0; k--) {
            tell(x.undo());
            laws();
        }
    }

    /** What letters there are is seen by the WORD, or the FAULT, that they make. */
    private void letters() {
        for (int k = x.count(0); k > 0; k--) {
            x.drop();
        }
        out.append("letters: ");
        tell(x.word());
        words();
    }

    private void image() {
        out.append("image: ");
        tell(x.on());
        laws();
        words();
    }
}
