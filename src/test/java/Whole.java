/** All that can be seen of an object, told in one text. */
final class Whole {
    private Whole() {
    }

    /** What can be seen without a change, but for the fault: counts, people, who comes to each, the log, the seed. */
    static String seen(PanNights x) {
        StringBuilder s = new StringBuilder();
        for (int what = 0; what < 14; what++) {
            s.append(" count ").append(what).append(' ').append(x.count(what));
        }
        s.append(acts(x.count(14)));
        int people = x.count(0);
        for (int p = 0; p < people; p++) {
            s.append(" person ").append(p);
            for (int what = 0; what < 8; what++) {
                s.append(' ').append(x.person(p, what));
            }
            s.append(" comes ").append(x.comes(p)).append(" loud ").append(x.loud(p));
        }
        for (int ago = 0; ago < x.count(13); ago++) {
            s.append(" row");
            for (int what = 0; what < 4; what++) {
                s.append(' ').append(x.log(ago, what));
            }
        }
        int seed = x.seed(0);
        x.seed(seed);
        return s.append(" seed ").append(seed).toString();
    }

    /** How the acts that can be undone stand in the text of what is seen. */
    static String acts(int n) {
        return " acts " + n + ".";
    }

    /** What is hidden, too, a line each: the tape, the states ahead of each act, the image. The object is of no more use then. */
    static String hidden(PanNights x) {
        StringBuilder s = new StringBuilder(seen(x));
        // eleven blanks and a line: how many bytes there were, and what they are by how the text is read
        int bytes = x.feed(0x20202020, 0x20202020, 0x2020203b, 0x616c6520, 0x31372020);
        s.append("\ntape ").append(bytes);
        for (int i = 0; i < 13 && x.undo(); i++) {
            s.append("\nundone").append(seen(x));
        }
        s.append("\nread ").append(Check.answer(() -> x.village())).append(" fault ").append(x.fault()).append(seen(x));
        s.append("\nback ").append(x.back()).append(seen(x));
        return s.toString();
    }
}
