/**
 * All that can be seen of an object, in several looks: each of them takes so few calls that it
 * fits, behind those that made the state, into the calls that an object is promised to answer.
 */
final class Looks {
    /** The last ones use up the tape, or go back to the image. */
    static final int HOW_MANY = 13;

    private Looks() { }

    static String at(Counted x, int look) {
        switch (look) {
            case 0: return sizes(x);
            case 1: return elements(x, 0);
            case 2: return elements(x, 4);
            case 3: return places(x, 0, 30);
            case 4: return places(x, 30, 60);
            case 5: return asks(x, 0, 12);
            case 6: return asks(x, 12, 24);
            case 7: return lists(x, 0);
            case 8: return lists(x, 8);
            case 9: return lists(x, 16);
            case 10: return tapeAsText(x);
            case 11: return tapeAsAsk(x);
            default: return image(x);
        }
    }

    /** How often each number was answered as a refusal. */
    static int[] refusals(Counted x) {
        int[] counts = new int[5];
        for (int i = 0; i < 5; i++) {
            counts[i] = x.status(12 + i);
        }
        return counts;
    }

    private static String sizes(Counted x) {
        StringBuilder seen = new StringBuilder("status, holds:");
        for (int what = 0; what <= 8; what++) {
            seen.append(' ').append(x.status(what));
        }
        for (int s = 0; s < 8; s++) {
            seen.append(' ').append(x.holds(s));
        }
        return seen.toString();
    }

    private static String elements(Counted x, int from) {
        StringBuilder seen = new StringBuilder("elements:");
        for (int s = from; s < from + 4; s++) {
            for (int i = 0; i < 40; i++) {
                seen.append(' ').append(x.element(s, i));
            }
        }
        return seen.toString();
    }

    private static String places(Counted x, int from, int to) {
        StringBuilder seen = new StringBuilder("places:");
        int size = x.status(0);
        for (int place = from; place < size && place < to; place++) {
            for (int what = 0; what <= 4; what++) {
                seen.append(' ').append(x.placeOf(place, what));
            }
        }
        return seen.toString();
    }

    private static String asks(Counted x, int from, int to) {
        StringBuilder seen = new StringBuilder("asks:");
        int size = x.status(3);
        for (int ask = from; ask < size && ask < to; ask++) {
            for (int what = 0; what <= 7; what++) {
                seen.append(' ').append(x.askOf(ask, what));
            }
        }
        return seen.toString();
    }

    private static String lists(Counted x, int from) {
        StringBuilder seen = new StringBuilder("lists:");
        int size = x.status(3);
        for (int ask = from; ask < size && ask < from + 8; ask++) {
            int many = x.many(ask);
            seen.append(" (").append(many);
            for (int i = 0; i < many; i++) {
                seen.append(' ').append(x.span(ask, i));
            }
            seen.append(')');
        }
        return seen.toString();
    }

    private static String tapeAsText(Counted x) {
        int first = x.status(0);
        StringBuilder seen = new StringBuilder("tape as a text: ").append(x.text());
        int size = x.status(0);
        for (int place = first; place < size; place++) {
            seen.append(' ').append(x.placeOf(place, 0)).append(' ').append(x.placeOf(place, 1));
        }
        return seen.toString();
    }

    private static String tapeAsAsk(Counted x) {
        int first = x.status(3);
        StringBuilder seen = new StringBuilder("tape as an ask: ").append(x.ask());
        int size = x.status(3);
        for (int ask = first; ask < size; ask++) {
            seen.append(' ').append(x.askOf(ask, 0)).append(' ').append(x.askOf(ask, 4));
        }
        return seen.toString();
    }

    private static String image(Counted x) {
        StringBuilder seen = new StringBuilder("image: ").append(x.back()).append(' ').append(sizes(x));
        int places = x.status(0);
        for (int place = 0; place < places; place++) {
            seen.append(' ').append(x.placeOf(place, 0)).append(' ').append(x.placeOf(place, 1));
        }
        int asks = x.status(3);
        for (int ask = 0; ask < asks; ask++) {
            seen.append(' ').append(x.askOf(ask, 0)).append(' ').append(x.askOf(ask, 4));
        }
        return seen.toString();
    }
}
