/** All that can be asked of an object without changing it, as one text: two objects alike tell the same. */
final class State {
    private State() {
    }

    static String ofHeap(LooseHeap x) {
        StringBuilder text = new StringBuilder();
        for (int what = 0; what <= 8; what++) {
            text.append(x.told(what)).append(what < 8 ? ' ' : '\n');
        }
        text.append(x.bits()).append('\n');
        for (int rank = 0; rank < 41; rank++) {
            text.append(x.loose(rank)).append(' ');
        }
        text.append('\n');
        for (int job = 0; job < 40; job++) {
            for (int what = 0; what <= 8; what++) {
                text.append(x.job(job, what)).append(' ');
            }
            for (int k = 0; k < 40; k++) {
                int child = x.child(job, k);
                text.append(child).append(' ');
                if (child < 0) {
                    break;
                }
            }
            text.append('\n');
        }
        return text.toString();
    }

    static String ofBenches(LooseHeap x) {
        StringBuilder text = new StringBuilder();
        for (int bench = 0; bench < 2; bench++) {
            for (int place = 0; place < 8; place++) {
                text.append(x.sits(bench, place)).append(' ');
            }
        }
        return text.toString();
    }

    static String ofNet(LooseHeap x) {
        StringBuilder text = new StringBuilder();
        text.append(x.told(9)).append(' ').append(x.told(10)).append('\n');
        for (int from = 0; from < 8; from++) {
            for (int what = 0; what < 5; what++) {
                text.append(x.tree(from, what)).append(' ').append(x.ways(from, what)).append(' ');
            }
            for (int to = 0; to < 8; to++) {
                text.append(x.way(from, to)).append(' ');
            }
            text.append('\n');
        }
        return text.toString();
    }

    static String of(LooseHeap x) {
        return ofHeap(x) + ofBenches(x) + '\n' + ofNet(x);
    }
}
