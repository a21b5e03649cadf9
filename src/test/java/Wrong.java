/** Calls with what there is none of: one beyond, one below, and the ends of the numbers. */
final class Wrong {
    interface One {
        int of(int a);
    }

    interface Two {
        int of(int a, int b);
    }

    interface Three {
        int of(int a, int b, int c);
    }

    private Wrong() {
    }

    private static int[] beside(int many) {
        return new int[] {-1, many, many + 1, Integer.MAX_VALUE, Integer.MIN_VALUE};
    }

    /** Of so many there are none such beside them. */
    static void one(String words, One call, int many) {
        for (int a : beside(many)) {
            Doc.edge(words, call.of(a), -2);
        }
    }

    static void two(String words, Two call, int many, int manyMore) {
        for (int a : beside(many)) {
            Doc.edge(words, call.of(a, 0), -2);
            Doc.edge(words, call.of(a, -1), -2);
        }
        for (int b : beside(manyMore)) {
            Doc.edge(words, call.of(0, b), -2);
        }
    }

    static void three(String words, Three call, int many, int manyMore, int most) {
        two(words, (a, b) -> call.of(a, b, 0), many, manyMore);
        for (int c : beside(most)) {
            Doc.edge(words, call.of(0, 0, c), -2);
        }
    }
}
