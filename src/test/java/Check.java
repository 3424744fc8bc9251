/** Counts and prints the answers that are not the ones that are due. */
final class Check {
    private int wrong;
    private int checks;
    private int sentences;
    private String about = "";

    void promise(int number) {
        about = "promise " + number;
    }

    /** What follows tests this sentence of the document. */
    void sentence(String words) {
        about = '"' + words + '"';
        sentences++;
    }

    void due(String what, long got, long want) {
        checks++;
        if (got != want) {
            wrong++;
            System.out.println(about + ": " + what + " answered " + got + ", due is " + want);
        }
    }

    void due(String what, boolean got, boolean want) {
        due(what, got ? 1 : 0, want ? 1 : 0);
    }

    /** The exception must be of just this class: what the machine throws by itself is of another one. */
    void thrown(String what, Class<?> want, Runnable call) {
        checks++;
        Class<?> got = null;
        try {
            call.run();
        } catch (RuntimeException e) {
            got = e.getClass();
        }
        if (got != want) {
            wrong++;
            System.out.println(about + ": " + what + " threw " + got + ", due is " + want);
        }
    }

    void noPlace(String what, Runnable call) {
        thrown(what, IndexOutOfBoundsException.class, call);
    }

    void noRange(String what, Runnable call) {
        thrown(what, IllegalArgumentException.class, call);
    }

    void noState(String what, Runnable call) {
        thrown(what, IllegalStateException.class, call);
    }

    void end() {
        if (sentences > 0) System.out.println(sentences + " sentences of the document are tested");
        System.out.println(checks - wrong + " of " + checks + " checks are as due");
        if (wrong > 0) System.exit(1);
    }
}
