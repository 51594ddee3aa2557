/** Counts answers, and tells those that are not the ones that are due. */
final class Due {
    private int passed = 0;
    private int failed = 0;
    private String part = "";

    void part(String name) {
        part = name;
    }

    void same(String call, long got, long want) {
        if (got == want) {
            passed++;
            return;
        }
        failed++;
        if (failed <= 40) {
            System.out.println(part + ": " + call + " answered " + got + ", due is " + want);
        }
    }

    int asked() {
        return passed + failed;
    }

    boolean hasFailed() {
        return failed > 0;
    }

    void close(String test) {
        System.out.println(test + ": " + passed + " answers as due, " + failed + " not");
        if (failed > 0) {
            System.exit(1);
        }
    }
}
