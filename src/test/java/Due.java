/** What every test needs: answers held against what is due, and texts told over the TAPE. */
final class Due {
    int passed;
    int failed;

    void due(String call, long got, long want) {
        if (got == want) {
            passed++;
        } else {
            failed++;
            System.out.println(call + " answered " + got + ", due is " + want);
        }
    }

    void close() {
        close(passed, failed);
    }

    static void close(int passed, int failed) {
        System.out.println(passed + " passed, " + failed + " failed");
        if (failed > 0 || passed == 0) {
            System.exit(1);
        }
    }

    /** Five numbers of the twenty bytes from a place on, 0 behind the end. */
    static int[] twenty(String text, int from) {
        int[] numbers = new int[5];
        for (int i = 0; i < 20; i++) {
            int b = from + i < text.length() ? text.charAt(from + i) & 255 : 0;
            numbers[i / 4] = numbers[i / 4] << 8 | b;
        }
        return numbers;
    }

    /** The TAPE is that text alone. */
    static void tell(FoxReply fox, String text) {
        fox.end(0);
        for (int i = 0; i < text.length(); i += 20) {
            int[] v = twenty(text, i);
            fox.feed(v[0], v[1], v[2], v[3], v[4]);
        }
        fox.end(text.length());
    }

    static int hunt(FoxReply fox, String text) {
        tell(fox, text);
        return fox.hunt();
    }

    static int rule(FoxReply fox, String text) {
        tell(fox, text);
        return fox.rule();
    }

    static FoxReply hunted(String text) {
        FoxReply fox = new FoxReply();
        hunt(fox, text);
        return fox;
    }
}
