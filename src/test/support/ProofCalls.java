/** Parts of runs that look at all that is told about a proof. */
final class ProofCalls {
    private ProofCalls() {
    }

    /** A call of prove, and the eight numbers about the proof, of which the first one is the verdict. */
    static String proof(int... numbers) {
        StringBuilder calls = new StringBuilder("prove() = ").append(numbers[0]).append(';');
        for (int what = 0; what < numbers.length; what++) {
            calls.append("proof(").append(what).append(") = ").append(numbers[what]).append(';');
        }
        return calls.toString();
    }

    /** All cubes of the proof, each as its mask, value and level, and that there are no more. */
    static String cubes(String... all) {
        StringBuilder calls = new StringBuilder();
        for (int index = 0; index < all.length; index++) {
            String[] numbers = all[index].split(" ");
            for (int what = 0; what < numbers.length; what++) {
                calls.append("cube(" + index + ", " + what + ") = " + numbers[what] + ";");
            }
        }
        return calls + "cube(" + all.length + ", 0) = " + Sentences.INDEX;
    }

    /** All frames of the proof, and that there are no more. */
    static String frames(long... all) {
        StringBuilder calls = new StringBuilder();
        for (int level = 0; level < all.length; level++) {
            calls.append("frame(" + level + ") = " + all[level] + ";");
        }
        return calls + "frame(" + all.length + ") = " + Sentences.INDEX;
    }
}
