/** The upper and the lower part of a ratio or a mean, as an object answers them. */
record Part(long upper, long lower) {
    static Part ratio(Renewed objects, int plan, int end) {
        return new Part(objects.x().ratio(plan, end, 0), objects.x().ratio(plan, end, 1)).inLeastForm();
    }

    static Part mean(Renewed objects, int end) {
        return new Part(objects.x().mean(end, 0), objects.x().mean(end, 1)).inLeastForm();
    }

    /** A pair that is not so is told, and stood in for, so that a wrong answer stops no test. */
    private Part inLeastForm() {
        boolean isSo = upper > 0 && lower > 0 && commonDivisor(upper, lower) == 1;
        Due.holds(this + " is in least form", isSo);
        return isSo ? this : new Part(1, 1);
    }

    private static long commonDivisor(long a, long b) {
        return b == 0 ? a : commonDivisor(b, a % b);
    }

    /** Below, at or above 0, as this is less than, as much as or more than the other. */
    int compare(long otherUpper, long otherLower) {
        return Long.compare(upper * otherLower, otherUpper * lower);
    }

    int compare(Part other) {
        return compare(other.upper, other.lower);
    }
}
