public final class FirstTest {
    public static void main(String[] args) {
        Cubecaller x = new Cubecaller();
        if (x.facts() != 0 || x.kept() != 0 || x.hits() != 0) { System.out.println("not empty"); System.exit(1); }
    }
}
